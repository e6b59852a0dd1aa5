/-! StripsOfFourModel.of -/
abbrev c_X7_of : Cf := (prog_9_method_18_code, 3, "StripsOfFourModel", "of", (some .int), { frames := 0, cells := 0, slots := 0, locals := 0 })
theorem d_X7_of_0 : decode prog_9_method_18_code 0 = .ok (.aload_n 0, 1) := by decide +kernel
theorem d_X7_of_1 : decode prog_9_method_18_code 1 = .ok (.getfield 31, 3) := by decide +kernel
theorem d_X7_of_4 : decode prog_9_method_18_code 4 = .ok (.bipush 50, 2) := by decide +kernel
theorem d_X7_of_6 : decode prog_9_method_18_code 6 = .ok (.bipush 19, 2) := by decide +kernel
theorem d_X7_of_8 : decode prog_9_method_18_code 8 = .ok (.iload_n 1, 1) := by decide +kernel
theorem d_X7_of_9 : decode prog_9_method_18_code 9 = .ok (.imul, 1) := by decide +kernel
theorem d_X7_of_10 : decode prog_9_method_18_code 10 = .ok (.iadd, 1) := by decide +kernel
theorem d_X7_of_11 : decode prog_9_method_18_code 11 = .ok (.iload_n 2, 1) := by decide +kernel
theorem d_X7_of_12 : decode prog_9_method_18_code 12 = .ok (.iadd, 1) := by decide +kernel
theorem d_X7_of_13 : decode prog_9_method_18_code 13 = .ok (.iaload, 1) := by decide +kernel
theorem d_X7_of_14 : decode prog_9_method_18_code 14 = .ok (.ireturn, 1) := by decide +kernel
def m_X7_of (sh : Sh) (v0 : Nat) (v1 : Int32) (v2 : Int32) (μ : Mu) : Option (Int32 × Mu) :=
  gd (iz sh 7 v0) <|
  bd (gR μ v0 16) fun a2 =>
  gd (ix sh 8 a2 ((50 + (19 * v1)) + v2)) <|
  bd (gI μ a2 ((50 + (19 * v1)) + v2).toNatClampNeg) fun w4 =>
  some (w4, μ)
set_option maxHeartbeats 4000000 in
set_option maxRecDepth 20000 in
theorem t_X7_of {l : Launch} {G : Gl} {n : Nat} {sh : Sh} {x : Int32 × Mu} {v0 : Nat} {v1 : Int32} {v2 : Int32} {μ : Mu} (h : m_X7_of sh v0 v1 v2 μ = some x) : Ct l G ⟨"StripsOfFourModel", "of", "(II)I"⟩ prog_9_method_18_code 3 (some .int) { frames := 0, cells := 0, slots := 0, locals := 0 } n sh μ [vr v0, vi v1, vi v2] (some (.int x.1)) n sh x.2 := by
  refine Ct.of (lc := [some (vr v0), some (vi v1), some (vi v2)]) (by decide +kernel) (Nat.le_of_ble_eq_true rfl) rfl ?_
  show Sj l G (QI G n sh x) c_X7_of n sh 0 0 μ 0 [some (vr v0), some (vi v1), some (vi v2)] []
  unfold m_X7_of at h
  refine s_aload_n (pc := 0) d_X7_of_0 rfl rfl ?_
  obtain ⟨g1, h⟩ := gd_1 h
  refine s_getR (pc := 1) (k := 16) cl_7 d_X7_of_1 g1 (by decide) w_676 (rt_arr _) ?_
  obtain ⟨a2, ea2, h⟩ := bd_1 h
  refine s_topR ea2 ?_
  refine s_bipush (pc := 4) (v := 50) d_X7_of_4 (by decide) ?_
  refine s_bipush (pc := 6) (v := 19) d_X7_of_6 (by decide) ?_
  refine s_iload_n (pc := 8) d_X7_of_8 rfl rfl ?_
  refine s_imul (pc := 9) d_X7_of_9 ?_
  refine s_iadd (pc := 10) d_X7_of_10 ?_
  refine s_iload_n (pc := 11) d_X7_of_11 rfl rfl ?_
  refine s_iadd (pc := 12) d_X7_of_12 ?_
  obtain ⟨g3, h⟩ := gd_1 h
  refine s_iald (pc := 13) d_X7_of_13 g3 ?_
  obtain ⟨w4, ew4, h⟩ := bd_1 h
  refine s_topI ew4 ?_
  obtain rfl := Option.some.inj h
  exact s_iret (pc := 14) d_X7_of_14 rfl
/-! StripsOfFourModel.tornOnes -/
abbrev c_X7_tornOnes : Cf := (prog_9_method_20_code, 3, "StripsOfFourModel", "tornOnes", (some .int), { frames := 1, cells := 0, slots := 0, locals := 22 })
theorem d_X7_tornOnes_0 : decode prog_9_method_20_code 0 = .ok (.iconst 0, 1) := by decide +kernel
theorem d_X7_tornOnes_1 : decode prog_9_method_20_code 1 = .ok (.istore_n 1, 1) := by decide +kernel
theorem d_X7_tornOnes_2 : decode prog_9_method_20_code 2 = .ok (.iconst 0, 1) := by decide +kernel
theorem d_X7_tornOnes_3 : decode prog_9_method_20_code 3 = .ok (.istore_n 2, 1) := by decide +kernel
theorem d_X7_tornOnes_4 : decode prog_9_method_20_code 4 = .ok (.iload_n 2, 1) := by decide +kernel
theorem d_X7_tornOnes_5 : decode prog_9_method_20_code 5 = .ok (.aload_n 0, 1) := by decide +kernel
theorem d_X7_tornOnes_6 : decode prog_9_method_20_code 6 = .ok (.getfield 31, 3) := by decide +kernel
theorem d_X7_tornOnes_9 : decode prog_9_method_20_code 9 = .ok (.sipush 202, 3) := by decide +kernel
theorem d_X7_tornOnes_12 : decode prog_9_method_20_code 12 = .ok (.iaload, 1) := by decide +kernel
theorem d_X7_tornOnes_13 : decode prog_9_method_20_code 13 = .ok (.if_icmp .ge 28, 3) := by decide +kernel
theorem d_X7_tornOnes_16 : decode prog_9_method_20_code 16 = .ok (.iload_n 1, 1) := by decide +kernel
theorem d_X7_tornOnes_17 : decode prog_9_method_20_code 17 = .ok (.aload_n 0, 1) := by decide +kernel
theorem d_X7_tornOnes_18 : decode prog_9_method_20_code 18 = .ok (.iload_n 2, 1) := by decide +kernel
theorem d_X7_tornOnes_19 : decode prog_9_method_20_code 19 = .ok (.iconst 1, 1) := by decide +kernel
theorem d_X7_tornOnes_20 : decode prog_9_method_20_code 20 = .ok (.invokevirtual 115, 3) := by decide +kernel
theorem d_X7_tornOnes_23 : decode prog_9_method_20_code 23 = .ok (.ifCond .le 9, 3) := by decide +kernel
theorem d_X7_tornOnes_26 : decode prog_9_method_20_code 26 = .ok (.iconst 1, 1) := by decide +kernel
theorem d_X7_tornOnes_27 : decode prog_9_method_20_code 27 = .ok (.iload_n 2, 1) := by decide +kernel
theorem d_X7_tornOnes_28 : decode prog_9_method_20_code 28 = .ok (.ishl, 1) := by decide +kernel
theorem d_X7_tornOnes_29 : decode prog_9_method_20_code 29 = .ok (.goto 4, 3) := by decide +kernel
theorem d_X7_tornOnes_32 : decode prog_9_method_20_code 32 = .ok (.iconst 0, 1) := by decide +kernel
theorem d_X7_tornOnes_33 : decode prog_9_method_20_code 33 = .ok (.ior, 1) := by decide +kernel
theorem d_X7_tornOnes_34 : decode prog_9_method_20_code 34 = .ok (.istore_n 1, 1) := by decide +kernel
theorem d_X7_tornOnes_35 : decode prog_9_method_20_code 35 = .ok (.iinc 2 1, 3) := by decide +kernel
theorem d_X7_tornOnes_38 : decode prog_9_method_20_code 38 = .ok (.goto (-34), 3) := by decide +kernel
theorem d_X7_tornOnes_41 : decode prog_9_method_20_code 41 = .ok (.iload_n 1, 1) := by decide +kernel
theorem d_X7_tornOnes_42 : decode prog_9_method_20_code 42 = .ok (.ireturn, 1) := by decide +kernel
def m_X7_tornOnes_b33 (sh : Sh) (k4 : Int32 → Int32 → Mu → Option (Int32 × Mu)) (v0 : Nat) (v2 : Int32) (s0 : Int32) (s1 : Int32) (μ : Mu) : Option (Int32 × Mu) :=
  bd (s1 ||| s0) fun w9 =>
  bd (v2 + 1) fun w10 =>
  k4 w9 w10 μ
def m_X7_tornOnes_b4 (sh : Sh) (k4 : Int32 → Int32 → Mu → Option (Int32 × Mu)) (v0 : Nat) (v1 : Int32) (v2 : Int32) (μ : Mu) : Option (Int32 × Mu) :=
  gd (iz sh 7 v0) <|
  bd (gR μ v0 16) fun a2 =>
  gd (ix sh 8 a2 202) <|
  bd (gI μ a2 (202 : Int32).toNatClampNeg) fun w4 =>
  if w4 ≤ v2 then
    some (v1, μ)
  else
    ca2 (m_X7_of sh v0 v2 1 μ) fun r6 μ7 =>
    if r6 ≤ 0 then
      m_X7_tornOnes_b33 sh k4 v0 v2 0 v1 μ7
    else
      m_X7_tornOnes_b33 sh k4 v0 v2 (1 <<< (v2 &&& 31)) v1 μ7
def m_X7_tornOnes_h4 (sh : Sh) (v0 : Nat) : Nat → Int32 → Int32 → Mu → Option (Int32 × Mu)
  | 0 => fun _ _ _ => none
  | f + 1 => fun v1 v2 μ => m_X7_tornOnes_b4 sh (m_X7_tornOnes_h4 sh v0 f) v0 v1 v2 μ
def m_X7_tornOnes (sh : Sh) (v0 : Nat) (μ : Mu) : Option (Int32 × Mu) :=
  m_X7_tornOnes_h4 sh v0 FU 0 0 μ
set_option maxHeartbeats 4000000 in
set_option maxRecDepth 20000 in
theorem t_X7_tornOnes_b33 {l : Launch} {G : Gl} {n : Nat} {sh : Sh} {x : Int32 × Mu} {k4 : Int32 → Int32 → Mu → Option (Int32 × Mu)} {v0 : Nat} {v2 : Int32} {s0 : Int32} {s1 : Int32} {μ : Mu} (hk4 : ∀ (v1 : Int32) (v2 : Int32) (μ : Mu), k4 v1 v2 μ = some x → Sj l G (QI G n sh x) c_X7_tornOnes n sh 0 0 μ 4 [some (vr v0), some (vi v1), some (vi v2)] []) (h : m_X7_tornOnes_b33 sh k4 v0 v2 s0 s1 μ = some x) : Sj l G (QI G n sh x) c_X7_tornOnes n sh 0 0 μ 33 [some (vr v0), none, some (vi v2)] [vi s0, vi s1] := by
  unfold m_X7_tornOnes_b33 at h
  refine s_ior (pc := 33) d_X7_tornOnes_33 ?_
  obtain ⟨w9, ew9, h⟩ := bd_1 h
  refine s_topI ew9 ?_
  refine s_istore_n (pc := 34) (lc' := [some (vr v0), some (vi w9), some (vi v2)]) d_X7_tornOnes_34 rfl (by decide) rfl ?_
  obtain ⟨w10, ew10, h⟩ := bd_1 h
  refine s_iinc (pc := 35) (v := w10) (lc' := [some (vr v0), some (vi w9), some (vi w10)]) d_X7_tornOnes_35 rfl (by rw [ew10]; rfl) (by decide) rfl ?_
  refine s_goto (pc := 38) (tgt := 4) d_X7_tornOnes_38 (by decide) ?_
  exact hk4 _ _ _ h
set_option maxHeartbeats 4000000 in
set_option maxRecDepth 20000 in
theorem t_X7_tornOnes_b4 {l : Launch} {G : Gl} {n : Nat} {sh : Sh} {x : Int32 × Mu} {k4 : Int32 → Int32 → Mu → Option (Int32 × Mu)} {v0 : Nat} {v1 : Int32} {v2 : Int32} {μ : Mu} (hk4 : ∀ (v1 : Int32) (v2 : Int32) (μ : Mu), k4 v1 v2 μ = some x → Sj l G (QI G n sh x) c_X7_tornOnes n sh 0 0 μ 4 [some (vr v0), some (vi v1), some (vi v2)] []) (h : m_X7_tornOnes_b4 sh k4 v0 v1 v2 μ = some x) : Sj l G (QI G n sh x) c_X7_tornOnes n sh 0 0 μ 4 [some (vr v0), some (vi v1), some (vi v2)] [] := by
  unfold m_X7_tornOnes_b4 at h
  refine s_iload_n (pc := 4) d_X7_tornOnes_4 rfl rfl ?_
  refine s_aload_n (pc := 5) d_X7_tornOnes_5 rfl rfl ?_
  obtain ⟨g1, h⟩ := gd_1 h
  refine s_getR (pc := 6) (k := 16) cl_7 d_X7_tornOnes_6 g1 (by decide) w_676 (rt_arr _) ?_
  obtain ⟨a2, ea2, h⟩ := bd_1 h
  refine s_topR ea2 ?_
  refine s_sipush (pc := 9) (v := 202) d_X7_tornOnes_9 (by decide) ?_
  obtain ⟨g3, h⟩ := gd_1 h
  refine s_iald (pc := 12) d_X7_tornOnes_12 g3 ?_
  obtain ⟨w4, ew4, h⟩ := bd_1 h
  refine s_topI ew4 ?_
  refine s_icmp_ge (pc := 13) (tgt := 41) d_X7_tornOnes_13 (by decide) (fun c5 => ?_) (fun c5 => ?_)
  · have h := it_t c5 h
    refine s_iload_n (pc := 41) d_X7_tornOnes_41 rfl rfl ?_
    obtain rfl := Option.some.inj h
    exact s_iret (pc := 42) d_X7_tornOnes_42 rfl
  · have h := it_f c5 h
    refine s_iload_n (pc := 16) d_X7_tornOnes_16 rfl rfl ?_
    refine s_aload_n (pc := 17) d_X7_tornOnes_17 rfl rfl ?_
    refine s_iload_n (pc := 18) d_X7_tornOnes_18 rfl rfl ?_
    refine s_iconst (pc := 19) (v := 1) d_X7_tornOnes_19 (by decide) ?_
    obtain ⟨r6, μ7, er6, h⟩ := ca2_1 h
    refine s_callV (pc := 20) (as := [vi v2, vi 1]) (st := [vi v1]) (vo := [vi r6]) (t_X7_of er6) cl_7 g1 d_X7_tornOnes_20 y_X7_of w_789 w_791 w_s15 ⟨by decide, by decide⟩ ⟨Nat.le_of_ble_eq_true rfl, Nat.le_of_ble_eq_true rfl⟩ (Nat.le_of_ble_eq_true rfl) rfl rfl rfl ?_
    refine s_as (kc' := 0) (js' := 0) (pc' := 23) (st' := [vi r6, vi v1]) ⟨rfl, rfl, rfl, rfl⟩ ?_
    refine s_if_le (pc := 23) (tgt := 32) d_X7_tornOnes_23 (by decide) (fun c8 => ?_) (fun c8 => ?_)
    · have h := it_t c8 h
      refine s_iconst (pc := 32) (v := 0) d_X7_tornOnes_32 (by decide) ?_
      refine s_mask [true, false, true] rfl ?_
      exact t_X7_tornOnes_b33 hk4 h
    · have h := it_f c8 h
      refine s_iconst (pc := 26) (v := 1) d_X7_tornOnes_26 (by decide) ?_
      refine s_iload_n (pc := 27) d_X7_tornOnes_27 rfl rfl ?_
      refine s_ishl (pc := 28) d_X7_tornOnes_28 ?_
      refine s_goto (pc := 29) (tgt := 33) d_X7_tornOnes_29 (by decide) ?_
      refine s_mask [true, false, true] rfl ?_
      exact t_X7_tornOnes_b33 hk4 h
set_option maxHeartbeats 4000000 in
set_option maxRecDepth 20000 in
theorem t_X7_tornOnes_h4 {l : Launch} {G : Gl} {n : Nat} {sh : Sh} {x : Int32 × Mu} {v0 : Nat} : ∀ (f : Nat) (v1 : Int32) (v2 : Int32) (μ : Mu), m_X7_tornOnes_h4 sh v0 f v1 v2 μ = some x → Sj l G (QI G n sh x) c_X7_tornOnes n sh 0 0 μ 4 [some (vr v0), some (vi v1), some (vi v2)] [] := by
  intro f
  induction f with
  | zero =>
    intro v1 v2 μ h
    cases h
  | succ f ih =>
    intro v1 v2 μ h
    exact t_X7_tornOnes_b4 ih h
set_option maxHeartbeats 4000000 in
set_option maxRecDepth 20000 in
theorem t_X7_tornOnes {l : Launch} {G : Gl} {n : Nat} {sh : Sh} {x : Int32 × Mu} {v0 : Nat} {μ : Mu} (h : m_X7_tornOnes sh v0 μ = some x) : Ct l G ⟨"StripsOfFourModel", "tornOnes", "()I"⟩ prog_9_method_20_code 3 (some .int) { frames := 1, cells := 0, slots := 0, locals := 22 } n sh μ [vr v0] (some (.int x.1)) n sh x.2 := by
  refine Ct.of (lc := [some (vr v0), none, none]) (by decide +kernel) (Nat.le_of_ble_eq_true rfl) rfl ?_
  show Sj l G (QI G n sh x) c_X7_tornOnes n sh 0 0 μ 0 [some (vr v0), none, none] []
  unfold m_X7_tornOnes at h
  refine s_iconst (pc := 0) (v := 0) d_X7_tornOnes_0 (by decide) ?_
  refine s_istore_n (pc := 1) (lc' := [some (vr v0), some (vi 0), none]) d_X7_tornOnes_1 rfl (by decide) rfl ?_
  refine s_iconst (pc := 2) (v := 0) d_X7_tornOnes_2 (by decide) ?_
  refine s_istore_n (pc := 3) (lc' := [some (vr v0), some (vi 0), some (vi 0)]) d_X7_tornOnes_3 rfl (by decide) rfl ?_
  exact t_X7_tornOnes_h4 FU _ _ _ h
/-! StripsOfFourModel.about -/
abbrev c_X7_about : Cf := (prog_9_method_22_code, 2, "StripsOfFourModel", "about", (some .int), { frames := 2, cells := 0, slots := 0, locals := 44 })
theorem d_X7_about_0 : decode prog_9_method_22_code 0 = .ok (.aload_n 0, 1) := by decide +kernel
theorem d_X7_about_1 : decode prog_9_method_22_code 1 = .ok (.iconst 0, 1) := by decide +kernel
theorem d_X7_about_2 : decode prog_9_method_22_code 2 = .ok (.putfield 66, 3) := by decide +kernel
theorem d_X7_about_5 : decode prog_9_method_22_code 5 = .ok (.iload_n 1, 1) := by decide +kernel
theorem d_X7_about_6 : decode prog_9_method_22_code 6 = .ok (.tableswitch 119 0 9 #[54, 59, 64, 69, 78, 87, 96, 104, 109, 114], 54) := by decide +kernel
theorem d_X7_about_60 : decode prog_9_method_22_code 60 = .ok (.aload_n 0, 1) := by decide +kernel
theorem d_X7_about_61 : decode prog_9_method_22_code 61 = .ok (.getfield 70, 3) := by decide +kernel
theorem d_X7_about_64 : decode prog_9_method_22_code 64 = .ok (.ireturn, 1) := by decide +kernel
theorem d_X7_about_65 : decode prog_9_method_22_code 65 = .ok (.aload_n 0, 1) := by decide +kernel
theorem d_X7_about_66 : decode prog_9_method_22_code 66 = .ok (.getfield 77, 3) := by decide +kernel
theorem d_X7_about_69 : decode prog_9_method_22_code 69 = .ok (.ireturn, 1) := by decide +kernel
theorem d_X7_about_70 : decode prog_9_method_22_code 70 = .ok (.aload_n 0, 1) := by decide +kernel
theorem d_X7_about_71 : decode prog_9_method_22_code 71 = .ok (.getfield 112, 3) := by decide +kernel
theorem d_X7_about_74 : decode prog_9_method_22_code 74 = .ok (.ireturn, 1) := by decide +kernel
theorem d_X7_about_75 : decode prog_9_method_22_code 75 = .ok (.aload_n 0, 1) := by decide +kernel
theorem d_X7_about_76 : decode prog_9_method_22_code 76 = .ok (.getfield 31, 3) := by decide +kernel
theorem d_X7_about_79 : decode prog_9_method_22_code 79 = .ok (.sipush 203, 3) := by decide +kernel
theorem d_X7_about_82 : decode prog_9_method_22_code 82 = .ok (.iaload, 1) := by decide +kernel
theorem d_X7_about_83 : decode prog_9_method_22_code 83 = .ok (.ireturn, 1) := by decide +kernel
theorem d_X7_about_84 : decode prog_9_method_22_code 84 = .ok (.aload_n 0, 1) := by decide +kernel
theorem d_X7_about_85 : decode prog_9_method_22_code 85 = .ok (.getfield 31, 3) := by decide +kernel
theorem d_X7_about_88 : decode prog_9_method_22_code 88 = .ok (.sipush 204, 3) := by decide +kernel
theorem d_X7_about_91 : decode prog_9_method_22_code 91 = .ok (.iaload, 1) := by decide +kernel
theorem d_X7_about_92 : decode prog_9_method_22_code 92 = .ok (.ireturn, 1) := by decide +kernel
theorem d_X7_about_93 : decode prog_9_method_22_code 93 = .ok (.aload_n 0, 1) := by decide +kernel
theorem d_X7_about_94 : decode prog_9_method_22_code 94 = .ok (.getfield 31, 3) := by decide +kernel
theorem d_X7_about_97 : decode prog_9_method_22_code 97 = .ok (.sipush 202, 3) := by decide +kernel
theorem d_X7_about_100 : decode prog_9_method_22_code 100 = .ok (.iaload, 1) := by decide +kernel
theorem d_X7_about_101 : decode prog_9_method_22_code 101 = .ok (.ireturn, 1) := by decide +kernel
theorem d_X7_about_102 : decode prog_9_method_22_code 102 = .ok (.aload_n 0, 1) := by decide +kernel
theorem d_X7_about_103 : decode prog_9_method_22_code 103 = .ok (.getfield 31, 3) := by decide +kernel
theorem d_X7_about_106 : decode prog_9_method_22_code 106 = .ok (.bipush 15, 2) := by decide +kernel
theorem d_X7_about_108 : decode prog_9_method_22_code 108 = .ok (.iaload, 1) := by decide +kernel
theorem d_X7_about_109 : decode prog_9_method_22_code 109 = .ok (.ireturn, 1) := by decide +kernel
theorem d_X7_about_110 : decode prog_9_method_22_code 110 = .ok (.aload_n 0, 1) := by decide +kernel
theorem d_X7_about_111 : decode prog_9_method_22_code 111 = .ok (.getfield 109, 3) := by decide +kernel
theorem d_X7_about_114 : decode prog_9_method_22_code 114 = .ok (.ireturn, 1) := by decide +kernel
theorem d_X7_about_115 : decode prog_9_method_22_code 115 = .ok (.aload_n 0, 1) := by decide +kernel
theorem d_X7_about_116 : decode prog_9_method_22_code 116 = .ok (.invokevirtual 118, 3) := by decide +kernel
theorem d_X7_about_119 : decode prog_9_method_22_code 119 = .ok (.ireturn, 1) := by decide +kernel
theorem d_X7_about_120 : decode prog_9_method_22_code 120 = .ok (.aload_n 0, 1) := by decide +kernel
theorem d_X7_about_121 : decode prog_9_method_22_code 121 = .ok (.getfield 82, 3) := by decide +kernel
theorem d_X7_about_124 : decode prog_9_method_22_code 124 = .ok (.ireturn, 1) := by decide +kernel
theorem d_X7_about_125 : decode prog_9_method_22_code 125 = .ok (.bipush (-2), 2) := by decide +kernel
theorem d_X7_about_127 : decode prog_9_method_22_code 127 = .ok (.ireturn, 1) := by decide +kernel
def m_X7_about (sh : Sh) (v0 : Nat) (v1 : Int32) (μ : Mu) : Option (Int32 × Mu) :=
  gd (iz sh 7 v0) <|
  bd (sI μ v0 0 0) fun μ2 =>
  if v1 = 0 then
    some (gI μ2 v0 5, μ2)
  else
    if v1 = 1 then
      some (gI μ2 v0 6, μ2)
    else
      if v1 = 2 then
        some (gI μ2 v0 4, μ2)
      else
        if v1 = 3 then
          bd (gR μ2 v0 16) fun a7 =>
          gd (ix sh 8 a7 203) <|
          bd (gI μ2 a7 (203 : Int32).toNatClampNeg) fun w9 =>
          some (w9, μ2)
        else
          if v1 = 4 then
            bd (gR μ2 v0 16) fun a11 =>
            gd (ix sh 8 a11 204) <|
            bd (gI μ2 a11 (204 : Int32).toNatClampNeg) fun w13 =>
            some (w13, μ2)
          else
            if v1 = 5 then
              bd (gR μ2 v0 16) fun a15 =>
              gd (ix sh 8 a15 202) <|
              bd (gI μ2 a15 (202 : Int32).toNatClampNeg) fun w17 =>
              some (w17, μ2)
            else
              if v1 = 6 then
                bd (gR μ2 v0 16) fun a19 =>
                gd (ix sh 8 a19 15) <|
                bd (gI μ2 a19 (15 : Int32).toNatClampNeg) fun w21 =>
                some (w21, μ2)
              else
                if v1 = 7 then
                  some (gI μ2 v0 20, μ2)
                else
                  if v1 = 8 then
                    ca2 (m_X7_tornOnes sh v0 μ2) fun r24 μ25 =>
                    some (r24, μ25)
                  else
                    if v1 = 9 then
                      some (gI μ2 v0 2, μ2)
                    else
                      some ((-2), μ2)
set_option maxHeartbeats 4000000 in
set_option maxRecDepth 20000 in
theorem t_X7_about {l : Launch} {G : Gl} {n : Nat} {sh : Sh} {x : Int32 × Mu} {v0 : Nat} {v1 : Int32} {μ : Mu} (h : m_X7_about sh v0 v1 μ = some x) : Ct l G ⟨"StripsOfFourModel", "about", "(I)I"⟩ prog_9_method_22_code 2 (some .int) { frames := 2, cells := 0, slots := 0, locals := 44 } n sh μ [vr v0, vi v1] (some (.int x.1)) n sh x.2 := by
  refine Ct.of (lc := [some (vr v0), some (vi v1)]) (by decide +kernel) (Nat.le_of_ble_eq_true rfl) rfl ?_
  show Sj l G (QI G n sh x) c_X7_about n sh 0 0 μ 0 [some (vr v0), some (vi v1)] []
  unfold m_X7_about at h
  refine s_aload_n (pc := 0) d_X7_about_0 rfl rfl ?_
  refine s_iconst (pc := 1) (v := 0) d_X7_about_1 (by decide) ?_
  obtain ⟨g1, h⟩ := gd_1 h
  refine s_putI (pc := 2) (k := 0) cl_7 d_X7_about_2 g1 (by decide) w_660 rfl rfl ?_
  obtain ⟨μ2, eμ2, h⟩ := bd_1 h
  refine s_mu eμ2 ?_
  refine s_iload_n (pc := 5) d_X7_about_5 rfl rfl ?_
  by_cases c3 : v1 = 0
  · have h := it_t c3 h
    refine s_tab (pc := 6) (tgt := 60) 0 c3 d_X7_about_6 (by decide) (by decide) rfl (by decide) ?_
    refine s_aload_n (pc := 60) d_X7_about_60 rfl rfl ?_
    refine s_getI (pc := 61) (k := 5) cl_7 d_X7_about_61 g1 (by decide) w_665 rfl ?_
    obtain rfl := Option.some.inj h
    exact s_iret (pc := 64) d_X7_about_64 rfl
  have h := it_f c3 h
  by_cases c4 : v1 = 1
  · have h := it_t c4 h
    refine s_tab (pc := 6) (tgt := 65) 1 c4 d_X7_about_6 (by decide) (by decide) rfl (by decide) ?_
    refine s_aload_n (pc := 65) d_X7_about_65 rfl rfl ?_
    refine s_getI (pc := 66) (k := 6) cl_7 d_X7_about_66 g1 (by decide) w_666 rfl ?_
    obtain rfl := Option.some.inj h
    exact s_iret (pc := 69) d_X7_about_69 rfl
  have h := it_f c4 h
  by_cases c5 : v1 = 2
  · have h := it_t c5 h
    refine s_tab (pc := 6) (tgt := 70) 2 c5 d_X7_about_6 (by decide) (by decide) rfl (by decide) ?_
    refine s_aload_n (pc := 70) d_X7_about_70 rfl rfl ?_
    refine s_getI (pc := 71) (k := 4) cl_7 d_X7_about_71 g1 (by decide) w_664 rfl ?_
    obtain rfl := Option.some.inj h
    exact s_iret (pc := 74) d_X7_about_74 rfl
  have h := it_f c5 h
  by_cases c6 : v1 = 3
  · have h := it_t c6 h
    refine s_tab (pc := 6) (tgt := 75) 3 c6 d_X7_about_6 (by decide) (by decide) rfl (by decide) ?_
    refine s_aload_n (pc := 75) d_X7_about_75 rfl rfl ?_
    refine s_getR (pc := 76) (k := 16) cl_7 d_X7_about_76 g1 (by decide) w_676 (rt_arr _) ?_
    obtain ⟨a7, ea7, h⟩ := bd_1 h
    refine s_topR ea7 ?_
    refine s_sipush (pc := 79) (v := 203) d_X7_about_79 (by decide) ?_
    obtain ⟨g8, h⟩ := gd_1 h
    refine s_iald (pc := 82) d_X7_about_82 g8 ?_
    obtain ⟨w9, ew9, h⟩ := bd_1 h
    refine s_topI ew9 ?_
    obtain rfl := Option.some.inj h
    exact s_iret (pc := 83) d_X7_about_83 rfl
  have h := it_f c6 h
  by_cases c10 : v1 = 4
  · have h := it_t c10 h
    refine s_tab (pc := 6) (tgt := 84) 4 c10 d_X7_about_6 (by decide) (by decide) rfl (by decide) ?_
    refine s_aload_n (pc := 84) d_X7_about_84 rfl rfl ?_
    refine s_getR (pc := 85) (k := 16) cl_7 d_X7_about_85 g1 (by decide) w_676 (rt_arr _) ?_
    obtain ⟨a11, ea11, h⟩ := bd_1 h
    refine s_topR ea11 ?_
    refine s_sipush (pc := 88) (v := 204) d_X7_about_88 (by decide) ?_
    obtain ⟨g12, h⟩ := gd_1 h
    refine s_iald (pc := 91) d_X7_about_91 g12 ?_
    obtain ⟨w13, ew13, h⟩ := bd_1 h
    refine s_topI ew13 ?_
    obtain rfl := Option.some.inj h
    exact s_iret (pc := 92) d_X7_about_92 rfl
  have h := it_f c10 h
  by_cases c14 : v1 = 5
  · have h := it_t c14 h
    refine s_tab (pc := 6) (tgt := 93) 5 c14 d_X7_about_6 (by decide) (by decide) rfl (by decide) ?_
    refine s_aload_n (pc := 93) d_X7_about_93 rfl rfl ?_
    refine s_getR (pc := 94) (k := 16) cl_7 d_X7_about_94 g1 (by decide) w_676 (rt_arr _) ?_
    obtain ⟨a15, ea15, h⟩ := bd_1 h
    refine s_topR ea15 ?_
    refine s_sipush (pc := 97) (v := 202) d_X7_about_97 (by decide) ?_
    obtain ⟨g16, h⟩ := gd_1 h
    refine s_iald (pc := 100) d_X7_about_100 g16 ?_
    obtain ⟨w17, ew17, h⟩ := bd_1 h
    refine s_topI ew17 ?_
    obtain rfl := Option.some.inj h
    exact s_iret (pc := 101) d_X7_about_101 rfl
  have h := it_f c14 h
  by_cases c18 : v1 = 6
  · have h := it_t c18 h
    refine s_tab (pc := 6) (tgt := 102) 6 c18 d_X7_about_6 (by decide) (by decide) rfl (by decide) ?_
    refine s_aload_n (pc := 102) d_X7_about_102 rfl rfl ?_
    refine s_getR (pc := 103) (k := 16) cl_7 d_X7_about_103 g1 (by decide) w_676 (rt_arr _) ?_
    obtain ⟨a19, ea19, h⟩ := bd_1 h
    refine s_topR ea19 ?_
    refine s_bipush (pc := 106) (v := 15) d_X7_about_106 (by decide) ?_
    obtain ⟨g20, h⟩ := gd_1 h
    refine s_iald (pc := 108) d_X7_about_108 g20 ?_
    obtain ⟨w21, ew21, h⟩ := bd_1 h
    refine s_topI ew21 ?_
    obtain rfl := Option.some.inj h
    exact s_iret (pc := 109) d_X7_about_109 rfl
  have h := it_f c18 h
  by_cases c22 : v1 = 7
  · have h := it_t c22 h
    refine s_tab (pc := 6) (tgt := 110) 7 c22 d_X7_about_6 (by decide) (by decide) rfl (by decide) ?_
    refine s_aload_n (pc := 110) d_X7_about_110 rfl rfl ?_
    refine s_getI (pc := 111) (k := 20) cl_7 d_X7_about_111 g1 (by decide) w_680 rfl ?_
    obtain rfl := Option.some.inj h
    exact s_iret (pc := 114) d_X7_about_114 rfl
  have h := it_f c22 h
  by_cases c23 : v1 = 8
  · have h := it_t c23 h
    refine s_tab (pc := 6) (tgt := 115) 8 c23 d_X7_about_6 (by decide) (by decide) rfl (by decide) ?_
    refine s_aload_n (pc := 115) d_X7_about_115 rfl rfl ?_
    obtain ⟨r24, μ25, er24, h⟩ := ca2_1 h
    refine s_callV (pc := 116) (as := []) (st := []) (vo := [vi r24]) (t_X7_tornOnes er24) cl_7 g1 d_X7_about_116 y_X7_tornOnes w_785 w_787 w_s14 ⟨by decide, by decide⟩ ⟨Nat.le_of_ble_eq_true rfl, Nat.le_of_ble_eq_true rfl⟩ (Nat.le_of_ble_eq_true rfl) rfl rfl rfl ?_
    refine s_as (kc' := 0) (js' := 0) (pc' := 119) (st' := [vi r24]) ⟨rfl, rfl, rfl, rfl⟩ ?_
    obtain rfl := Option.some.inj h
    exact s_iret (pc := 119) d_X7_about_119 rfl
  have h := it_f c23 h
  by_cases c26 : v1 = 9
  · have h := it_t c26 h
    refine s_tab (pc := 6) (tgt := 120) 9 c26 d_X7_about_6 (by decide) (by decide) rfl (by decide) ?_
    refine s_aload_n (pc := 120) d_X7_about_120 rfl rfl ?_
    refine s_getI (pc := 121) (k := 2) cl_7 d_X7_about_121 g1 (by decide) w_662 rfl ?_
    obtain rfl := Option.some.inj h
    exact s_iret (pc := 124) d_X7_about_124 rfl
  have h := it_f c26 h
  have qc3 := lv_neT (a := 0) c3 (by decide)
  have qc4 := lv_neT (a := 1) c4 (by decide)
  have qc5 := lv_neT (a := 2) c5 (by decide)
  have qc6 := lv_neT (a := 3) c6 (by decide)
  have qc10 := lv_neT (a := 4) c10 (by decide)
  have qc14 := lv_neT (a := 5) c14 (by decide)
  have qc18 := lv_neT (a := 6) c18 (by decide)
  have qc22 := lv_neT (a := 7) c22 (by decide)
  have qc23 := lv_neT (a := 8) c23 (by decide)
  have qc26 := lv_neT (a := 9) c26 (by decide)
  refine s_tabOut (pc := 6) (tgt := 125) d_X7_about_6 (by omega) (by decide) ?_
  refine s_bipush (pc := 125) (v := (-2)) d_X7_about_125 (by decide) ?_
  obtain rfl := Option.some.inj h
  exact s_iret (pc := 127) d_X7_about_127 rfl
/-! StripsOfFourModel.in -/
abbrev c_X7_in : Cf := (prog_9_method_3_code, 6, "StripsOfFourModel", "in", (some .boolean), { frames := 0, cells := 0, slots := 0, locals := 0 })
theorem d_X7_in_0 : decode prog_9_method_3_code 0 = .ok (.lload_n 0, 1) := by decide +kernel
theorem d_X7_in_1 : decode prog_9_method_3_code 1 = .ok (.lload_n 2, 1) := by decide +kernel
theorem d_X7_in_2 : decode prog_9_method_3_code 2 = .ok (.lcmp, 1) := by decide +kernel
theorem d_X7_in_3 : decode prog_9_method_3_code 3 = .ok (.ifCond .lt 14, 3) := by decide +kernel
theorem d_X7_in_6 : decode prog_9_method_3_code 6 = .ok (.lload_n 0, 1) := by decide +kernel
theorem d_X7_in_7 : decode prog_9_method_3_code 7 = .ok (.lload 4, 2) := by decide +kernel
theorem d_X7_in_9 : decode prog_9_method_3_code 9 = .ok (.lcmp, 1) := by decide +kernel
theorem d_X7_in_10 : decode prog_9_method_3_code 10 = .ok (.ifCond .gt 7, 3) := by decide +kernel
theorem d_X7_in_13 : decode prog_9_method_3_code 13 = .ok (.iconst 1, 1) := by decide +kernel
theorem d_X7_in_14 : decode prog_9_method_3_code 14 = .ok (.goto 4, 3) := by decide +kernel
theorem d_X7_in_17 : decode prog_9_method_3_code 17 = .ok (.iconst 0, 1) := by decide +kernel
theorem d_X7_in_18 : decode prog_9_method_3_code 18 = .ok (.ireturn, 1) := by decide +kernel
def m_X7_in (sh : Sh) (v0 : Int64) (v2 : Int64) (v4 : Int64) (μ : Mu) : Option (Int32 × Mu) :=
  if (lg_cmp v0 v2) < 0 then
    some (0, μ)
  else
    if 0 < (lg_cmp v0 v4) then
      some (0, μ)
    else
      some (1, μ)
set_option maxHeartbeats 4000000 in
set_option maxRecDepth 20000 in
theorem t_X7_in {l : Launch} {G : Gl} {n : Nat} {sh : Sh} {x : Int32 × Mu} {v0 : Int64} {v2 : Int64} {v4 : Int64} {μ : Mu} (h : m_X7_in sh v0 v2 v4 μ = some x) : Ct l G ⟨"StripsOfFourModel", "in", "(JJJ)Z"⟩ prog_9_method_3_code 6 (some .boolean) { frames := 0, cells := 0, slots := 0, locals := 0 } n sh μ [vl v0, vl v2, vl v4] (some (.int x.1)) n sh x.2 := by
  refine Ct.of (lc := [some (vl v0), none, some (vl v2), none, some (vl v4), none]) (by decide +kernel) (Nat.le_of_ble_eq_true rfl) rfl ?_
  show Sj l G (QI G n sh x) c_X7_in n sh 0 0 μ 0 [some (vl v0), none, some (vl v2), none, some (vl v4), none] []
  unfold m_X7_in at h
  refine s_lload_n (pc := 0) d_X7_in_0 rfl rfl ?_
  refine s_lload_n (pc := 1) d_X7_in_1 rfl rfl ?_
  refine s_lcmp (pc := 2) d_X7_in_2 ?_
  refine s_if_lt (pc := 3) (tgt := 17) d_X7_in_3 (by decide) (fun c1 => ?_) (fun c1 => ?_)
  · have h := it_t c1 h
    refine s_iconst (pc := 17) (v := 0) d_X7_in_17 (by decide) ?_
    obtain rfl := Option.some.inj h
    exact s_zret0 (pc := 18) rfl d_X7_in_18 rfl
  · have h := it_f c1 h
    refine s_lload_n (pc := 6) d_X7_in_6 rfl rfl ?_
    refine s_lload (pc := 7) d_X7_in_7 rfl ?_
    refine s_lcmp (pc := 9) d_X7_in_9 ?_
    refine s_if_gt (pc := 10) (tgt := 17) d_X7_in_10 (by decide) (fun c2 => ?_) (fun c2 => ?_)
    · have h := it_t c2 h
      refine s_iconst (pc := 17) (v := 0) d_X7_in_17 (by decide) ?_
      obtain rfl := Option.some.inj h
      exact s_zret0 (pc := 18) rfl d_X7_in_18 rfl
    · have h := it_f c2 h
      refine s_iconst (pc := 13) (v := 1) d_X7_in_13 (by decide) ?_
      refine s_goto (pc := 14) (tgt := 18) d_X7_in_14 (by decide) ?_
      obtain rfl := Option.some.inj h
      exact s_zret0 (pc := 18) rfl d_X7_in_18 rfl
/-! StripsOfFourModel.again -/
abbrev c_X7_again : Cf := (prog_9_method_60_code, 3, "StripsOfFourModel", "again", (some .int), { frames := 1, cells := 0, slots := 0, locals := 25 })
theorem d_X7_again_0 : decode prog_9_method_60_code 0 = .ok (.aload_n 0, 1) := by decide +kernel
theorem d_X7_again_1 : decode prog_9_method_60_code 1 = .ok (.iconst 0, 1) := by decide +kernel
theorem d_X7_again_2 : decode prog_9_method_60_code 2 = .ok (.putfield 66, 3) := by decide +kernel
theorem d_X7_again_5 : decode prog_9_method_60_code 5 = .ok (.iload_n 1, 1) := by decide +kernel
theorem d_X7_again_6 : decode prog_9_method_60_code 6 = .ok (.i2l, 1) := by decide +kernel
theorem d_X7_again_7 : decode prog_9_method_60_code 7 = .ok (.lconst 0, 1) := by decide +kernel
theorem d_X7_again_8 : decode prog_9_method_60_code 8 = .ok (.lconst 1, 1) := by decide +kernel
theorem d_X7_again_9 : decode prog_9_method_60_code 9 = .ok (.invokestatic 73, 3) := by decide +kernel
theorem d_X7_again_12 : decode prog_9_method_60_code 12 = .ok (.ifCond .ne 5, 3) := by decide +kernel
theorem d_X7_again_15 : decode prog_9_method_60_code 15 = .ok (.iconst (-1), 1) := by decide +kernel
theorem d_X7_again_16 : decode prog_9_method_60_code 16 = .ok (.ireturn, 1) := by decide +kernel
theorem d_X7_again_17 : decode prog_9_method_60_code 17 = .ok (.aload_n 0, 1) := by decide +kernel
theorem d_X7_again_18 : decode prog_9_method_60_code 18 = .ok (.getfield 47, 3) := by decide +kernel
theorem d_X7_again_21 : decode prog_9_method_60_code 21 = .ok (.iload_n 1, 1) := by decide +kernel
theorem d_X7_again_22 : decode prog_9_method_60_code 22 = .ok (.baload, 1) := by decide +kernel
theorem d_X7_again_23 : decode prog_9_method_60_code 23 = .ok (.ifCond .ne 6, 3) := by decide +kernel
theorem d_X7_again_26 : decode prog_9_method_60_code 26 = .ok (.bipush (-3), 2) := by decide +kernel
theorem d_X7_again_28 : decode prog_9_method_60_code 28 = .ok (.ireturn, 1) := by decide +kernel
theorem d_X7_again_29 : decode prog_9_method_60_code 29 = .ok (.iconst 0, 1) := by decide +kernel
theorem d_X7_again_30 : decode prog_9_method_60_code 30 = .ok (.istore_n 2, 1) := by decide +kernel
theorem d_X7_again_31 : decode prog_9_method_60_code 31 = .ok (.iload_n 2, 1) := by decide +kernel
theorem d_X7_again_32 : decode prog_9_method_60_code 32 = .ok (.sipush 205, 3) := by decide +kernel
theorem d_X7_again_35 : decode prog_9_method_60_code 35 = .ok (.if_icmp .ge 27, 3) := by decide +kernel
theorem d_X7_again_38 : decode prog_9_method_60_code 38 = .ok (.aload_n 0, 1) := by decide +kernel
theorem d_X7_again_39 : decode prog_9_method_60_code 39 = .ok (.getfield 31, 3) := by decide +kernel
theorem d_X7_again_42 : decode prog_9_method_60_code 42 = .ok (.iload_n 2, 1) := by decide +kernel
theorem d_X7_again_43 : decode prog_9_method_60_code 43 = .ok (.aload_n 0, 1) := by decide +kernel
theorem d_X7_again_44 : decode prog_9_method_60_code 44 = .ok (.getfield 41, 3) := by decide +kernel
theorem d_X7_again_47 : decode prog_9_method_60_code 47 = .ok (.sipush 205, 3) := by decide +kernel
theorem d_X7_again_50 : decode prog_9_method_60_code 50 = .ok (.iload_n 1, 1) := by decide +kernel
theorem d_X7_again_51 : decode prog_9_method_60_code 51 = .ok (.imul, 1) := by decide +kernel
theorem d_X7_again_52 : decode prog_9_method_60_code 52 = .ok (.iload_n 2, 1) := by decide +kernel
theorem d_X7_again_53 : decode prog_9_method_60_code 53 = .ok (.iadd, 1) := by decide +kernel
theorem d_X7_again_54 : decode prog_9_method_60_code 54 = .ok (.iaload, 1) := by decide +kernel
theorem d_X7_again_55 : decode prog_9_method_60_code 55 = .ok (.iastore, 1) := by decide +kernel
theorem d_X7_again_56 : decode prog_9_method_60_code 56 = .ok (.iinc 2 1, 3) := by decide +kernel
theorem d_X7_again_59 : decode prog_9_method_60_code 59 = .ok (.goto (-28), 3) := by decide +kernel
theorem d_X7_again_62 : decode prog_9_method_60_code 62 = .ok (.aload_n 0, 1) := by decide +kernel
theorem d_X7_again_63 : decode prog_9_method_60_code 63 = .ok (.aload_n 0, 1) := by decide +kernel
theorem d_X7_again_64 : decode prog_9_method_60_code 64 = .ok (.getfield 44, 3) := by decide +kernel
theorem d_X7_again_67 : decode prog_9_method_60_code 67 = .ok (.iload_n 1, 1) := by decide +kernel
theorem d_X7_again_68 : decode prog_9_method_60_code 68 = .ok (.laload, 1) := by decide +kernel
theorem d_X7_again_69 : decode prog_9_method_60_code 69 = .ok (.putfield 147, 3) := by decide +kernel
theorem d_X7_again_72 : decode prog_9_method_60_code 72 = .ok (.aload_n 0, 1) := by decide +kernel
theorem d_X7_again_73 : decode prog_9_method_60_code 73 = .ok (.iconst 0, 1) := by decide +kernel
theorem d_X7_again_74 : decode prog_9_method_60_code 74 = .ok (.putfield 109, 3) := by decide +kernel
theorem d_X7_again_77 : decode prog_9_method_60_code 77 = .ok (.aload_n 0, 1) := by decide +kernel
theorem d_X7_again_78 : decode prog_9_method_60_code 78 = .ok (.getfield 31, 3) := by decide +kernel
theorem d_X7_again_81 : decode prog_9_method_60_code 81 = .ok (.sipush 203, 3) := by decide +kernel
theorem d_X7_again_84 : decode prog_9_method_60_code 84 = .ok (.iaload, 1) := by decide +kernel
theorem d_X7_again_85 : decode prog_9_method_60_code 85 = .ok (.ireturn, 1) := by decide +kernel
def m_X7_again_b62 (sh : Sh) (v0 : Nat) (v1 : Int32) (μ : Mu) : Option (Int32 × Mu) :=
  gd (iz sh 7 v0) <|
  bd (gR μ v0 22) fun a20 =>
  gd (ix sh 9 a20 v1) <|
  bd (gJ μ a20 v1.toNatClampNeg) fun w22 =>
  bd (sJ μ v0 17 w22) fun μ23 =>
  bd (sI μ23 v0 20 0) fun μ24 =>
  bd (gR μ24 v0 16) fun a25 =>
  gd (ix sh 8 a25 203) <|
  bd (gI μ24 a25 (203 : Int32).toNatClampNeg) fun w27 =>
  some (w27, μ24)
def m_X7_again_b31 (sh : Sh) (k31 : Int32 → Mu → Option (Int32 × Mu)) (v0 : Nat) (v1 : Int32) (v2 : Int32) (μ : Mu) : Option (Int32 × Mu) :=
  if 205 ≤ v2 then
    m_X7_again_b62 sh v0 v1 μ
  else
    gd (iz sh 7 v0) <|
    bd (gR μ v0 16) fun a12 =>
    bd (gR μ v0 21) fun a13 =>
    gd (ix sh 8 a13 ((205 * v1) + v2)) <|
    bd (gI μ a13 ((205 * v1) + v2).toNatClampNeg) fun w15 =>
    gd (ix sh 8 a12 v2) <|
    bd (sI μ a12 v2.toNatClampNeg w15) fun μ17 =>
    bd (v2 + 1) fun w18 =>
    k31 w18 μ17
def m_X7_again_h31 (sh : Sh) (v0 : Nat) (v1 : Int32) : Nat → Int32 → Mu → Option (Int32 × Mu)
  | 0 => fun _ _ => none
  | f + 1 => fun v2 μ => m_X7_again_b31 sh (m_X7_again_h31 sh v0 v1 f) v0 v1 v2 μ
def m_X7_again (sh : Sh) (v0 : Nat) (v1 : Int32) (μ : Mu) : Option (Int32 × Mu) :=
  gd (iz sh 7 v0) <|
  bd (sI μ v0 0 0) fun μ2 =>
  ca2 (m_X7_in sh (v1.toInt64) 0 1 μ2) fun r3 μ4 =>
  if r3 = 0 then
    some ((-1), μ4)
  else
    bd (gR μ4 v0 23) fun a6 =>
    gd (ix sh 10 a6 v1) <|
    bd (gI μ4 a6 v1.toNatClampNeg) fun w8 =>
    if w8 = 0 then
      some ((-3), μ4)
    else
      m_X7_again_h31 sh v0 v1 FU 0 μ4
set_option maxHeartbeats 4000000 in
set_option maxRecDepth 20000 in
theorem t_X7_again_b62 {l : Launch} {G : Gl} {n : Nat} {sh : Sh} {x : Int32 × Mu} {v0 : Nat} {v1 : Int32} {μ : Mu} (h : m_X7_again_b62 sh v0 v1 μ = some x) : Sj l G (QI G n sh x) c_X7_again n sh 0 0 μ 62 [some (vr v0), some (vi v1), none] [] := by
  unfold m_X7_again_b62 at h
  refine s_aload_n (pc := 62) d_X7_again_62 rfl rfl ?_
  refine s_aload_n (pc := 63) d_X7_again_63 rfl rfl ?_
  obtain ⟨g19, h⟩ := gd_1 h
  refine s_getR (pc := 64) (k := 22) cl_7 d_X7_again_64 g19 (by decide) w_682 (rt_arr _) ?_
  obtain ⟨a20, ea20, h⟩ := bd_1 h
  refine s_topR ea20 ?_
  refine s_iload_n (pc := 67) d_X7_again_67 rfl rfl ?_
  obtain ⟨g21, h⟩ := gd_1 h
  refine s_lald (pc := 68) d_X7_again_68 g21 ?_
  obtain ⟨w22, ew22, h⟩ := bd_1 h
  refine s_topJ ew22 ?_
  refine s_putJ (pc := 69) (k := 17) cl_7 d_X7_again_69 g19 (by decide) w_677 rfl rfl ?_
  obtain ⟨μ23, eμ23, h⟩ := bd_1 h
  refine s_mu eμ23 ?_
  refine s_aload_n (pc := 72) d_X7_again_72 rfl rfl ?_
  refine s_iconst (pc := 73) (v := 0) d_X7_again_73 (by decide) ?_
  refine s_putI (pc := 74) (k := 20) cl_7 d_X7_again_74 g19 (by decide) w_680 rfl rfl ?_
  obtain ⟨μ24, eμ24, h⟩ := bd_1 h
  refine s_mu eμ24 ?_
  refine s_aload_n (pc := 77) d_X7_again_77 rfl rfl ?_
  refine s_getR (pc := 78) (k := 16) cl_7 d_X7_again_78 g19 (by decide) w_676 (rt_arr _) ?_
  obtain ⟨a25, ea25, h⟩ := bd_1 h
  refine s_topR ea25 ?_
  refine s_sipush (pc := 81) (v := 203) d_X7_again_81 (by decide) ?_
  obtain ⟨g26, h⟩ := gd_1 h
  refine s_iald (pc := 84) d_X7_again_84 g26 ?_
  obtain ⟨w27, ew27, h⟩ := bd_1 h
  refine s_topI ew27 ?_
  obtain rfl := Option.some.inj h
  exact s_iret (pc := 85) d_X7_again_85 rfl
set_option maxHeartbeats 4000000 in
set_option maxRecDepth 20000 in
theorem t_X7_again_b31 {l : Launch} {G : Gl} {n : Nat} {sh : Sh} {x : Int32 × Mu} {k31 : Int32 → Mu → Option (Int32 × Mu)} {v0 : Nat} {v1 : Int32} {v2 : Int32} {μ : Mu} (hk31 : ∀ (v2 : Int32) (μ : Mu), k31 v2 μ = some x → Sj l G (QI G n sh x) c_X7_again n sh 0 0 μ 31 [some (vr v0), some (vi v1), some (vi v2)] []) (h : m_X7_again_b31 sh k31 v0 v1 v2 μ = some x) : Sj l G (QI G n sh x) c_X7_again n sh 0 0 μ 31 [some (vr v0), some (vi v1), some (vi v2)] [] := by
  unfold m_X7_again_b31 at h
  refine s_iload_n (pc := 31) d_X7_again_31 rfl rfl ?_
  refine s_sipush (pc := 32) (v := 205) d_X7_again_32 (by decide) ?_
  refine s_icmp_ge (pc := 35) (tgt := 62) d_X7_again_35 (by decide) (fun c10 => ?_) (fun c10 => ?_)
  · have h := it_t c10 h
    refine s_mask [true, true, false] rfl ?_
    exact t_X7_again_b62 h
  · have h := it_f c10 h
    refine s_aload_n (pc := 38) d_X7_again_38 rfl rfl ?_
    obtain ⟨g11, h⟩ := gd_1 h
    refine s_getR (pc := 39) (k := 16) cl_7 d_X7_again_39 g11 (by decide) w_676 (rt_arr _) ?_
    obtain ⟨a12, ea12, h⟩ := bd_1 h
    refine s_topR ea12 ?_
    refine s_iload_n (pc := 42) d_X7_again_42 rfl rfl ?_
    refine s_aload_n (pc := 43) d_X7_again_43 rfl rfl ?_
    refine s_getR (pc := 44) (k := 21) cl_7 d_X7_again_44 g11 (by decide) w_681 (rt_arr _) ?_
    obtain ⟨a13, ea13, h⟩ := bd_1 h
    refine s_topR ea13 ?_
    refine s_sipush (pc := 47) (v := 205) d_X7_again_47 (by decide) ?_
    refine s_iload_n (pc := 50) d_X7_again_50 rfl rfl ?_
    refine s_imul (pc := 51) d_X7_again_51 ?_
    refine s_iload_n (pc := 52) d_X7_again_52 rfl rfl ?_
    refine s_iadd (pc := 53) d_X7_again_53 ?_
    obtain ⟨g14, h⟩ := gd_1 h
    refine s_iald (pc := 54) d_X7_again_54 g14 ?_
    obtain ⟨w15, ew15, h⟩ := bd_1 h
    refine s_topI ew15 ?_
    obtain ⟨g16, h⟩ := gd_1 h
    refine s_iast (pc := 55) d_X7_again_55 g16 ?_
    obtain ⟨μ17, eμ17, h⟩ := bd_1 h
    refine s_mu eμ17 ?_
    obtain ⟨w18, ew18, h⟩ := bd_1 h
    refine s_iinc (pc := 56) (v := w18) (lc' := [some (vr v0), some (vi v1), some (vi w18)]) d_X7_again_56 rfl (by rw [ew18]; rfl) (by decide) rfl ?_
    refine s_goto (pc := 59) (tgt := 31) d_X7_again_59 (by decide) ?_
    exact hk31 _ _ h
set_option maxHeartbeats 4000000 in
set_option maxRecDepth 20000 in
theorem t_X7_again_h31 {l : Launch} {G : Gl} {n : Nat} {sh : Sh} {x : Int32 × Mu} {v0 : Nat} {v1 : Int32} : ∀ (f : Nat) (v2 : Int32) (μ : Mu), m_X7_again_h31 sh v0 v1 f v2 μ = some x → Sj l G (QI G n sh x) c_X7_again n sh 0 0 μ 31 [some (vr v0), some (vi v1), some (vi v2)] [] := by
  intro f
  induction f with
  | zero =>
    intro v2 μ h
    cases h
  | succ f ih =>
    intro v2 μ h
    exact t_X7_again_b31 ih h
set_option maxHeartbeats 4000000 in
set_option maxRecDepth 20000 in
theorem t_X7_again {l : Launch} {G : Gl} {n : Nat} {sh : Sh} {x : Int32 × Mu} {v0 : Nat} {v1 : Int32} {μ : Mu} (h : m_X7_again sh v0 v1 μ = some x) : Ct l G ⟨"StripsOfFourModel", "again", "(I)I"⟩ prog_9_method_60_code 3 (some .int) { frames := 1, cells := 0, slots := 0, locals := 25 } n sh μ [vr v0, vi v1] (some (.int x.1)) n sh x.2 := by
  refine Ct.of (lc := [some (vr v0), some (vi v1), none]) (by decide +kernel) (Nat.le_of_ble_eq_true rfl) rfl ?_
  show Sj l G (QI G n sh x) c_X7_again n sh 0 0 μ 0 [some (vr v0), some (vi v1), none] []
  unfold m_X7_again at h
  refine s_aload_n (pc := 0) d_X7_again_0 rfl rfl ?_
  refine s_iconst (pc := 1) (v := 0) d_X7_again_1 (by decide) ?_
  obtain ⟨g1, h⟩ := gd_1 h
  refine s_putI (pc := 2) (k := 0) cl_7 d_X7_again_2 g1 (by decide) w_660 rfl rfl ?_
  obtain ⟨μ2, eμ2, h⟩ := bd_1 h
  refine s_mu eμ2 ?_
  refine s_iload_n (pc := 5) d_X7_again_5 rfl rfl ?_
  refine s_i2l (pc := 6) d_X7_again_6 ?_
  refine s_lconst (pc := 7) (v := 0) d_X7_again_7 (by decide) ?_
  refine s_lconst (pc := 8) (v := 1) d_X7_again_8 (by decide) ?_
  obtain ⟨r3, μ4, er3, h⟩ := ca2_1 h
  refine s_callS (pc := 9) (as := [vl (v1.toInt64), vl 0, vl 1]) (st := []) (vo := [vi r3]) (t_X7_in er3) d_X7_again_9 y_X7_in w_754 w_755 ⟨by decide, by decide⟩ ⟨Nat.le_of_ble_eq_true rfl, Nat.le_of_ble_eq_true rfl⟩ (Nat.le_of_ble_eq_true rfl) rfl rfl rfl ?_
  refine s_as (kc' := 0) (js' := 0) (pc' := 12) (st' := [vi r3]) ⟨rfl, rfl, rfl, rfl⟩ ?_
  refine s_if_ne (pc := 12) (tgt := 17) d_X7_again_12 (by decide) (fun c5 => ?_) (fun c5 => ?_)
  · have h := it_f c5 h
    refine s_aload_n (pc := 17) d_X7_again_17 rfl rfl ?_
    refine s_getR (pc := 18) (k := 23) cl_7 d_X7_again_18 g1 (by decide) w_683 (rt_arr _) ?_
    obtain ⟨a6, ea6, h⟩ := bd_1 h
    refine s_topR ea6 ?_
    refine s_iload_n (pc := 21) d_X7_again_21 rfl rfl ?_
    obtain ⟨g7, h⟩ := gd_1 h
    refine s_zald (pc := 22) d_X7_again_22 g7 ?_
    obtain ⟨w8, ew8, h⟩ := bd_1 h
    refine s_topI ew8 ?_
    refine s_if_ne (pc := 23) (tgt := 29) d_X7_again_23 (by decide) (fun c9 => ?_) (fun c9 => ?_)
    · have h := it_f c9 h
      refine s_iconst (pc := 29) (v := 0) d_X7_again_29 (by decide) ?_
      refine s_istore_n (pc := 30) (lc' := [some (vr v0), some (vi v1), some (vi 0)]) d_X7_again_30 rfl (by decide) rfl ?_
      exact t_X7_again_h31 FU _ _ h
    · have h := it_t c9 h
      refine s_bipush (pc := 26) (v := (-3)) d_X7_again_26 (by decide) ?_
      obtain rfl := Option.some.inj h
      exact s_iret (pc := 28) d_X7_again_28 rfl
  · have h := it_t c5 h
    refine s_iconst (pc := 15) (v := (-1)) d_X7_again_15 (by decide) ?_
    obtain rfl := Option.some.inj h
    exact s_iret (pc := 16) d_X7_again_16 rfl
/-! StripsOfFourModel.has -/
abbrev c_X7_has : Cf := (prog_9_method_4_code, 2, "StripsOfFourModel", "has", (some .boolean), { frames := 0, cells := 0, slots := 0, locals := 0 })
theorem d_X7_has_0 : decode prog_9_method_4_code 0 = .ok (.iload_n 0, 1) := by decide +kernel
theorem d_X7_has_1 : decode prog_9_method_4_code 1 = .ok (.iload_n 1, 1) := by decide +kernel
theorem d_X7_has_2 : decode prog_9_method_4_code 2 = .ok (.ishr, 1) := by decide +kernel
theorem d_X7_has_3 : decode prog_9_method_4_code 3 = .ok (.iconst 1, 1) := by decide +kernel
theorem d_X7_has_4 : decode prog_9_method_4_code 4 = .ok (.iand, 1) := by decide +kernel
theorem d_X7_has_5 : decode prog_9_method_4_code 5 = .ok (.iconst 1, 1) := by decide +kernel
theorem d_X7_has_6 : decode prog_9_method_4_code 6 = .ok (.if_icmp .ne 7, 3) := by decide +kernel
theorem d_X7_has_9 : decode prog_9_method_4_code 9 = .ok (.iconst 1, 1) := by decide +kernel
theorem d_X7_has_10 : decode prog_9_method_4_code 10 = .ok (.goto 4, 3) := by decide +kernel
theorem d_X7_has_13 : decode prog_9_method_4_code 13 = .ok (.iconst 0, 1) := by decide +kernel
theorem d_X7_has_14 : decode prog_9_method_4_code 14 = .ok (.ireturn, 1) := by decide +kernel
def m_X7_has (sh : Sh) (v0 : Int32) (v1 : Int32) (μ : Mu) : Option (Int32 × Mu) :=
  if ((v0 >>> (v1 &&& 31)) &&& 1) = 1 then
    some (1, μ)
  else
    some (0, μ)
set_option maxHeartbeats 4000000 in
set_option maxRecDepth 20000 in
theorem t_X7_has {l : Launch} {G : Gl} {n : Nat} {sh : Sh} {x : Int32 × Mu} {v0 : Int32} {v1 : Int32} {μ : Mu} (h : m_X7_has sh v0 v1 μ = some x) : Ct l G ⟨"StripsOfFourModel", "has", "(II)Z"⟩ prog_9_method_4_code 2 (some .boolean) { frames := 0, cells := 0, slots := 0, locals := 0 } n sh μ [vi v0, vi v1] (some (.int x.1)) n sh x.2 := by
  refine Ct.of (lc := [some (vi v0), some (vi v1)]) (by decide +kernel) (Nat.le_of_ble_eq_true rfl) rfl ?_
  show Sj l G (QI G n sh x) c_X7_has n sh 0 0 μ 0 [some (vi v0), some (vi v1)] []
  unfold m_X7_has at h
  refine s_iload_n (pc := 0) d_X7_has_0 rfl rfl ?_
  refine s_iload_n (pc := 1) d_X7_has_1 rfl rfl ?_
  refine s_ishr (pc := 2) d_X7_has_2 ?_
  refine s_iconst (pc := 3) (v := 1) d_X7_has_3 (by decide) ?_
  refine s_iand (pc := 4) d_X7_has_4 ?_
  refine s_iconst (pc := 5) (v := 1) d_X7_has_5 (by decide) ?_
  refine s_icmp_ne (pc := 6) (tgt := 13) d_X7_has_6 (by decide) (fun c1 => ?_) (fun c1 => ?_)
  · have h := it_f c1 h
    refine s_iconst (pc := 13) (v := 0) d_X7_has_13 (by decide) ?_
    obtain rfl := Option.some.inj h
    exact s_zret0 (pc := 14) rfl d_X7_has_14 rfl
  · have h := it_t c1 h
    refine s_iconst (pc := 9) (v := 1) d_X7_has_9 (by decide) ?_
    refine s_goto (pc := 10) (tgt := 14) d_X7_has_10 (by decide) ?_
    obtain rfl := Option.some.inj h
    exact s_zret0 (pc := 14) rfl d_X7_has_14 rfl
/-! StripsOfFourModel.lookOf -/
abbrev c_X7_lookOf : Cf := (prog_9_method_19_code, 4, "StripsOfFourModel", "lookOf", (some .int), { frames := 1, cells := 0, slots := 0, locals := 22 })
theorem d_X7_lookOf_0 : decode prog_9_method_19_code 0 = .ok (.aload_n 0, 1) := by decide +kernel
theorem d_X7_lookOf_1 : decode prog_9_method_19_code 1 = .ok (.iload_n 1, 1) := by decide +kernel
theorem d_X7_lookOf_2 : decode prog_9_method_19_code 2 = .ok (.iconst 3, 1) := by decide +kernel
theorem d_X7_lookOf_3 : decode prog_9_method_19_code 3 = .ok (.iconst 4, 1) := by decide +kernel
theorem d_X7_lookOf_4 : decode prog_9_method_19_code 4 = .ok (.iload_n 2, 1) := by decide +kernel
theorem d_X7_lookOf_5 : decode prog_9_method_19_code 5 = .ok (.imul, 1) := by decide +kernel
theorem d_X7_lookOf_6 : decode prog_9_method_19_code 6 = .ok (.iadd, 1) := by decide +kernel
theorem d_X7_lookOf_7 : decode prog_9_method_19_code 7 = .ok (.iload_n 3, 1) := by decide +kernel
theorem d_X7_lookOf_8 : decode prog_9_method_19_code 8 = .ok (.iadd, 1) := by decide +kernel
theorem d_X7_lookOf_9 : decode prog_9_method_19_code 9 = .ok (.invokevirtual 115, 3) := by decide +kernel
theorem d_X7_lookOf_12 : decode prog_9_method_19_code 12 = .ok (.ireturn, 1) := by decide +kernel
def m_X7_lookOf (sh : Sh) (v0 : Nat) (v1 : Int32) (v2 : Int32) (v3 : Int32) (μ : Mu) : Option (Int32 × Mu) :=
  gd (iz sh 7 v0) <|
  ca2 (m_X7_of sh v0 v1 ((3 + (4 * v2)) + v3) μ) fun r2 μ3 =>
  some (r2, μ3)
set_option maxHeartbeats 4000000 in
set_option maxRecDepth 20000 in
theorem t_X7_lookOf {l : Launch} {G : Gl} {n : Nat} {sh : Sh} {x : Int32 × Mu} {v0 : Nat} {v1 : Int32} {v2 : Int32} {v3 : Int32} {μ : Mu} (h : m_X7_lookOf sh v0 v1 v2 v3 μ = some x) : Ct l G ⟨"StripsOfFourModel", "lookOf", "(III)I"⟩ prog_9_method_19_code 4 (some .int) { frames := 1, cells := 0, slots := 0, locals := 22 } n sh μ [vr v0, vi v1, vi v2, vi v3] (some (.int x.1)) n sh x.2 := by
  refine Ct.of (lc := [some (vr v0), some (vi v1), some (vi v2), some (vi v3)]) (by decide +kernel) (Nat.le_of_ble_eq_true rfl) rfl ?_
  show Sj l G (QI G n sh x) c_X7_lookOf n sh 0 0 μ 0 [some (vr v0), some (vi v1), some (vi v2), some (vi v3)] []
  unfold m_X7_lookOf at h
  refine s_aload_n (pc := 0) d_X7_lookOf_0 rfl rfl ?_
  refine s_iload_n (pc := 1) d_X7_lookOf_1 rfl rfl ?_
  refine s_iconst (pc := 2) (v := 3) d_X7_lookOf_2 (by decide) ?_
  refine s_iconst (pc := 3) (v := 4) d_X7_lookOf_3 (by decide) ?_
  refine s_iload_n (pc := 4) d_X7_lookOf_4 rfl rfl ?_
  refine s_imul (pc := 5) d_X7_lookOf_5 ?_
  refine s_iadd (pc := 6) d_X7_lookOf_6 ?_
  refine s_iload_n (pc := 7) d_X7_lookOf_7 rfl rfl ?_
  refine s_iadd (pc := 8) d_X7_lookOf_8 ?_
  obtain ⟨g1, h⟩ := gd_1 h
  obtain ⟨r2, μ3, er2, h⟩ := ca2_1 h
  refine s_callV (pc := 9) (as := [vi v1, vi ((3 + (4 * v2)) + v3)]) (st := []) (vo := [vi r2]) (t_X7_of er2) cl_7 g1 d_X7_lookOf_9 y_X7_of w_789 w_791 w_s15 ⟨by decide, by decide⟩ ⟨Nat.le_of_ble_eq_true rfl, Nat.le_of_ble_eq_true rfl⟩ (Nat.le_of_ble_eq_true rfl) rfl rfl rfl ?_
  refine s_as (kc' := 0) (js' := 0) (pc' := 12) (st' := [vi r2]) ⟨rfl, rfl, rfl, rfl⟩ ?_
  obtain rfl := Option.some.inj h
  exact s_iret (pc := 12) d_X7_lookOf_12 rfl
/-! StripsOfFourModel.isElsewhere -/
abbrev c_X7_isElsewhere : Cf := (prog_9_method_48_code, 9, "StripsOfFourModel", "isElsewhere", (some .boolean), { frames := 2, cells := 0, slots := 0, locals := 45 })
theorem d_X7_isElsewhere_0 : decode prog_9_method_48_code 0 = .ok (.iconst 0, 1) := by decide +kernel
theorem d_X7_isElsewhere_1 : decode prog_9_method_48_code 1 = .ok (.istore 4, 2) := by decide +kernel
theorem d_X7_isElsewhere_3 : decode prog_9_method_48_code 3 = .ok (.iconst 0, 1) := by decide +kernel
theorem d_X7_isElsewhere_4 : decode prog_9_method_48_code 4 = .ok (.istore 5, 2) := by decide +kernel
theorem d_X7_isElsewhere_6 : decode prog_9_method_48_code 6 = .ok (.iload 5, 2) := by decide +kernel
theorem d_X7_isElsewhere_8 : decode prog_9_method_48_code 8 = .ok (.aload_n 0, 1) := by decide +kernel
theorem d_X7_isElsewhere_9 : decode prog_9_method_48_code 9 = .ok (.getfield 31, 3) := by decide +kernel
theorem d_X7_isElsewhere_12 : decode prog_9_method_48_code 12 = .ok (.sipush 202, 3) := by decide +kernel
theorem d_X7_isElsewhere_15 : decode prog_9_method_48_code 15 = .ok (.iaload, 1) := by decide +kernel
theorem d_X7_isElsewhere_16 : decode prog_9_method_48_code 16 = .ok (.if_icmp .ge 107, 3) := by decide +kernel
theorem d_X7_isElsewhere_19 : decode prog_9_method_48_code 19 = .ok (.iconst 0, 1) := by decide +kernel
theorem d_X7_isElsewhere_20 : decode prog_9_method_48_code 20 = .ok (.istore 6, 2) := by decide +kernel
theorem d_X7_isElsewhere_22 : decode prog_9_method_48_code 22 = .ok (.iload 6, 2) := by decide +kernel
theorem d_X7_isElsewhere_24 : decode prog_9_method_48_code 24 = .ok (.iconst 4, 1) := by decide +kernel
theorem d_X7_isElsewhere_25 : decode prog_9_method_48_code 25 = .ok (.if_icmp .ge 92, 3) := by decide +kernel
theorem d_X7_isElsewhere_28 : decode prog_9_method_48_code 28 = .ok (.aload_n 0, 1) := by decide +kernel
theorem d_X7_isElsewhere_29 : decode prog_9_method_48_code 29 = .ok (.iload 5, 2) := by decide +kernel
theorem d_X7_isElsewhere_31 : decode prog_9_method_48_code 31 = .ok (.iconst 0, 1) := by decide +kernel
theorem d_X7_isElsewhere_32 : decode prog_9_method_48_code 32 = .ok (.invokevirtual 115, 3) := by decide +kernel
theorem d_X7_isElsewhere_35 : decode prog_9_method_48_code 35 = .ok (.iload_n 2, 1) := by decide +kernel
theorem d_X7_isElsewhere_36 : decode prog_9_method_48_code 36 = .ok (.if_icmp .ne 81, 3) := by decide +kernel
theorem d_X7_isElsewhere_39 : decode prog_9_method_48_code 39 = .ok (.aload_n 0, 1) := by decide +kernel
theorem d_X7_isElsewhere_40 : decode prog_9_method_48_code 40 = .ok (.iload 5, 2) := by decide +kernel
theorem d_X7_isElsewhere_42 : decode prog_9_method_48_code 42 = .ok (.iload 6, 2) := by decide +kernel
theorem d_X7_isElsewhere_44 : decode prog_9_method_48_code 44 = .ok (.iconst 0, 1) := by decide +kernel
theorem d_X7_isElsewhere_45 : decode prog_9_method_48_code 45 = .ok (.invokevirtual 141, 3) := by decide +kernel
theorem d_X7_isElsewhere_48 : decode prog_9_method_48_code 48 = .ok (.istore 7, 2) := by decide +kernel
theorem d_X7_isElsewhere_50 : decode prog_9_method_48_code 50 = .ok (.iload 7, 2) := by decide +kernel
theorem d_X7_isElsewhere_52 : decode prog_9_method_48_code 52 = .ok (.iload_n 3, 1) := by decide +kernel
theorem d_X7_isElsewhere_53 : decode prog_9_method_48_code 53 = .ok (.if_icmp .ge 10, 3) := by decide +kernel
theorem d_X7_isElsewhere_56 : decode prog_9_method_48_code 56 = .ok (.iload_n 3, 1) := by decide +kernel
theorem d_X7_isElsewhere_57 : decode prog_9_method_48_code 57 = .ok (.iload 7, 2) := by decide +kernel
theorem d_X7_isElsewhere_59 : decode prog_9_method_48_code 59 = .ok (.isub, 1) := by decide +kernel
theorem d_X7_isElsewhere_60 : decode prog_9_method_48_code 60 = .ok (.goto 7, 3) := by decide +kernel
theorem d_X7_isElsewhere_63 : decode prog_9_method_48_code 63 = .ok (.iload 7, 2) := by decide +kernel
theorem d_X7_isElsewhere_65 : decode prog_9_method_48_code 65 = .ok (.iload_n 3, 1) := by decide +kernel
theorem d_X7_isElsewhere_66 : decode prog_9_method_48_code 66 = .ok (.isub, 1) := by decide +kernel
theorem d_X7_isElsewhere_67 : decode prog_9_method_48_code 67 = .ok (.istore 8, 2) := by decide +kernel
theorem d_X7_isElsewhere_69 : decode prog_9_method_48_code 69 = .ok (.iload 4, 2) := by decide +kernel
theorem d_X7_isElsewhere_71 : decode prog_9_method_48_code 71 = .ok (.ifCond .ne 33, 3) := by decide +kernel
theorem d_X7_isElsewhere_74 : decode prog_9_method_48_code 74 = .ok (.aload_n 0, 1) := by decide +kernel
theorem d_X7_isElsewhere_75 : decode prog_9_method_48_code 75 = .ok (.iload 5, 2) := by decide +kernel
theorem d_X7_isElsewhere_77 : decode prog_9_method_48_code 77 = .ok (.iload 6, 2) := by decide +kernel
theorem d_X7_isElsewhere_79 : decode prog_9_method_48_code 79 = .ok (.iconst 1, 1) := by decide +kernel
theorem d_X7_isElsewhere_80 : decode prog_9_method_48_code 80 = .ok (.invokevirtual 141, 3) := by decide +kernel
theorem d_X7_isElsewhere_83 : decode prog_9_method_48_code 83 = .ok (.iload_n 1, 1) := by decide +kernel
theorem d_X7_isElsewhere_84 : decode prog_9_method_48_code 84 = .ok (.invokestatic 178, 3) := by decide +kernel
theorem d_X7_isElsewhere_87 : decode prog_9_method_48_code 87 = .ok (.ifCond .eq 21, 3) := by decide +kernel
theorem d_X7_isElsewhere_90 : decode prog_9_method_48_code 90 = .ok (.iload 8, 2) := by decide +kernel
theorem d_X7_isElsewhere_92 : decode prog_9_method_48_code 92 = .ok (.ifCond .eq 12, 3) := by decide +kernel
theorem d_X7_isElsewhere_95 : decode prog_9_method_48_code 95 = .ok (.iload 8, 2) := by decide +kernel
theorem d_X7_isElsewhere_97 : decode prog_9_method_48_code 97 = .ok (.aload_n 0, 1) := by decide +kernel
theorem d_X7_isElsewhere_98 : decode prog_9_method_48_code 98 = .ok (.getfield 112, 3) := by decide +kernel
theorem d_X7_isElsewhere_101 : decode prog_9_method_48_code 101 = .ok (.if_icmp .ge 7, 3) := by decide +kernel
theorem d_X7_isElsewhere_104 : decode prog_9_method_48_code 104 = .ok (.iconst 1, 1) := by decide +kernel
theorem d_X7_isElsewhere_105 : decode prog_9_method_48_code 105 = .ok (.goto 4, 3) := by decide +kernel
theorem d_X7_isElsewhere_108 : decode prog_9_method_48_code 108 = .ok (.iconst 0, 1) := by decide +kernel
theorem d_X7_isElsewhere_109 : decode prog_9_method_48_code 109 = .ok (.istore 4, 2) := by decide +kernel
theorem d_X7_isElsewhere_111 : decode prog_9_method_48_code 111 = .ok (.iinc 6 1, 3) := by decide +kernel
theorem d_X7_isElsewhere_114 : decode prog_9_method_48_code 114 = .ok (.goto (-92), 3) := by decide +kernel
theorem d_X7_isElsewhere_117 : decode prog_9_method_48_code 117 = .ok (.iinc 5 1, 3) := by decide +kernel
theorem d_X7_isElsewhere_120 : decode prog_9_method_48_code 120 = .ok (.goto (-114), 3) := by decide +kernel
theorem d_X7_isElsewhere_123 : decode prog_9_method_48_code 123 = .ok (.iload 4, 2) := by decide +kernel
theorem d_X7_isElsewhere_125 : decode prog_9_method_48_code 125 = .ok (.ireturn, 1) := by decide +kernel
def m_X7_isElsewhere_b109 (sh : Sh) (k6 : Int32 → Int32 → Mu → Option (Int32 × Mu)) (k22 : Int32 → Int32 → Mu → Option (Int32 × Mu)) (v0 : Nat) (v1 : Int32) (v2 : Int32) (v3 : Int32) (v5 : Int32) (v6 : Int32) (s0 : Int32) (μ : Mu) : Option (Int32 × Mu) :=
  bd (v6 + 1) fun w24 =>
  k22 s0 w24 μ
def m_X7_isElsewhere_b104 (sh : Sh) (k6 : Int32 → Int32 → Mu → Option (Int32 × Mu)) (k22 : Int32 → Int32 → Mu → Option (Int32 × Mu)) (v0 : Nat) (v1 : Int32) (v2 : Int32) (v3 : Int32) (v5 : Int32) (v6 : Int32) (μ : Mu) : Option (Int32 × Mu) :=
  m_X7_isElsewhere_b109 sh k6 k22 v0 v1 v2 v3 v5 v6 1 μ
def m_X7_isElsewhere_b108 (sh : Sh) (k6 : Int32 → Int32 → Mu → Option (Int32 × Mu)) (k22 : Int32 → Int32 → Mu → Option (Int32 × Mu)) (v0 : Nat) (v1 : Int32) (v2 : Int32) (v3 : Int32) (v5 : Int32) (v6 : Int32) (μ : Mu) : Option (Int32 × Mu) :=
  m_X7_isElsewhere_b109 sh k6 k22 v0 v1 v2 v3 v5 v6 0 μ
def m_X7_isElsewhere_b67 (sh : Sh) (k6 : Int32 → Int32 → Mu → Option (Int32 × Mu)) (k22 : Int32 → Int32 → Mu → Option (Int32 × Mu)) (v0 : Nat) (v1 : Int32) (v2 : Int32) (v3 : Int32) (v4 : Int32) (v5 : Int32) (v6 : Int32) (s0 : Int32) (μ : Mu) : Option (Int32 × Mu) :=
  if v4 = 0 then
    gd (iz sh 7 v0) <|
    ca2 (m_X7_lookOf sh v0 v5 v6 1 μ) fun r17 μ18 =>
    ca2 (m_X7_has sh r17 v1 μ18) fun r19 μ20 =>
    if r19 = 0 then
      m_X7_isElsewhere_b108 sh k6 k22 v0 v1 v2 v3 v5 v6 μ20
    else
      if s0 = 0 then
        m_X7_isElsewhere_b104 sh k6 k22 v0 v1 v2 v3 v5 v6 μ20
      else
        if (gI μ20 v0 4) ≤ s0 then
          m_X7_isElsewhere_b108 sh k6 k22 v0 v1 v2 v3 v5 v6 μ20
        else
          m_X7_isElsewhere_b104 sh k6 k22 v0 v1 v2 v3 v5 v6 μ20
  else
    m_X7_isElsewhere_b104 sh k6 k22 v0 v1 v2 v3 v5 v6 μ
def m_X7_isElsewhere_b117 (sh : Sh) (k6 : Int32 → Int32 → Mu → Option (Int32 × Mu)) (v0 : Nat) (v1 : Int32) (v2 : Int32) (v3 : Int32) (v4 : Int32) (v5 : Int32) (μ : Mu) : Option (Int32 × Mu) :=
  bd (v5 + 1) fun w14 =>
  k6 v4 w14 μ
def m_X7_isElsewhere_b22 (sh : Sh) (k6 : Int32 → Int32 → Mu → Option (Int32 × Mu)) (k22 : Int32 → Int32 → Mu → Option (Int32 × Mu)) (v0 : Nat) (v1 : Int32) (v2 : Int32) (v3 : Int32) (v4 : Int32) (v5 : Int32) (v6 : Int32) (μ : Mu) : Option (Int32 × Mu) :=
  if 4 ≤ v6 then
    m_X7_isElsewhere_b117 sh k6 v0 v1 v2 v3 v4 v5 μ
  else
    gd (iz sh 7 v0) <|
    ca2 (m_X7_of sh v0 v5 0 μ) fun r8 μ9 =>
    if r8 = v2 then
      ca2 (m_X7_lookOf sh v0 v5 v6 0 μ9) fun r11 μ12 =>
      if v3 ≤ r11 then
        m_X7_isElsewhere_b67 sh k6 k22 v0 v1 v2 v3 v4 v5 v6 (r11 - v3) μ12
      else
        m_X7_isElsewhere_b67 sh k6 k22 v0 v1 v2 v3 v4 v5 v6 (v3 - r11) μ12
    else
      m_X7_isElsewhere_b117 sh k6 v0 v1 v2 v3 v4 v5 μ9
def m_X7_isElsewhere_h22 (sh : Sh) (k6 : Int32 → Int32 → Mu → Option (Int32 × Mu)) (v0 : Nat) (v1 : Int32) (v2 : Int32) (v3 : Int32) (v5 : Int32) : Nat → Int32 → Int32 → Mu → Option (Int32 × Mu)
  | 0 => fun _ _ _ => none
  | f + 1 => fun v4 v6 μ => m_X7_isElsewhere_b22 sh k6 (m_X7_isElsewhere_h22 sh k6 v0 v1 v2 v3 v5 f) v0 v1 v2 v3 v4 v5 v6 μ
def m_X7_isElsewhere_b6 (sh : Sh) (k6 : Int32 → Int32 → Mu → Option (Int32 × Mu)) (v0 : Nat) (v1 : Int32) (v2 : Int32) (v3 : Int32) (v4 : Int32) (v5 : Int32) (μ : Mu) : Option (Int32 × Mu) :=
  gd (iz sh 7 v0) <|
  bd (gR μ v0 16) fun a2 =>
  gd (ix sh 8 a2 202) <|
  bd (gI μ a2 (202 : Int32).toNatClampNeg) fun w4 =>
  if w4 ≤ v5 then
    some (v4 &&& 1, μ)
  else
    m_X7_isElsewhere_h22 sh k6 v0 v1 v2 v3 v5 FU v4 0 μ
def m_X7_isElsewhere_h6 (sh : Sh) (v0 : Nat) (v1 : Int32) (v2 : Int32) (v3 : Int32) : Nat → Int32 → Int32 → Mu → Option (Int32 × Mu)
  | 0 => fun _ _ _ => none
  | f + 1 => fun v4 v5 μ => m_X7_isElsewhere_b6 sh (m_X7_isElsewhere_h6 sh v0 v1 v2 v3 f) v0 v1 v2 v3 v4 v5 μ
def m_X7_isElsewhere (sh : Sh) (v0 : Nat) (v1 : Int32) (v2 : Int32) (v3 : Int32) (μ : Mu) : Option (Int32 × Mu) :=
  m_X7_isElsewhere_h6 sh v0 v1 v2 v3 FU 0 0 μ
set_option maxHeartbeats 4000000 in
set_option maxRecDepth 20000 in
theorem t_X7_isElsewhere_b109 {l : Launch} {G : Gl} {n : Nat} {sh : Sh} {x : Int32 × Mu} {k6 : Int32 → Int32 → Mu → Option (Int32 × Mu)} {k22 : Int32 → Int32 → Mu → Option (Int32 × Mu)} {v0 : Nat} {v1 : Int32} {v2 : Int32} {v3 : Int32} {v5 : Int32} {v6 : Int32} {s0 : Int32} {μ : Mu} (hk6 : ∀ (v4 : Int32) (v5 : Int32) (μ : Mu), k6 v4 v5 μ = some x → Sj l G (QI G n sh x) c_X7_isElsewhere n sh 0 0 μ 6 [some (vr v0), some (vi v1), some (vi v2), some (vi v3), some (vi v4), some (vi v5), none, none, none] []) (hk22 : ∀ (v4 : Int32) (v6 : Int32) (μ : Mu), k22 v4 v6 μ = some x → Sj l G (QI G n sh x) c_X7_isElsewhere n sh 0 0 μ 22 [some (vr v0), some (vi v1), some (vi v2), some (vi v3), some (vi v4), some (vi v5), some (vi v6), none, none] []) (h : m_X7_isElsewhere_b109 sh k6 k22 v0 v1 v2 v3 v5 v6 s0 μ = some x) : Sj l G (QI G n sh x) c_X7_isElsewhere n sh 0 0 μ 109 [some (vr v0), some (vi v1), some (vi v2), some (vi v3), none, some (vi v5), some (vi v6), none, none] [vi s0] := by
  unfold m_X7_isElsewhere_b109 at h
  refine s_istore (pc := 109) (lc' := [some (vr v0), some (vi v1), some (vi v2), some (vi v3), some (vi s0), some (vi v5), some (vi v6), none, none]) d_X7_isElsewhere_109 (by decide) rfl ?_
  obtain ⟨w24, ew24, h⟩ := bd_1 h
  refine s_iinc (pc := 111) (v := w24) (lc' := [some (vr v0), some (vi v1), some (vi v2), some (vi v3), some (vi s0), some (vi v5), some (vi w24), none, none]) d_X7_isElsewhere_111 rfl (by rw [ew24]; rfl) (by decide) rfl ?_
  refine s_goto (pc := 114) (tgt := 22) d_X7_isElsewhere_114 (by decide) ?_
  exact hk22 _ _ _ h
set_option maxHeartbeats 4000000 in
set_option maxRecDepth 20000 in
theorem t_X7_isElsewhere_b104 {l : Launch} {G : Gl} {n : Nat} {sh : Sh} {x : Int32 × Mu} {k6 : Int32 → Int32 → Mu → Option (Int32 × Mu)} {k22 : Int32 → Int32 → Mu → Option (Int32 × Mu)} {v0 : Nat} {v1 : Int32} {v2 : Int32} {v3 : Int32} {v5 : Int32} {v6 : Int32} {μ : Mu} (hk6 : ∀ (v4 : Int32) (v5 : Int32) (μ : Mu), k6 v4 v5 μ = some x → Sj l G (QI G n sh x) c_X7_isElsewhere n sh 0 0 μ 6 [some (vr v0), some (vi v1), some (vi v2), some (vi v3), some (vi v4), some (vi v5), none, none, none] []) (hk22 : ∀ (v4 : Int32) (v6 : Int32) (μ : Mu), k22 v4 v6 μ = some x → Sj l G (QI G n sh x) c_X7_isElsewhere n sh 0 0 μ 22 [some (vr v0), some (vi v1), some (vi v2), some (vi v3), some (vi v4), some (vi v5), some (vi v6), none, none] []) (h : m_X7_isElsewhere_b104 sh k6 k22 v0 v1 v2 v3 v5 v6 μ = some x) : Sj l G (QI G n sh x) c_X7_isElsewhere n sh 0 0 μ 104 [some (vr v0), some (vi v1), some (vi v2), some (vi v3), none, some (vi v5), some (vi v6), none, none] [] := by
  unfold m_X7_isElsewhere_b104 at h
  refine s_iconst (pc := 104) (v := 1) d_X7_isElsewhere_104 (by decide) ?_
  refine s_goto (pc := 105) (tgt := 109) d_X7_isElsewhere_105 (by decide) ?_
  exact t_X7_isElsewhere_b109 hk6 hk22 h
set_option maxHeartbeats 4000000 in
set_option maxRecDepth 20000 in
theorem t_X7_isElsewhere_b108 {l : Launch} {G : Gl} {n : Nat} {sh : Sh} {x : Int32 × Mu} {k6 : Int32 → Int32 → Mu → Option (Int32 × Mu)} {k22 : Int32 → Int32 → Mu → Option (Int32 × Mu)} {v0 : Nat} {v1 : Int32} {v2 : Int32} {v3 : Int32} {v5 : Int32} {v6 : Int32} {μ : Mu} (hk6 : ∀ (v4 : Int32) (v5 : Int32) (μ : Mu), k6 v4 v5 μ = some x → Sj l G (QI G n sh x) c_X7_isElsewhere n sh 0 0 μ 6 [some (vr v0), some (vi v1), some (vi v2), some (vi v3), some (vi v4), some (vi v5), none, none, none] []) (hk22 : ∀ (v4 : Int32) (v6 : Int32) (μ : Mu), k22 v4 v6 μ = some x → Sj l G (QI G n sh x) c_X7_isElsewhere n sh 0 0 μ 22 [some (vr v0), some (vi v1), some (vi v2), some (vi v3), some (vi v4), some (vi v5), some (vi v6), none, none] []) (h : m_X7_isElsewhere_b108 sh k6 k22 v0 v1 v2 v3 v5 v6 μ = some x) : Sj l G (QI G n sh x) c_X7_isElsewhere n sh 0 0 μ 108 [some (vr v0), some (vi v1), some (vi v2), some (vi v3), none, some (vi v5), some (vi v6), none, none] [] := by
  unfold m_X7_isElsewhere_b108 at h
  refine s_iconst (pc := 108) (v := 0) d_X7_isElsewhere_108 (by decide) ?_
  exact t_X7_isElsewhere_b109 hk6 hk22 h
set_option maxHeartbeats 4000000 in
set_option maxRecDepth 20000 in
theorem t_X7_isElsewhere_b67 {l : Launch} {G : Gl} {n : Nat} {sh : Sh} {x : Int32 × Mu} {k6 : Int32 → Int32 → Mu → Option (Int32 × Mu)} {k22 : Int32 → Int32 → Mu → Option (Int32 × Mu)} {v0 : Nat} {v1 : Int32} {v2 : Int32} {v3 : Int32} {v4 : Int32} {v5 : Int32} {v6 : Int32} {s0 : Int32} {μ : Mu} (hk6 : ∀ (v4 : Int32) (v5 : Int32) (μ : Mu), k6 v4 v5 μ = some x → Sj l G (QI G n sh x) c_X7_isElsewhere n sh 0 0 μ 6 [some (vr v0), some (vi v1), some (vi v2), some (vi v3), some (vi v4), some (vi v5), none, none, none] []) (hk22 : ∀ (v4 : Int32) (v6 : Int32) (μ : Mu), k22 v4 v6 μ = some x → Sj l G (QI G n sh x) c_X7_isElsewhere n sh 0 0 μ 22 [some (vr v0), some (vi v1), some (vi v2), some (vi v3), some (vi v4), some (vi v5), some (vi v6), none, none] []) (h : m_X7_isElsewhere_b67 sh k6 k22 v0 v1 v2 v3 v4 v5 v6 s0 μ = some x) : Sj l G (QI G n sh x) c_X7_isElsewhere n sh 0 0 μ 67 [some (vr v0), some (vi v1), some (vi v2), some (vi v3), some (vi v4), some (vi v5), some (vi v6), none, none] [vi s0] := by
  unfold m_X7_isElsewhere_b67 at h
  refine s_istore (pc := 67) (lc' := [some (vr v0), some (vi v1), some (vi v2), some (vi v3), some (vi v4), some (vi v5), some (vi v6), none, some (vi s0)]) d_X7_isElsewhere_67 (by decide) rfl ?_
  refine s_iload (pc := 69) d_X7_isElsewhere_69 rfl ?_
  refine s_if_ne (pc := 71) (tgt := 104) d_X7_isElsewhere_71 (by decide) (fun c15 => ?_) (fun c15 => ?_)
  · have h := it_f c15 h
    refine s_mask [true, true, true, true, false, true, true, true, false] rfl ?_
    exact t_X7_isElsewhere_b104 hk6 hk22 h
  · have h := it_t c15 h
    refine s_aload_n (pc := 74) d_X7_isElsewhere_74 rfl rfl ?_
    refine s_iload (pc := 75) d_X7_isElsewhere_75 rfl ?_
    refine s_iload (pc := 77) d_X7_isElsewhere_77 rfl ?_
    refine s_iconst (pc := 79) (v := 1) d_X7_isElsewhere_79 (by decide) ?_
    obtain ⟨g16, h⟩ := gd_1 h
    obtain ⟨r17, μ18, er17, h⟩ := ca2_1 h
    refine s_callV (pc := 80) (as := [vi v5, vi v6, vi 1]) (st := []) (vo := [vi r17]) (t_X7_lookOf er17) cl_7 g16 d_X7_isElsewhere_80 y_X7_lookOf w_826 w_828 w_s21 ⟨by decide, by decide⟩ ⟨Nat.le_of_ble_eq_true rfl, Nat.le_of_ble_eq_true rfl⟩ (Nat.le_of_ble_eq_true rfl) rfl rfl rfl ?_
    refine s_as (kc' := 0) (js' := 0) (pc' := 83) (st' := [vi r17]) ⟨rfl, rfl, rfl, rfl⟩ ?_
    refine s_iload_n (pc := 83) d_X7_isElsewhere_83 rfl rfl ?_
    obtain ⟨r19, μ20, er19, h⟩ := ca2_1 h
    refine s_callS (pc := 84) (as := [vi r17, vi v1]) (st := []) (vo := [vi r19]) (t_X7_has er19) d_X7_isElsewhere_84 y_X7_has w_903 w_904 ⟨by decide, by decide⟩ ⟨Nat.le_of_ble_eq_true rfl, Nat.le_of_ble_eq_true rfl⟩ (Nat.le_of_ble_eq_true rfl) rfl rfl rfl ?_
    refine s_as (kc' := 0) (js' := 0) (pc' := 87) (st' := [vi r19]) ⟨rfl, rfl, rfl, rfl⟩ ?_
    refine s_if_eq (pc := 87) (tgt := 108) d_X7_isElsewhere_87 (by decide) (fun c21 => ?_) (fun c21 => ?_)
    · have h := it_t c21 h
      refine s_mask [true, true, true, true, false, true, true, true, false] rfl ?_
      exact t_X7_isElsewhere_b108 hk6 hk22 h
    · have h := it_f c21 h
      refine s_iload (pc := 90) d_X7_isElsewhere_90 rfl ?_
      refine s_if_eq (pc := 92) (tgt := 104) d_X7_isElsewhere_92 (by decide) (fun c22 => ?_) (fun c22 => ?_)
      · have h := it_t c22 h
        refine s_mask [true, true, true, true, false, true, true, true, false] rfl ?_
        exact t_X7_isElsewhere_b104 hk6 hk22 h
      · have h := it_f c22 h
        refine s_iload (pc := 95) d_X7_isElsewhere_95 rfl ?_
        refine s_aload_n (pc := 97) d_X7_isElsewhere_97 rfl rfl ?_
        refine s_getI (pc := 98) (k := 4) cl_7 d_X7_isElsewhere_98 g16 (by decide) w_664 rfl ?_
        refine s_icmp_ge (pc := 101) (tgt := 108) d_X7_isElsewhere_101 (by decide) (fun c23 => ?_) (fun c23 => ?_)
        · have h := it_t c23 h
          refine s_mask [true, true, true, true, false, true, true, true, false] rfl ?_
          exact t_X7_isElsewhere_b108 hk6 hk22 h
        · have h := it_f c23 h
          refine s_mask [true, true, true, true, false, true, true, true, false] rfl ?_
          exact t_X7_isElsewhere_b104 hk6 hk22 h
set_option maxHeartbeats 4000000 in
set_option maxRecDepth 20000 in
theorem t_X7_isElsewhere_b117 {l : Launch} {G : Gl} {n : Nat} {sh : Sh} {x : Int32 × Mu} {k6 : Int32 → Int32 → Mu → Option (Int32 × Mu)} {v0 : Nat} {v1 : Int32} {v2 : Int32} {v3 : Int32} {v4 : Int32} {v5 : Int32} {μ : Mu} (hk6 : ∀ (v4 : Int32) (v5 : Int32) (μ : Mu), k6 v4 v5 μ = some x → Sj l G (QI G n sh x) c_X7_isElsewhere n sh 0 0 μ 6 [some (vr v0), some (vi v1), some (vi v2), some (vi v3), some (vi v4), some (vi v5), none, none, none] []) (h : m_X7_isElsewhere_b117 sh k6 v0 v1 v2 v3 v4 v5 μ = some x) : Sj l G (QI G n sh x) c_X7_isElsewhere n sh 0 0 μ 117 [some (vr v0), some (vi v1), some (vi v2), some (vi v3), some (vi v4), some (vi v5), none, none, none] [] := by
  unfold m_X7_isElsewhere_b117 at h
  obtain ⟨w14, ew14, h⟩ := bd_1 h
  refine s_iinc (pc := 117) (v := w14) (lc' := [some (vr v0), some (vi v1), some (vi v2), some (vi v3), some (vi v4), some (vi w14), none, none, none]) d_X7_isElsewhere_117 rfl (by rw [ew14]; rfl) (by decide) rfl ?_
  refine s_goto (pc := 120) (tgt := 6) d_X7_isElsewhere_120 (by decide) ?_
  exact hk6 _ _ _ h
set_option maxHeartbeats 4000000 in
set_option maxRecDepth 20000 in
theorem t_X7_isElsewhere_b22 {l : Launch} {G : Gl} {n : Nat} {sh : Sh} {x : Int32 × Mu} {k6 : Int32 → Int32 → Mu → Option (Int32 × Mu)} {k22 : Int32 → Int32 → Mu → Option (Int32 × Mu)} {v0 : Nat} {v1 : Int32} {v2 : Int32} {v3 : Int32} {v4 : Int32} {v5 : Int32} {v6 : Int32} {μ : Mu} (hk6 : ∀ (v4 : Int32) (v5 : Int32) (μ : Mu), k6 v4 v5 μ = some x → Sj l G (QI G n sh x) c_X7_isElsewhere n sh 0 0 μ 6 [some (vr v0), some (vi v1), some (vi v2), some (vi v3), some (vi v4), some (vi v5), none, none, none] []) (hk22 : ∀ (v4 : Int32) (v6 : Int32) (μ : Mu), k22 v4 v6 μ = some x → Sj l G (QI G n sh x) c_X7_isElsewhere n sh 0 0 μ 22 [some (vr v0), some (vi v1), some (vi v2), some (vi v3), some (vi v4), some (vi v5), some (vi v6), none, none] []) (h : m_X7_isElsewhere_b22 sh k6 k22 v0 v1 v2 v3 v4 v5 v6 μ = some x) : Sj l G (QI G n sh x) c_X7_isElsewhere n sh 0 0 μ 22 [some (vr v0), some (vi v1), some (vi v2), some (vi v3), some (vi v4), some (vi v5), some (vi v6), none, none] [] := by
  unfold m_X7_isElsewhere_b22 at h
  refine s_iload (pc := 22) d_X7_isElsewhere_22 rfl ?_
  refine s_iconst (pc := 24) (v := 4) d_X7_isElsewhere_24 (by decide) ?_
  refine s_icmp_ge (pc := 25) (tgt := 117) d_X7_isElsewhere_25 (by decide) (fun c6 => ?_) (fun c6 => ?_)
  · have h := it_t c6 h
    refine s_mask [true, true, true, true, true, true, false, true, true] rfl ?_
    exact t_X7_isElsewhere_b117 hk6 h
  · have h := it_f c6 h
    refine s_aload_n (pc := 28) d_X7_isElsewhere_28 rfl rfl ?_
    refine s_iload (pc := 29) d_X7_isElsewhere_29 rfl ?_
    refine s_iconst (pc := 31) (v := 0) d_X7_isElsewhere_31 (by decide) ?_
    obtain ⟨g7, h⟩ := gd_1 h
    obtain ⟨r8, μ9, er8, h⟩ := ca2_1 h
    refine s_callV (pc := 32) (as := [vi v5, vi 0]) (st := []) (vo := [vi r8]) (t_X7_of er8) cl_7 g7 d_X7_isElsewhere_32 y_X7_of w_789 w_791 w_s15 ⟨by decide, by decide⟩ ⟨Nat.le_of_ble_eq_true rfl, Nat.le_of_ble_eq_true rfl⟩ (Nat.le_of_ble_eq_true rfl) rfl rfl rfl ?_
    refine s_as (kc' := 0) (js' := 0) (pc' := 35) (st' := [vi r8]) ⟨rfl, rfl, rfl, rfl⟩ ?_
    refine s_iload_n (pc := 35) d_X7_isElsewhere_35 rfl rfl ?_
    refine s_icmp_ne (pc := 36) (tgt := 117) d_X7_isElsewhere_36 (by decide) (fun c10 => ?_) (fun c10 => ?_)
    · have h := it_f c10 h
      refine s_mask [true, true, true, true, true, true, false, true, true] rfl ?_
      exact t_X7_isElsewhere_b117 hk6 h
    · have h := it_t c10 h
      refine s_aload_n (pc := 39) d_X7_isElsewhere_39 rfl rfl ?_
      refine s_iload (pc := 40) d_X7_isElsewhere_40 rfl ?_
      refine s_iload (pc := 42) d_X7_isElsewhere_42 rfl ?_
      refine s_iconst (pc := 44) (v := 0) d_X7_isElsewhere_44 (by decide) ?_
      obtain ⟨r11, μ12, er11, h⟩ := ca2_1 h
      refine s_callV (pc := 45) (as := [vi v5, vi v6, vi 0]) (st := []) (vo := [vi r11]) (t_X7_lookOf er11) cl_7 g7 d_X7_isElsewhere_45 y_X7_lookOf w_826 w_828 w_s21 ⟨by decide, by decide⟩ ⟨Nat.le_of_ble_eq_true rfl, Nat.le_of_ble_eq_true rfl⟩ (Nat.le_of_ble_eq_true rfl) rfl rfl rfl ?_
      refine s_as (kc' := 0) (js' := 0) (pc' := 48) (st' := [vi r11]) ⟨rfl, rfl, rfl, rfl⟩ ?_
      refine s_istore (pc := 48) (lc' := [some (vr v0), some (vi v1), some (vi v2), some (vi v3), some (vi v4), some (vi v5), some (vi v6), some (vi r11), none]) d_X7_isElsewhere_48 (by decide) rfl ?_
      refine s_iload (pc := 50) d_X7_isElsewhere_50 rfl ?_
      refine s_iload_n (pc := 52) d_X7_isElsewhere_52 rfl rfl ?_
      refine s_icmp_ge (pc := 53) (tgt := 63) d_X7_isElsewhere_53 (by decide) (fun c13 => ?_) (fun c13 => ?_)
      · have h := it_t c13 h
        refine s_iload (pc := 63) d_X7_isElsewhere_63 rfl ?_
        refine s_iload_n (pc := 65) d_X7_isElsewhere_65 rfl rfl ?_
        refine s_isub (pc := 66) d_X7_isElsewhere_66 ?_
        refine s_mask [true, true, true, true, true, true, true, false, true] rfl ?_
        exact t_X7_isElsewhere_b67 hk6 hk22 h
      · have h := it_f c13 h
        refine s_iload_n (pc := 56) d_X7_isElsewhere_56 rfl rfl ?_
        refine s_iload (pc := 57) d_X7_isElsewhere_57 rfl ?_
        refine s_isub (pc := 59) d_X7_isElsewhere_59 ?_
        refine s_goto (pc := 60) (tgt := 67) d_X7_isElsewhere_60 (by decide) ?_
        refine s_mask [true, true, true, true, true, true, true, false, true] rfl ?_
        exact t_X7_isElsewhere_b67 hk6 hk22 h
set_option maxHeartbeats 4000000 in
set_option maxRecDepth 20000 in
theorem t_X7_isElsewhere_h22 {l : Launch} {G : Gl} {n : Nat} {sh : Sh} {x : Int32 × Mu} {k6 : Int32 → Int32 → Mu → Option (Int32 × Mu)} {v0 : Nat} {v1 : Int32} {v2 : Int32} {v3 : Int32} {v5 : Int32} (hk6 : ∀ (v4 : Int32) (v5 : Int32) (μ : Mu), k6 v4 v5 μ = some x → Sj l G (QI G n sh x) c_X7_isElsewhere n sh 0 0 μ 6 [some (vr v0), some (vi v1), some (vi v2), some (vi v3), some (vi v4), some (vi v5), none, none, none] []) : ∀ (f : Nat) (v4 : Int32) (v6 : Int32) (μ : Mu), m_X7_isElsewhere_h22 sh k6 v0 v1 v2 v3 v5 f v4 v6 μ = some x → Sj l G (QI G n sh x) c_X7_isElsewhere n sh 0 0 μ 22 [some (vr v0), some (vi v1), some (vi v2), some (vi v3), some (vi v4), some (vi v5), some (vi v6), none, none] [] := by
  intro f
  induction f with
  | zero =>
    intro v4 v6 μ h
    cases h
  | succ f ih =>
    intro v4 v6 μ h
    exact t_X7_isElsewhere_b22 hk6 ih h
set_option maxHeartbeats 4000000 in
set_option maxRecDepth 20000 in
theorem t_X7_isElsewhere_b6 {l : Launch} {G : Gl} {n : Nat} {sh : Sh} {x : Int32 × Mu} {k6 : Int32 → Int32 → Mu → Option (Int32 × Mu)} {v0 : Nat} {v1 : Int32} {v2 : Int32} {v3 : Int32} {v4 : Int32} {v5 : Int32} {μ : Mu} (hk6 : ∀ (v4 : Int32) (v5 : Int32) (μ : Mu), k6 v4 v5 μ = some x → Sj l G (QI G n sh x) c_X7_isElsewhere n sh 0 0 μ 6 [some (vr v0), some (vi v1), some (vi v2), some (vi v3), some (vi v4), some (vi v5), none, none, none] []) (h : m_X7_isElsewhere_b6 sh k6 v0 v1 v2 v3 v4 v5 μ = some x) : Sj l G (QI G n sh x) c_X7_isElsewhere n sh 0 0 μ 6 [some (vr v0), some (vi v1), some (vi v2), some (vi v3), some (vi v4), some (vi v5), none, none, none] [] := by
  unfold m_X7_isElsewhere_b6 at h
  refine s_iload (pc := 6) d_X7_isElsewhere_6 rfl ?_
  refine s_aload_n (pc := 8) d_X7_isElsewhere_8 rfl rfl ?_
  obtain ⟨g1, h⟩ := gd_1 h
  refine s_getR (pc := 9) (k := 16) cl_7 d_X7_isElsewhere_9 g1 (by decide) w_676 (rt_arr _) ?_
  obtain ⟨a2, ea2, h⟩ := bd_1 h
  refine s_topR ea2 ?_
  refine s_sipush (pc := 12) (v := 202) d_X7_isElsewhere_12 (by decide) ?_
  obtain ⟨g3, h⟩ := gd_1 h
  refine s_iald (pc := 15) d_X7_isElsewhere_15 g3 ?_
  obtain ⟨w4, ew4, h⟩ := bd_1 h
  refine s_topI ew4 ?_
  refine s_icmp_ge (pc := 16) (tgt := 123) d_X7_isElsewhere_16 (by decide) (fun c5 => ?_) (fun c5 => ?_)
  · have h := it_t c5 h
    refine s_iload (pc := 123) d_X7_isElsewhere_123 rfl ?_
    obtain rfl := Option.some.inj h
    exact s_zret (pc := 125) d_X7_isElsewhere_125 rfl
  · have h := it_f c5 h
    refine s_iconst (pc := 19) (v := 0) d_X7_isElsewhere_19 (by decide) ?_
    refine s_istore (pc := 20) (lc' := [some (vr v0), some (vi v1), some (vi v2), some (vi v3), some (vi v4), some (vi v5), some (vi 0), none, none]) d_X7_isElsewhere_20 (by decide) rfl ?_
    exact t_X7_isElsewhere_h22 hk6 FU _ _ _ h
set_option maxHeartbeats 4000000 in
set_option maxRecDepth 20000 in
theorem t_X7_isElsewhere_h6 {l : Launch} {G : Gl} {n : Nat} {sh : Sh} {x : Int32 × Mu} {v0 : Nat} {v1 : Int32} {v2 : Int32} {v3 : Int32} : ∀ (f : Nat) (v4 : Int32) (v5 : Int32) (μ : Mu), m_X7_isElsewhere_h6 sh v0 v1 v2 v3 f v4 v5 μ = some x → Sj l G (QI G n sh x) c_X7_isElsewhere n sh 0 0 μ 6 [some (vr v0), some (vi v1), some (vi v2), some (vi v3), some (vi v4), some (vi v5), none, none, none] [] := by
  intro f
  induction f with
  | zero =>
    intro v4 v5 μ h
    cases h
  | succ f ih =>
    intro v4 v5 μ h
    exact t_X7_isElsewhere_b6 ih h
set_option maxHeartbeats 4000000 in
set_option maxRecDepth 20000 in
theorem t_X7_isElsewhere {l : Launch} {G : Gl} {n : Nat} {sh : Sh} {x : Int32 × Mu} {v0 : Nat} {v1 : Int32} {v2 : Int32} {v3 : Int32} {μ : Mu} (h : m_X7_isElsewhere sh v0 v1 v2 v3 μ = some x) : Ct l G ⟨"StripsOfFourModel", "isElsewhere", "(III)Z"⟩ prog_9_method_48_code 9 (some .boolean) { frames := 2, cells := 0, slots := 0, locals := 45 } n sh μ [vr v0, vi v1, vi v2, vi v3] (some (.int x.1)) n sh x.2 := by
  refine Ct.of (lc := [some (vr v0), some (vi v1), some (vi v2), some (vi v3), none, none, none, none, none]) (by decide +kernel) (Nat.le_of_ble_eq_true rfl) rfl ?_
  show Sj l G (QI G n sh x) c_X7_isElsewhere n sh 0 0 μ 0 [some (vr v0), some (vi v1), some (vi v2), some (vi v3), none, none, none, none, none] []
  unfold m_X7_isElsewhere at h
  refine s_iconst (pc := 0) (v := 0) d_X7_isElsewhere_0 (by decide) ?_
  refine s_istore (pc := 1) (lc' := [some (vr v0), some (vi v1), some (vi v2), some (vi v3), some (vi 0), none, none, none, none]) d_X7_isElsewhere_1 (by decide) rfl ?_
  refine s_iconst (pc := 3) (v := 0) d_X7_isElsewhere_3 (by decide) ?_
  refine s_istore (pc := 4) (lc' := [some (vr v0), some (vi v1), some (vi v2), some (vi v3), some (vi 0), some (vi 0), none, none, none]) d_X7_isElsewhere_4 (by decide) rfl ?_
  exact t_X7_isElsewhere_h6 FU _ _ _ h
/-! StripsOfFourModel.noOne -/
abbrev c_X7_noOne : Cf := (prog_9_method_7_code, 2, "StripsOfFourModel", "noOne", (some .boolean), { frames := 1, cells := 0, slots := 0, locals := 25 })
theorem d_X7_noOne_0 : decode prog_9_method_7_code 0 = .ok (.iload_n 1, 1) := by decide +kernel
theorem d_X7_noOne_1 : decode prog_9_method_7_code 1 = .ok (.i2l, 1) := by decide +kernel
theorem d_X7_noOne_2 : decode prog_9_method_7_code 2 = .ok (.lconst 0, 1) := by decide +kernel
theorem d_X7_noOne_3 : decode prog_9_method_7_code 3 = .ok (.aload_n 0, 1) := by decide +kernel
theorem d_X7_noOne_4 : decode prog_9_method_7_code 4 = .ok (.getfield 77, 3) := by decide +kernel
theorem d_X7_noOne_7 : decode prog_9_method_7_code 7 = .ok (.iconst 1, 1) := by decide +kernel
theorem d_X7_noOne_8 : decode prog_9_method_7_code 8 = .ok (.isub, 1) := by decide +kernel
theorem d_X7_noOne_9 : decode prog_9_method_7_code 9 = .ok (.i2l, 1) := by decide +kernel
theorem d_X7_noOne_10 : decode prog_9_method_7_code 10 = .ok (.invokestatic 73, 3) := by decide +kernel
theorem d_X7_noOne_13 : decode prog_9_method_7_code 13 = .ok (.ifCond .ne 7, 3) := by decide +kernel
theorem d_X7_noOne_16 : decode prog_9_method_7_code 16 = .ok (.iconst 1, 1) := by decide +kernel
theorem d_X7_noOne_17 : decode prog_9_method_7_code 17 = .ok (.goto 4, 3) := by decide +kernel
theorem d_X7_noOne_20 : decode prog_9_method_7_code 20 = .ok (.iconst 0, 1) := by decide +kernel
theorem d_X7_noOne_21 : decode prog_9_method_7_code 21 = .ok (.ireturn, 1) := by decide +kernel
def m_X7_noOne (sh : Sh) (v0 : Nat) (v1 : Int32) (μ : Mu) : Option (Int32 × Mu) :=
  gd (iz sh 7 v0) <|
  ca2 (m_X7_in sh (v1.toInt64) 0 (((gI μ v0 6) - 1).toInt64) μ) fun r2 μ3 =>
  if r2 = 0 then
    some (1, μ3)
  else
    some (0, μ3)
set_option maxHeartbeats 4000000 in
set_option maxRecDepth 20000 in
theorem t_X7_noOne {l : Launch} {G : Gl} {n : Nat} {sh : Sh} {x : Int32 × Mu} {v0 : Nat} {v1 : Int32} {μ : Mu} (h : m_X7_noOne sh v0 v1 μ = some x) : Ct l G ⟨"StripsOfFourModel", "noOne", "(I)Z"⟩ prog_9_method_7_code 2 (some .boolean) { frames := 1, cells := 0, slots := 0, locals := 25 } n sh μ [vr v0, vi v1] (some (.int x.1)) n sh x.2 := by
  refine Ct.of (lc := [some (vr v0), some (vi v1)]) (by decide +kernel) (Nat.le_of_ble_eq_true rfl) rfl ?_
  show Sj l G (QI G n sh x) c_X7_noOne n sh 0 0 μ 0 [some (vr v0), some (vi v1)] []
  unfold m_X7_noOne at h
  refine s_iload_n (pc := 0) d_X7_noOne_0 rfl rfl ?_
  refine s_i2l (pc := 1) d_X7_noOne_1 ?_
  refine s_lconst (pc := 2) (v := 0) d_X7_noOne_2 (by decide) ?_
  refine s_aload_n (pc := 3) d_X7_noOne_3 rfl rfl ?_
  obtain ⟨g1, h⟩ := gd_1 h
  refine s_getI (pc := 4) (k := 6) cl_7 d_X7_noOne_4 g1 (by decide) w_666 rfl ?_
  refine s_iconst (pc := 7) (v := 1) d_X7_noOne_7 (by decide) ?_
  refine s_isub (pc := 8) d_X7_noOne_8 ?_
  refine s_i2l (pc := 9) d_X7_noOne_9 ?_
  obtain ⟨r2, μ3, er2, h⟩ := ca2_1 h
  refine s_callS (pc := 10) (as := [vl (v1.toInt64), vl 0, vl (((gI μ v0 6) - 1).toInt64)]) (st := []) (vo := [vi r2]) (t_X7_in er2) d_X7_noOne_10 y_X7_in w_754 w_755 ⟨by decide, by decide⟩ ⟨Nat.le_of_ble_eq_true rfl, Nat.le_of_ble_eq_true rfl⟩ (Nat.le_of_ble_eq_true rfl) rfl rfl rfl ?_
  refine s_as (kc' := 0) (js' := 0) (pc' := 13) (st' := [vi r2]) ⟨rfl, rfl, rfl, rfl⟩ ?_
  refine s_if_ne (pc := 13) (tgt := 20) d_X7_noOne_13 (by decide) (fun c4 => ?_) (fun c4 => ?_)
  · have h := it_f c4 h
    refine s_iconst (pc := 20) (v := 0) d_X7_noOne_20 (by decide) ?_
    obtain rfl := Option.some.inj h
    exact s_zret0 (pc := 21) rfl d_X7_noOne_21 rfl
  · have h := it_t c4 h
    refine s_iconst (pc := 16) (v := 1) d_X7_noOne_16 (by decide) ?_
    refine s_goto (pc := 17) (tgt := 21) d_X7_noOne_17 (by decide) ?_
    obtain rfl := Option.some.inj h
    exact s_zret0 (pc := 21) rfl d_X7_noOne_21 rfl
/-! StripsOfFourModel.shown -/
abbrev c_X7_shown : Cf := (prog_9_method_49_code, 6, "StripsOfFourModel", "shown", (some .int), { frames := 2, cells := 0, slots := 0, locals := 45 })
theorem d_X7_shown_0 : decode prog_9_method_49_code 0 = .ok (.bipush (-9), 2) := by decide +kernel
theorem d_X7_shown_2 : decode prog_9_method_49_code 2 = .ok (.istore_n 3, 1) := by decide +kernel
theorem d_X7_shown_3 : decode prog_9_method_49_code 3 = .ok (.iconst 0, 1) := by decide +kernel
theorem d_X7_shown_4 : decode prog_9_method_49_code 4 = .ok (.istore 4, 2) := by decide +kernel
theorem d_X7_shown_6 : decode prog_9_method_49_code 6 = .ok (.iload 4, 2) := by decide +kernel
theorem d_X7_shown_8 : decode prog_9_method_49_code 8 = .ok (.aload_n 0, 1) := by decide +kernel
theorem d_X7_shown_9 : decode prog_9_method_49_code 9 = .ok (.getfield 31, 3) := by decide +kernel
theorem d_X7_shown_12 : decode prog_9_method_49_code 12 = .ok (.sipush 202, 3) := by decide +kernel
theorem d_X7_shown_15 : decode prog_9_method_49_code 15 = .ok (.iaload, 1) := by decide +kernel
theorem d_X7_shown_16 : decode prog_9_method_49_code 16 = .ok (.if_icmp .ge 62, 3) := by decide +kernel
theorem d_X7_shown_19 : decode prog_9_method_49_code 19 = .ok (.iconst 0, 1) := by decide +kernel
theorem d_X7_shown_20 : decode prog_9_method_49_code 20 = .ok (.istore 5, 2) := by decide +kernel
theorem d_X7_shown_22 : decode prog_9_method_49_code 22 = .ok (.iload 5, 2) := by decide +kernel
theorem d_X7_shown_24 : decode prog_9_method_49_code 24 = .ok (.iconst 4, 1) := by decide +kernel
theorem d_X7_shown_25 : decode prog_9_method_49_code 25 = .ok (.if_icmp .ge 47, 3) := by decide +kernel
theorem d_X7_shown_28 : decode prog_9_method_49_code 28 = .ok (.aload_n 0, 1) := by decide +kernel
theorem d_X7_shown_29 : decode prog_9_method_49_code 29 = .ok (.iload 4, 2) := by decide +kernel
theorem d_X7_shown_31 : decode prog_9_method_49_code 31 = .ok (.iconst 0, 1) := by decide +kernel
theorem d_X7_shown_32 : decode prog_9_method_49_code 32 = .ok (.invokevirtual 115, 3) := by decide +kernel
theorem d_X7_shown_35 : decode prog_9_method_49_code 35 = .ok (.iload_n 1, 1) := by decide +kernel
theorem d_X7_shown_36 : decode prog_9_method_49_code 36 = .ok (.if_icmp .ne 28, 3) := by decide +kernel
theorem d_X7_shown_39 : decode prog_9_method_49_code 39 = .ok (.aload_n 0, 1) := by decide +kernel
theorem d_X7_shown_40 : decode prog_9_method_49_code 40 = .ok (.iload 4, 2) := by decide +kernel
theorem d_X7_shown_42 : decode prog_9_method_49_code 42 = .ok (.iload 5, 2) := by decide +kernel
theorem d_X7_shown_44 : decode prog_9_method_49_code 44 = .ok (.iconst 0, 1) := by decide +kernel
theorem d_X7_shown_45 : decode prog_9_method_49_code 45 = .ok (.invokevirtual 141, 3) := by decide +kernel
theorem d_X7_shown_48 : decode prog_9_method_49_code 48 = .ok (.iload_n 2, 1) := by decide +kernel
theorem d_X7_shown_49 : decode prog_9_method_49_code 49 = .ok (.if_icmp .ne 15, 3) := by decide +kernel
theorem d_X7_shown_52 : decode prog_9_method_49_code 52 = .ok (.aload_n 0, 1) := by decide +kernel
theorem d_X7_shown_53 : decode prog_9_method_49_code 53 = .ok (.iload 4, 2) := by decide +kernel
theorem d_X7_shown_55 : decode prog_9_method_49_code 55 = .ok (.iload 5, 2) := by decide +kernel
theorem d_X7_shown_57 : decode prog_9_method_49_code 57 = .ok (.iconst 1, 1) := by decide +kernel
theorem d_X7_shown_58 : decode prog_9_method_49_code 58 = .ok (.invokevirtual 141, 3) := by decide +kernel
theorem d_X7_shown_61 : decode prog_9_method_49_code 61 = .ok (.goto 4, 3) := by decide +kernel
theorem d_X7_shown_64 : decode prog_9_method_49_code 64 = .ok (.iload_n 3, 1) := by decide +kernel
theorem d_X7_shown_65 : decode prog_9_method_49_code 65 = .ok (.istore_n 3, 1) := by decide +kernel
theorem d_X7_shown_66 : decode prog_9_method_49_code 66 = .ok (.iinc 5 1, 3) := by decide +kernel
theorem d_X7_shown_69 : decode prog_9_method_49_code 69 = .ok (.goto (-47), 3) := by decide +kernel
theorem d_X7_shown_72 : decode prog_9_method_49_code 72 = .ok (.iinc 4 1, 3) := by decide +kernel
theorem d_X7_shown_75 : decode prog_9_method_49_code 75 = .ok (.goto (-69), 3) := by decide +kernel
theorem d_X7_shown_78 : decode prog_9_method_49_code 78 = .ok (.iload_n 3, 1) := by decide +kernel
theorem d_X7_shown_79 : decode prog_9_method_49_code 79 = .ok (.ireturn, 1) := by decide +kernel
def m_X7_shown_b65 (sh : Sh) (k6 : Int32 → Int32 → Mu → Option (Int32 × Mu)) (k22 : Int32 → Int32 → Mu → Option (Int32 × Mu)) (v0 : Nat) (v1 : Int32) (v2 : Int32) (v4 : Int32) (v5 : Int32) (s0 : Int32) (μ : Mu) : Option (Int32 × Mu) :=
  bd (v5 + 1) fun w17 =>
  k22 s0 w17 μ
def m_X7_shown_b64 (sh : Sh) (k6 : Int32 → Int32 → Mu → Option (Int32 × Mu)) (k22 : Int32 → Int32 → Mu → Option (Int32 × Mu)) (v0 : Nat) (v1 : Int32) (v2 : Int32) (v3 : Int32) (v4 : Int32) (v5 : Int32) (μ : Mu) : Option (Int32 × Mu) :=
  m_X7_shown_b65 sh k6 k22 v0 v1 v2 v4 v5 v3 μ
def m_X7_shown_b72 (sh : Sh) (k6 : Int32 → Int32 → Mu → Option (Int32 × Mu)) (v0 : Nat) (v1 : Int32) (v2 : Int32) (v3 : Int32) (v4 : Int32) (μ : Mu) : Option (Int32 × Mu) :=
  bd (v4 + 1) fun w16 =>
  k6 v3 w16 μ
def m_X7_shown_b22 (sh : Sh) (k6 : Int32 → Int32 → Mu → Option (Int32 × Mu)) (k22 : Int32 → Int32 → Mu → Option (Int32 × Mu)) (v0 : Nat) (v1 : Int32) (v2 : Int32) (v3 : Int32) (v4 : Int32) (v5 : Int32) (μ : Mu) : Option (Int32 × Mu) :=
  if 4 ≤ v5 then
    m_X7_shown_b72 sh k6 v0 v1 v2 v3 v4 μ
  else
    gd (iz sh 7 v0) <|
    ca2 (m_X7_of sh v0 v4 0 μ) fun r8 μ9 =>
    if r8 = v1 then
      ca2 (m_X7_lookOf sh v0 v4 v5 0 μ9) fun r11 μ12 =>
      if r11 = v2 then
        ca2 (m_X7_lookOf sh v0 v4 v5 1 μ12) fun r14 μ15 =>
        m_X7_shown_b65 sh k6 k22 v0 v1 v2 v4 v5 r14 μ15
      else
        m_X7_shown_b64 sh k6 k22 v0 v1 v2 v3 v4 v5 μ12
    else
      m_X7_shown_b64 sh k6 k22 v0 v1 v2 v3 v4 v5 μ9
def m_X7_shown_h22 (sh : Sh) (k6 : Int32 → Int32 → Mu → Option (Int32 × Mu)) (v0 : Nat) (v1 : Int32) (v2 : Int32) (v4 : Int32) : Nat → Int32 → Int32 → Mu → Option (Int32 × Mu)
  | 0 => fun _ _ _ => none
  | f + 1 => fun v3 v5 μ => m_X7_shown_b22 sh k6 (m_X7_shown_h22 sh k6 v0 v1 v2 v4 f) v0 v1 v2 v3 v4 v5 μ
def m_X7_shown_b6 (sh : Sh) (k6 : Int32 → Int32 → Mu → Option (Int32 × Mu)) (v0 : Nat) (v1 : Int32) (v2 : Int32) (v3 : Int32) (v4 : Int32) (μ : Mu) : Option (Int32 × Mu) :=
  gd (iz sh 7 v0) <|
  bd (gR μ v0 16) fun a2 =>
  gd (ix sh 8 a2 202) <|
  bd (gI μ a2 (202 : Int32).toNatClampNeg) fun w4 =>
  if w4 ≤ v4 then
    some (v3, μ)
  else
    m_X7_shown_h22 sh k6 v0 v1 v2 v4 FU v3 0 μ
def m_X7_shown_h6 (sh : Sh) (v0 : Nat) (v1 : Int32) (v2 : Int32) : Nat → Int32 → Int32 → Mu → Option (Int32 × Mu)
  | 0 => fun _ _ _ => none
  | f + 1 => fun v3 v4 μ => m_X7_shown_b6 sh (m_X7_shown_h6 sh v0 v1 v2 f) v0 v1 v2 v3 v4 μ
def m_X7_shown (sh : Sh) (v0 : Nat) (v1 : Int32) (v2 : Int32) (μ : Mu) : Option (Int32 × Mu) :=
  m_X7_shown_h6 sh v0 v1 v2 FU (-9) 0 μ
set_option maxHeartbeats 4000000 in
set_option maxRecDepth 20000 in
theorem t_X7_shown_b65 {l : Launch} {G : Gl} {n : Nat} {sh : Sh} {x : Int32 × Mu} {k6 : Int32 → Int32 → Mu → Option (Int32 × Mu)} {k22 : Int32 → Int32 → Mu → Option (Int32 × Mu)} {v0 : Nat} {v1 : Int32} {v2 : Int32} {v4 : Int32} {v5 : Int32} {s0 : Int32} {μ : Mu} (hk6 : ∀ (v3 : Int32) (v4 : Int32) (μ : Mu), k6 v3 v4 μ = some x → Sj l G (QI G n sh x) c_X7_shown n sh 0 0 μ 6 [some (vr v0), some (vi v1), some (vi v2), some (vi v3), some (vi v4), none] []) (hk22 : ∀ (v3 : Int32) (v5 : Int32) (μ : Mu), k22 v3 v5 μ = some x → Sj l G (QI G n sh x) c_X7_shown n sh 0 0 μ 22 [some (vr v0), some (vi v1), some (vi v2), some (vi v3), some (vi v4), some (vi v5)] []) (h : m_X7_shown_b65 sh k6 k22 v0 v1 v2 v4 v5 s0 μ = some x) : Sj l G (QI G n sh x) c_X7_shown n sh 0 0 μ 65 [some (vr v0), some (vi v1), some (vi v2), none, some (vi v4), some (vi v5)] [vi s0] := by
  unfold m_X7_shown_b65 at h
  refine s_istore_n (pc := 65) (lc' := [some (vr v0), some (vi v1), some (vi v2), some (vi s0), some (vi v4), some (vi v5)]) d_X7_shown_65 rfl (by decide) rfl ?_
  obtain ⟨w17, ew17, h⟩ := bd_1 h
  refine s_iinc (pc := 66) (v := w17) (lc' := [some (vr v0), some (vi v1), some (vi v2), some (vi s0), some (vi v4), some (vi w17)]) d_X7_shown_66 rfl (by rw [ew17]; rfl) (by decide) rfl ?_
  refine s_goto (pc := 69) (tgt := 22) d_X7_shown_69 (by decide) ?_
  exact hk22 _ _ _ h
set_option maxHeartbeats 4000000 in
set_option maxRecDepth 20000 in
theorem t_X7_shown_b64 {l : Launch} {G : Gl} {n : Nat} {sh : Sh} {x : Int32 × Mu} {k6 : Int32 → Int32 → Mu → Option (Int32 × Mu)} {k22 : Int32 → Int32 → Mu → Option (Int32 × Mu)} {v0 : Nat} {v1 : Int32} {v2 : Int32} {v3 : Int32} {v4 : Int32} {v5 : Int32} {μ : Mu} (hk6 : ∀ (v3 : Int32) (v4 : Int32) (μ : Mu), k6 v3 v4 μ = some x → Sj l G (QI G n sh x) c_X7_shown n sh 0 0 μ 6 [some (vr v0), some (vi v1), some (vi v2), some (vi v3), some (vi v4), none] []) (hk22 : ∀ (v3 : Int32) (v5 : Int32) (μ : Mu), k22 v3 v5 μ = some x → Sj l G (QI G n sh x) c_X7_shown n sh 0 0 μ 22 [some (vr v0), some (vi v1), some (vi v2), some (vi v3), some (vi v4), some (vi v5)] []) (h : m_X7_shown_b64 sh k6 k22 v0 v1 v2 v3 v4 v5 μ = some x) : Sj l G (QI G n sh x) c_X7_shown n sh 0 0 μ 64 [some (vr v0), some (vi v1), some (vi v2), some (vi v3), some (vi v4), some (vi v5)] [] := by
  unfold m_X7_shown_b64 at h
  refine s_iload_n (pc := 64) d_X7_shown_64 rfl rfl ?_
  refine s_mask [true, true, true, false, true, true] rfl ?_
  exact t_X7_shown_b65 hk6 hk22 h
set_option maxHeartbeats 4000000 in
set_option maxRecDepth 20000 in
theorem t_X7_shown_b72 {l : Launch} {G : Gl} {n : Nat} {sh : Sh} {x : Int32 × Mu} {k6 : Int32 → Int32 → Mu → Option (Int32 × Mu)} {v0 : Nat} {v1 : Int32} {v2 : Int32} {v3 : Int32} {v4 : Int32} {μ : Mu} (hk6 : ∀ (v3 : Int32) (v4 : Int32) (μ : Mu), k6 v3 v4 μ = some x → Sj l G (QI G n sh x) c_X7_shown n sh 0 0 μ 6 [some (vr v0), some (vi v1), some (vi v2), some (vi v3), some (vi v4), none] []) (h : m_X7_shown_b72 sh k6 v0 v1 v2 v3 v4 μ = some x) : Sj l G (QI G n sh x) c_X7_shown n sh 0 0 μ 72 [some (vr v0), some (vi v1), some (vi v2), some (vi v3), some (vi v4), none] [] := by
  unfold m_X7_shown_b72 at h
  obtain ⟨w16, ew16, h⟩ := bd_1 h
  refine s_iinc (pc := 72) (v := w16) (lc' := [some (vr v0), some (vi v1), some (vi v2), some (vi v3), some (vi w16), none]) d_X7_shown_72 rfl (by rw [ew16]; rfl) (by decide) rfl ?_
  refine s_goto (pc := 75) (tgt := 6) d_X7_shown_75 (by decide) ?_
  exact hk6 _ _ _ h
set_option maxHeartbeats 4000000 in
set_option maxRecDepth 20000 in
theorem t_X7_shown_b22 {l : Launch} {G : Gl} {n : Nat} {sh : Sh} {x : Int32 × Mu} {k6 : Int32 → Int32 → Mu → Option (Int32 × Mu)} {k22 : Int32 → Int32 → Mu → Option (Int32 × Mu)} {v0 : Nat} {v1 : Int32} {v2 : Int32} {v3 : Int32} {v4 : Int32} {v5 : Int32} {μ : Mu} (hk6 : ∀ (v3 : Int32) (v4 : Int32) (μ : Mu), k6 v3 v4 μ = some x → Sj l G (QI G n sh x) c_X7_shown n sh 0 0 μ 6 [some (vr v0), some (vi v1), some (vi v2), some (vi v3), some (vi v4), none] []) (hk22 : ∀ (v3 : Int32) (v5 : Int32) (μ : Mu), k22 v3 v5 μ = some x → Sj l G (QI G n sh x) c_X7_shown n sh 0 0 μ 22 [some (vr v0), some (vi v1), some (vi v2), some (vi v3), some (vi v4), some (vi v5)] []) (h : m_X7_shown_b22 sh k6 k22 v0 v1 v2 v3 v4 v5 μ = some x) : Sj l G (QI G n sh x) c_X7_shown n sh 0 0 μ 22 [some (vr v0), some (vi v1), some (vi v2), some (vi v3), some (vi v4), some (vi v5)] [] := by
  unfold m_X7_shown_b22 at h
  refine s_iload (pc := 22) d_X7_shown_22 rfl ?_
  refine s_iconst (pc := 24) (v := 4) d_X7_shown_24 (by decide) ?_
  refine s_icmp_ge (pc := 25) (tgt := 72) d_X7_shown_25 (by decide) (fun c6 => ?_) (fun c6 => ?_)
  · have h := it_t c6 h
    refine s_mask [true, true, true, true, true, false] rfl ?_
    exact t_X7_shown_b72 hk6 h
  · have h := it_f c6 h
    refine s_aload_n (pc := 28) d_X7_shown_28 rfl rfl ?_
    refine s_iload (pc := 29) d_X7_shown_29 rfl ?_
    refine s_iconst (pc := 31) (v := 0) d_X7_shown_31 (by decide) ?_
    obtain ⟨g7, h⟩ := gd_1 h
    obtain ⟨r8, μ9, er8, h⟩ := ca2_1 h
    refine s_callV (pc := 32) (as := [vi v4, vi 0]) (st := []) (vo := [vi r8]) (t_X7_of er8) cl_7 g7 d_X7_shown_32 y_X7_of w_789 w_791 w_s15 ⟨by decide, by decide⟩ ⟨Nat.le_of_ble_eq_true rfl, Nat.le_of_ble_eq_true rfl⟩ (Nat.le_of_ble_eq_true rfl) rfl rfl rfl ?_
    refine s_as (kc' := 0) (js' := 0) (pc' := 35) (st' := [vi r8]) ⟨rfl, rfl, rfl, rfl⟩ ?_
    refine s_iload_n (pc := 35) d_X7_shown_35 rfl rfl ?_
    refine s_icmp_ne (pc := 36) (tgt := 64) d_X7_shown_36 (by decide) (fun c10 => ?_) (fun c10 => ?_)
    · have h := it_f c10 h
      exact t_X7_shown_b64 hk6 hk22 h
    · have h := it_t c10 h
      refine s_aload_n (pc := 39) d_X7_shown_39 rfl rfl ?_
      refine s_iload (pc := 40) d_X7_shown_40 rfl ?_
      refine s_iload (pc := 42) d_X7_shown_42 rfl ?_
      refine s_iconst (pc := 44) (v := 0) d_X7_shown_44 (by decide) ?_
      obtain ⟨r11, μ12, er11, h⟩ := ca2_1 h
      refine s_callV (pc := 45) (as := [vi v4, vi v5, vi 0]) (st := []) (vo := [vi r11]) (t_X7_lookOf er11) cl_7 g7 d_X7_shown_45 y_X7_lookOf w_826 w_828 w_s21 ⟨by decide, by decide⟩ ⟨Nat.le_of_ble_eq_true rfl, Nat.le_of_ble_eq_true rfl⟩ (Nat.le_of_ble_eq_true rfl) rfl rfl rfl ?_
      refine s_as (kc' := 0) (js' := 0) (pc' := 48) (st' := [vi r11]) ⟨rfl, rfl, rfl, rfl⟩ ?_
      refine s_iload_n (pc := 48) d_X7_shown_48 rfl rfl ?_
      refine s_icmp_ne (pc := 49) (tgt := 64) d_X7_shown_49 (by decide) (fun c13 => ?_) (fun c13 => ?_)
      · have h := it_f c13 h
        exact t_X7_shown_b64 hk6 hk22 h
      · have h := it_t c13 h
        refine s_aload_n (pc := 52) d_X7_shown_52 rfl rfl ?_
        refine s_iload (pc := 53) d_X7_shown_53 rfl ?_
        refine s_iload (pc := 55) d_X7_shown_55 rfl ?_
        refine s_iconst (pc := 57) (v := 1) d_X7_shown_57 (by decide) ?_
        obtain ⟨r14, μ15, er14, h⟩ := ca2_1 h
        refine s_callV (pc := 58) (as := [vi v4, vi v5, vi 1]) (st := []) (vo := [vi r14]) (t_X7_lookOf er14) cl_7 g7 d_X7_shown_58 y_X7_lookOf w_826 w_828 w_s21 ⟨by decide, by decide⟩ ⟨Nat.le_of_ble_eq_true rfl, Nat.le_of_ble_eq_true rfl⟩ (Nat.le_of_ble_eq_true rfl) rfl rfl rfl ?_
        refine s_as (kc' := 0) (js' := 0) (pc' := 61) (st' := [vi r14]) ⟨rfl, rfl, rfl, rfl⟩ ?_
        refine s_goto (pc := 61) (tgt := 65) d_X7_shown_61 (by decide) ?_
        refine s_mask [true, true, true, false, true, true] rfl ?_
        exact t_X7_shown_b65 hk6 hk22 h
set_option maxHeartbeats 4000000 in
set_option maxRecDepth 20000 in
theorem t_X7_shown_h22 {l : Launch} {G : Gl} {n : Nat} {sh : Sh} {x : Int32 × Mu} {k6 : Int32 → Int32 → Mu → Option (Int32 × Mu)} {v0 : Nat} {v1 : Int32} {v2 : Int32} {v4 : Int32} (hk6 : ∀ (v3 : Int32) (v4 : Int32) (μ : Mu), k6 v3 v4 μ = some x → Sj l G (QI G n sh x) c_X7_shown n sh 0 0 μ 6 [some (vr v0), some (vi v1), some (vi v2), some (vi v3), some (vi v4), none] []) : ∀ (f : Nat) (v3 : Int32) (v5 : Int32) (μ : Mu), m_X7_shown_h22 sh k6 v0 v1 v2 v4 f v3 v5 μ = some x → Sj l G (QI G n sh x) c_X7_shown n sh 0 0 μ 22 [some (vr v0), some (vi v1), some (vi v2), some (vi v3), some (vi v4), some (vi v5)] [] := by
  intro f
  induction f with
  | zero =>
    intro v3 v5 μ h
    cases h
  | succ f ih =>
    intro v3 v5 μ h
    exact t_X7_shown_b22 hk6 ih h
set_option maxHeartbeats 4000000 in
set_option maxRecDepth 20000 in
theorem t_X7_shown_b6 {l : Launch} {G : Gl} {n : Nat} {sh : Sh} {x : Int32 × Mu} {k6 : Int32 → Int32 → Mu → Option (Int32 × Mu)} {v0 : Nat} {v1 : Int32} {v2 : Int32} {v3 : Int32} {v4 : Int32} {μ : Mu} (hk6 : ∀ (v3 : Int32) (v4 : Int32) (μ : Mu), k6 v3 v4 μ = some x → Sj l G (QI G n sh x) c_X7_shown n sh 0 0 μ 6 [some (vr v0), some (vi v1), some (vi v2), some (vi v3), some (vi v4), none] []) (h : m_X7_shown_b6 sh k6 v0 v1 v2 v3 v4 μ = some x) : Sj l G (QI G n sh x) c_X7_shown n sh 0 0 μ 6 [some (vr v0), some (vi v1), some (vi v2), some (vi v3), some (vi v4), none] [] := by
  unfold m_X7_shown_b6 at h
  refine s_iload (pc := 6) d_X7_shown_6 rfl ?_
  refine s_aload_n (pc := 8) d_X7_shown_8 rfl rfl ?_
  obtain ⟨g1, h⟩ := gd_1 h
  refine s_getR (pc := 9) (k := 16) cl_7 d_X7_shown_9 g1 (by decide) w_676 (rt_arr _) ?_
  obtain ⟨a2, ea2, h⟩ := bd_1 h
  refine s_topR ea2 ?_
  refine s_sipush (pc := 12) (v := 202) d_X7_shown_12 (by decide) ?_
  obtain ⟨g3, h⟩ := gd_1 h
  refine s_iald (pc := 15) d_X7_shown_15 g3 ?_
  obtain ⟨w4, ew4, h⟩ := bd_1 h
  refine s_topI ew4 ?_
  refine s_icmp_ge (pc := 16) (tgt := 78) d_X7_shown_16 (by decide) (fun c5 => ?_) (fun c5 => ?_)
  · have h := it_t c5 h
    refine s_iload_n (pc := 78) d_X7_shown_78 rfl rfl ?_
    obtain rfl := Option.some.inj h
    exact s_iret (pc := 79) d_X7_shown_79 rfl
  · have h := it_f c5 h
    refine s_iconst (pc := 19) (v := 0) d_X7_shown_19 (by decide) ?_
    refine s_istore (pc := 20) (lc' := [some (vr v0), some (vi v1), some (vi v2), some (vi v3), some (vi v4), some (vi 0)]) d_X7_shown_20 (by decide) rfl ?_
    exact t_X7_shown_h22 hk6 FU _ _ _ h
set_option maxHeartbeats 4000000 in
set_option maxRecDepth 20000 in
theorem t_X7_shown_h6 {l : Launch} {G : Gl} {n : Nat} {sh : Sh} {x : Int32 × Mu} {v0 : Nat} {v1 : Int32} {v2 : Int32} : ∀ (f : Nat) (v3 : Int32) (v4 : Int32) (μ : Mu), m_X7_shown_h6 sh v0 v1 v2 f v3 v4 μ = some x → Sj l G (QI G n sh x) c_X7_shown n sh 0 0 μ 6 [some (vr v0), some (vi v1), some (vi v2), some (vi v3), some (vi v4), none] [] := by
  intro f
  induction f with
  | zero =>
    intro v3 v4 μ h
    cases h
  | succ f ih =>
    intro v3 v4 μ h
    exact t_X7_shown_b6 ih h
set_option maxHeartbeats 4000000 in
set_option maxRecDepth 20000 in
theorem t_X7_shown {l : Launch} {G : Gl} {n : Nat} {sh : Sh} {x : Int32 × Mu} {v0 : Nat} {v1 : Int32} {v2 : Int32} {μ : Mu} (h : m_X7_shown sh v0 v1 v2 μ = some x) : Ct l G ⟨"StripsOfFourModel", "shown", "(II)I"⟩ prog_9_method_49_code 6 (some .int) { frames := 2, cells := 0, slots := 0, locals := 45 } n sh μ [vr v0, vi v1, vi v2] (some (.int x.1)) n sh x.2 := by
  refine Ct.of (lc := [some (vr v0), some (vi v1), some (vi v2), none, none, none]) (by decide +kernel) (Nat.le_of_ble_eq_true rfl) rfl ?_
  show Sj l G (QI G n sh x) c_X7_shown n sh 0 0 μ 0 [some (vr v0), some (vi v1), some (vi v2), none, none, none] []
  unfold m_X7_shown at h
  refine s_bipush (pc := 0) (v := (-9)) d_X7_shown_0 (by decide) ?_
  refine s_istore_n (pc := 2) (lc' := [some (vr v0), some (vi v1), some (vi v2), some (vi (-9)), none, none]) d_X7_shown_2 rfl (by decide) rfl ?_
  refine s_iconst (pc := 3) (v := 0) d_X7_shown_3 (by decide) ?_
  refine s_istore (pc := 4) (lc' := [some (vr v0), some (vi v1), some (vi v2), some (vi (-9)), some (vi 0), none]) d_X7_shown_4 (by decide) rfl ?_
  exact t_X7_shown_h6 FU _ _ _ h
/-! StripsOfFourModel.between -/
abbrev c_X7_between : Cf := (prog_9_method_52_code, 7, "StripsOfFourModel", "between", (some .int), { frames := 3, cells := 0, slots := 0, locals := 73 })
theorem d_X7_between_0 : decode prog_9_method_52_code 0 = .ok (.aload_n 0, 1) := by decide +kernel
theorem d_X7_between_1 : decode prog_9_method_52_code 1 = .ok (.iconst 0, 1) := by decide +kernel
theorem d_X7_between_2 : decode prog_9_method_52_code 2 = .ok (.putfield 66, 3) := by decide +kernel
theorem d_X7_between_5 : decode prog_9_method_52_code 5 = .ok (.aload_n 0, 1) := by decide +kernel
theorem d_X7_between_6 : decode prog_9_method_52_code 6 = .ok (.iload_n 1, 1) := by decide +kernel
theorem d_X7_between_7 : decode prog_9_method_52_code 7 = .ok (.invokevirtual 133, 3) := by decide +kernel
theorem d_X7_between_10 : decode prog_9_method_52_code 10 = .ok (.ifCond .eq 5, 3) := by decide +kernel
theorem d_X7_between_13 : decode prog_9_method_52_code 13 = .ok (.iconst (-1), 1) := by decide +kernel
theorem d_X7_between_14 : decode prog_9_method_52_code 14 = .ok (.ireturn, 1) := by decide +kernel
theorem d_X7_between_15 : decode prog_9_method_52_code 15 = .ok (.iload_n 2, 1) := by decide +kernel
theorem d_X7_between_16 : decode prog_9_method_52_code 16 = .ok (.i2l, 1) := by decide +kernel
theorem d_X7_between_17 : decode prog_9_method_52_code 17 = .ok (.lconst 0, 1) := by decide +kernel
theorem d_X7_between_18 : decode prog_9_method_52_code 18 = .ok (.ldc2_w 193, 3) := by decide +kernel
theorem d_X7_between_21 : decode prog_9_method_52_code 21 = .ok (.invokestatic 73, 3) := by decide +kernel
theorem d_X7_between_24 : decode prog_9_method_52_code 24 = .ok (.ifCond .ne 6, 3) := by decide +kernel
theorem d_X7_between_27 : decode prog_9_method_52_code 27 = .ok (.bipush (-2), 2) := by decide +kernel
theorem d_X7_between_29 : decode prog_9_method_52_code 29 = .ok (.ireturn, 1) := by decide +kernel
theorem d_X7_between_30 : decode prog_9_method_52_code 30 = .ok (.iconst 0, 1) := by decide +kernel
theorem d_X7_between_31 : decode prog_9_method_52_code 31 = .ok (.istore_n 3, 1) := by decide +kernel
theorem d_X7_between_32 : decode prog_9_method_52_code 32 = .ok (.iconst 0, 1) := by decide +kernel
theorem d_X7_between_33 : decode prog_9_method_52_code 33 = .ok (.istore 4, 2) := by decide +kernel
theorem d_X7_between_35 : decode prog_9_method_52_code 35 = .ok (.iconst 0, 1) := by decide +kernel
theorem d_X7_between_36 : decode prog_9_method_52_code 36 = .ok (.istore 5, 2) := by decide +kernel
theorem d_X7_between_38 : decode prog_9_method_52_code 38 = .ok (.iload 5, 2) := by decide +kernel
theorem d_X7_between_40 : decode prog_9_method_52_code 40 = .ok (.aload_n 0, 1) := by decide +kernel
theorem d_X7_between_41 : decode prog_9_method_52_code 41 = .ok (.getfield 70, 3) := by decide +kernel
theorem d_X7_between_44 : decode prog_9_method_52_code 44 = .ok (.if_icmp .ge 86, 3) := by decide +kernel
theorem d_X7_between_47 : decode prog_9_method_52_code 47 = .ok (.aload_n 0, 1) := by decide +kernel
theorem d_X7_between_48 : decode prog_9_method_52_code 48 = .ok (.iload 5, 2) := by decide +kernel
theorem d_X7_between_50 : decode prog_9_method_52_code 50 = .ok (.iload_n 2, 1) := by decide +kernel
theorem d_X7_between_51 : decode prog_9_method_52_code 51 = .ok (.invokevirtual 195, 3) := by decide +kernel
theorem d_X7_between_54 : decode prog_9_method_52_code 54 = .ok (.istore 6, 2) := by decide +kernel
theorem d_X7_between_56 : decode prog_9_method_52_code 56 = .ok (.iload 4, 2) := by decide +kernel
theorem d_X7_between_58 : decode prog_9_method_52_code 58 = .ok (.ifCond .ne 19, 3) := by decide +kernel
theorem d_X7_between_61 : decode prog_9_method_52_code 61 = .ok (.iload 6, 2) := by decide +kernel
theorem d_X7_between_63 : decode prog_9_method_52_code 63 = .ok (.bipush (-9), 2) := by decide +kernel
theorem d_X7_between_65 : decode prog_9_method_52_code 65 = .ok (.if_icmp .eq 16, 3) := by decide +kernel
theorem d_X7_between_68 : decode prog_9_method_52_code 68 = .ok (.iload 6, 2) := by decide +kernel
theorem d_X7_between_70 : decode prog_9_method_52_code 70 = .ok (.iload_n 1, 1) := by decide +kernel
theorem d_X7_between_71 : decode prog_9_method_52_code 71 = .ok (.invokestatic 178, 3) := by decide +kernel
theorem d_X7_between_74 : decode prog_9_method_52_code 74 = .ok (.ifCond .eq 7, 3) := by decide +kernel
theorem d_X7_between_77 : decode prog_9_method_52_code 77 = .ok (.iconst 1, 1) := by decide +kernel
theorem d_X7_between_78 : decode prog_9_method_52_code 78 = .ok (.goto 4, 3) := by decide +kernel
theorem d_X7_between_81 : decode prog_9_method_52_code 81 = .ok (.iconst 0, 1) := by decide +kernel
theorem d_X7_between_82 : decode prog_9_method_52_code 82 = .ok (.istore 4, 2) := by decide +kernel
theorem d_X7_between_84 : decode prog_9_method_52_code 84 = .ok (.iload_n 3, 1) := by decide +kernel
theorem d_X7_between_85 : decode prog_9_method_52_code 85 = .ok (.iload 6, 2) := by decide +kernel
theorem d_X7_between_87 : decode prog_9_method_52_code 87 = .ok (.bipush (-9), 2) := by decide +kernel
theorem d_X7_between_89 : decode prog_9_method_52_code 89 = .ok (.if_icmp .eq 12, 3) := by decide +kernel
theorem d_X7_between_92 : decode prog_9_method_52_code 92 = .ok (.iload 6, 2) := by decide +kernel
theorem d_X7_between_94 : decode prog_9_method_52_code 94 = .ok (.iload_n 1, 1) := by decide +kernel
theorem d_X7_between_95 : decode prog_9_method_52_code 95 = .ok (.invokestatic 178, 3) := by decide +kernel
theorem d_X7_between_98 : decode prog_9_method_52_code 98 = .ok (.ifCond .eq 23, 3) := by decide +kernel
theorem d_X7_between_101 : decode prog_9_method_52_code 101 = .ok (.aload_n 0, 1) := by decide +kernel
theorem d_X7_between_102 : decode prog_9_method_52_code 102 = .ok (.iload_n 1, 1) := by decide +kernel
theorem d_X7_between_103 : decode prog_9_method_52_code 103 = .ok (.iconst 1, 1) := by decide +kernel
theorem d_X7_between_104 : decode prog_9_method_52_code 104 = .ok (.iload 5, 2) := by decide +kernel
theorem d_X7_between_106 : decode prog_9_method_52_code 106 = .ok (.isub, 1) := by decide +kernel
theorem d_X7_between_107 : decode prog_9_method_52_code 107 = .ok (.iload_n 2, 1) := by decide +kernel
theorem d_X7_between_108 : decode prog_9_method_52_code 108 = .ok (.invokevirtual 198, 3) := by decide +kernel
theorem d_X7_between_111 : decode prog_9_method_52_code 111 = .ok (.ifCond .ne 10, 3) := by decide +kernel
theorem d_X7_between_114 : decode prog_9_method_52_code 114 = .ok (.iconst 1, 1) := by decide +kernel
theorem d_X7_between_115 : decode prog_9_method_52_code 115 = .ok (.iload 5, 2) := by decide +kernel
theorem d_X7_between_117 : decode prog_9_method_52_code 117 = .ok (.ishl, 1) := by decide +kernel
theorem d_X7_between_118 : decode prog_9_method_52_code 118 = .ok (.goto 4, 3) := by decide +kernel
theorem d_X7_between_121 : decode prog_9_method_52_code 121 = .ok (.iconst 0, 1) := by decide +kernel
theorem d_X7_between_122 : decode prog_9_method_52_code 122 = .ok (.ior, 1) := by decide +kernel
theorem d_X7_between_123 : decode prog_9_method_52_code 123 = .ok (.istore_n 3, 1) := by decide +kernel
theorem d_X7_between_124 : decode prog_9_method_52_code 124 = .ok (.iinc 5 1, 3) := by decide +kernel
theorem d_X7_between_127 : decode prog_9_method_52_code 127 = .ok (.goto (-89), 3) := by decide +kernel
theorem d_X7_between_130 : decode prog_9_method_52_code 130 = .ok (.iload 4, 2) := by decide +kernel
theorem d_X7_between_132 : decode prog_9_method_52_code 132 = .ok (.ifCond .eq 7, 3) := by decide +kernel
theorem d_X7_between_135 : decode prog_9_method_52_code 135 = .ok (.iload_n 3, 1) := by decide +kernel
theorem d_X7_between_136 : decode prog_9_method_52_code 136 = .ok (.goto 6, 3) := by decide +kernel
theorem d_X7_between_139 : decode prog_9_method_52_code 139 = .ok (.iload_n 3, 1) := by decide +kernel
theorem d_X7_between_140 : decode prog_9_method_52_code 140 = .ok (.iconst 4, 1) := by decide +kernel
theorem d_X7_between_141 : decode prog_9_method_52_code 141 = .ok (.ior, 1) := by decide +kernel
theorem d_X7_between_142 : decode prog_9_method_52_code 142 = .ok (.ireturn, 1) := by decide +kernel
def m_X7_between_b122 (sh : Sh) (k38 : Int32 → Int32 → Int32 → Mu → Option (Int32 × Mu)) (v0 : Nat) (v1 : Int32) (v2 : Int32) (v4 : Int32) (v5 : Int32) (s0 : Int32) (s1 : Int32) (μ : Mu) : Option (Int32 × Mu) :=
  bd (s1 ||| s0) fun w27 =>
  bd (v5 + 1) fun w28 =>
  k38 w27 v4 w28 μ
def m_X7_between_b121 (sh : Sh) (k38 : Int32 → Int32 → Int32 → Mu → Option (Int32 × Mu)) (v0 : Nat) (v1 : Int32) (v2 : Int32) (v4 : Int32) (v5 : Int32) (s0 : Int32) (μ : Mu) : Option (Int32 × Mu) :=
  m_X7_between_b122 sh k38 v0 v1 v2 v4 v5 0 s0 μ
def m_X7_between_b101 (sh : Sh) (k38 : Int32 → Int32 → Int32 → Mu → Option (Int32 × Mu)) (v0 : Nat) (v1 : Int32) (v2 : Int32) (v4 : Int32) (v5 : Int32) (s0 : Int32) (μ : Mu) : Option (Int32 × Mu) :=
  gd (iz sh 7 v0) <|
  ca2 (m_X7_isElsewhere sh v0 v1 (1 - v5) v2 μ) fun r24 μ25 =>
  if r24 = 0 then
    m_X7_between_b122 sh k38 v0 v1 v2 v4 v5 (1 <<< (v5 &&& 31)) s0 μ25
  else
    m_X7_between_b121 sh k38 v0 v1 v2 v4 v5 s0 μ25
def m_X7_between_b82 (sh : Sh) (k38 : Int32 → Int32 → Int32 → Mu → Option (Int32 × Mu)) (v0 : Nat) (v1 : Int32) (v2 : Int32) (v3 : Int32) (v5 : Int32) (v6 : Int32) (s0 : Int32) (μ : Mu) : Option (Int32 × Mu) :=
  if v6 = (-9) then
    m_X7_between_b101 sh k38 v0 v1 v2 s0 v5 v3 μ
  else
    ca2 (m_X7_has sh v6 v1 μ) fun r20 μ21 =>
    if r20 = 0 then
      m_X7_between_b121 sh k38 v0 v1 v2 s0 v5 v3 μ21
    else
      m_X7_between_b101 sh k38 v0 v1 v2 s0 v5 v3 μ21
def m_X7_between_b77 (sh : Sh) (k38 : Int32 → Int32 → Int32 → Mu → Option (Int32 × Mu)) (v0 : Nat) (v1 : Int32) (v2 : Int32) (v3 : Int32) (v5 : Int32) (v6 : Int32) (μ : Mu) : Option (Int32 × Mu) :=
  m_X7_between_b82 sh k38 v0 v1 v2 v3 v5 v6 1 μ
def m_X7_between_b81 (sh : Sh) (k38 : Int32 → Int32 → Int32 → Mu → Option (Int32 × Mu)) (v0 : Nat) (v1 : Int32) (v2 : Int32) (v3 : Int32) (v5 : Int32) (v6 : Int32) (μ : Mu) : Option (Int32 × Mu) :=
  m_X7_between_b82 sh k38 v0 v1 v2 v3 v5 v6 0 μ
def m_X7_between_b130 (sh : Sh) (v3 : Int32) (v4 : Int32) (μ : Mu) : Option (Int32 × Mu) :=
  if v4 = 0 then
    some (v3 ||| 4, μ)
  else
    some (v3, μ)
def m_X7_between_b38 (sh : Sh) (k38 : Int32 → Int32 → Int32 → Mu → Option (Int32 × Mu)) (v0 : Nat) (v1 : Int32) (v2 : Int32) (v3 : Int32) (v4 : Int32) (v5 : Int32) (μ : Mu) : Option (Int32 × Mu) :=
  gd (iz sh 7 v0) <|
  if (gI μ v0 5) ≤ v5 then
    m_X7_between_b130 sh v3 v4 μ
  else
    ca2 (m_X7_shown sh v0 v5 v2 μ) fun r11 μ12 =>
    if v4 = 0 then
      if r11 = (-9) then
        m_X7_between_b81 sh k38 v0 v1 v2 v3 v5 r11 μ12
      else
        ca2 (m_X7_has sh r11 v1 μ12) fun r15 μ16 =>
        if r15 = 0 then
          m_X7_between_b81 sh k38 v0 v1 v2 v3 v5 r11 μ16
        else
          m_X7_between_b77 sh k38 v0 v1 v2 v3 v5 r11 μ16
    else
      m_X7_between_b77 sh k38 v0 v1 v2 v3 v5 r11 μ12
def m_X7_between_h38 (sh : Sh) (v0 : Nat) (v1 : Int32) (v2 : Int32) : Nat → Int32 → Int32 → Int32 → Mu → Option (Int32 × Mu)
  | 0 => fun _ _ _ _ => none
  | f + 1 => fun v3 v4 v5 μ => m_X7_between_b38 sh (m_X7_between_h38 sh v0 v1 v2 f) v0 v1 v2 v3 v4 v5 μ
def m_X7_between (sh : Sh) (v0 : Nat) (v1 : Int32) (v2 : Int32) (μ : Mu) : Option (Int32 × Mu) :=
  gd (iz sh 7 v0) <|
  bd (sI μ v0 0 0) fun μ2 =>
  ca2 (m_X7_noOne sh v0 v1 μ2) fun r3 μ4 =>
  if r3 = 0 then
    ca2 (m_X7_in sh (v2.toInt64) 0 999 μ4) fun r6 μ7 =>
    if r6 = 0 then
      some ((-2), μ7)
    else
      m_X7_between_h38 sh v0 v1 v2 FU 0 0 0 μ7
  else
    some ((-1), μ4)
set_option maxHeartbeats 4000000 in
set_option maxRecDepth 20000 in
theorem t_X7_between_b122 {l : Launch} {G : Gl} {n : Nat} {sh : Sh} {x : Int32 × Mu} {k38 : Int32 → Int32 → Int32 → Mu → Option (Int32 × Mu)} {v0 : Nat} {v1 : Int32} {v2 : Int32} {v4 : Int32} {v5 : Int32} {s0 : Int32} {s1 : Int32} {μ : Mu} (hk38 : ∀ (v3 : Int32) (v4 : Int32) (v5 : Int32) (μ : Mu), k38 v3 v4 v5 μ = some x → Sj l G (QI G n sh x) c_X7_between n sh 0 0 μ 38 [some (vr v0), some (vi v1), some (vi v2), some (vi v3), some (vi v4), some (vi v5), none] []) (h : m_X7_between_b122 sh k38 v0 v1 v2 v4 v5 s0 s1 μ = some x) : Sj l G (QI G n sh x) c_X7_between n sh 0 0 μ 122 [some (vr v0), some (vi v1), some (vi v2), none, some (vi v4), some (vi v5), none] [vi s0, vi s1] := by
  unfold m_X7_between_b122 at h
  refine s_ior (pc := 122) d_X7_between_122 ?_
  obtain ⟨w27, ew27, h⟩ := bd_1 h
  refine s_topI ew27 ?_
  refine s_istore_n (pc := 123) (lc' := [some (vr v0), some (vi v1), some (vi v2), some (vi w27), some (vi v4), some (vi v5), none]) d_X7_between_123 rfl (by decide) rfl ?_
  obtain ⟨w28, ew28, h⟩ := bd_1 h
  refine s_iinc (pc := 124) (v := w28) (lc' := [some (vr v0), some (vi v1), some (vi v2), some (vi w27), some (vi v4), some (vi w28), none]) d_X7_between_124 rfl (by rw [ew28]; rfl) (by decide) rfl ?_
  refine s_goto (pc := 127) (tgt := 38) d_X7_between_127 (by decide) ?_
  exact hk38 _ _ _ _ h
set_option maxHeartbeats 4000000 in
set_option maxRecDepth 20000 in
theorem t_X7_between_b121 {l : Launch} {G : Gl} {n : Nat} {sh : Sh} {x : Int32 × Mu} {k38 : Int32 → Int32 → Int32 → Mu → Option (Int32 × Mu)} {v0 : Nat} {v1 : Int32} {v2 : Int32} {v4 : Int32} {v5 : Int32} {s0 : Int32} {μ : Mu} (hk38 : ∀ (v3 : Int32) (v4 : Int32) (v5 : Int32) (μ : Mu), k38 v3 v4 v5 μ = some x → Sj l G (QI G n sh x) c_X7_between n sh 0 0 μ 38 [some (vr v0), some (vi v1), some (vi v2), some (vi v3), some (vi v4), some (vi v5), none] []) (h : m_X7_between_b121 sh k38 v0 v1 v2 v4 v5 s0 μ = some x) : Sj l G (QI G n sh x) c_X7_between n sh 0 0 μ 121 [some (vr v0), some (vi v1), some (vi v2), none, some (vi v4), some (vi v5), none] [vi s0] := by
  unfold m_X7_between_b121 at h
  refine s_iconst (pc := 121) (v := 0) d_X7_between_121 (by decide) ?_
  exact t_X7_between_b122 hk38 h
set_option maxHeartbeats 4000000 in
set_option maxRecDepth 20000 in
theorem t_X7_between_b101 {l : Launch} {G : Gl} {n : Nat} {sh : Sh} {x : Int32 × Mu} {k38 : Int32 → Int32 → Int32 → Mu → Option (Int32 × Mu)} {v0 : Nat} {v1 : Int32} {v2 : Int32} {v4 : Int32} {v5 : Int32} {s0 : Int32} {μ : Mu} (hk38 : ∀ (v3 : Int32) (v4 : Int32) (v5 : Int32) (μ : Mu), k38 v3 v4 v5 μ = some x → Sj l G (QI G n sh x) c_X7_between n sh 0 0 μ 38 [some (vr v0), some (vi v1), some (vi v2), some (vi v3), some (vi v4), some (vi v5), none] []) (h : m_X7_between_b101 sh k38 v0 v1 v2 v4 v5 s0 μ = some x) : Sj l G (QI G n sh x) c_X7_between n sh 0 0 μ 101 [some (vr v0), some (vi v1), some (vi v2), none, some (vi v4), some (vi v5), none] [vi s0] := by
  unfold m_X7_between_b101 at h
  refine s_aload_n (pc := 101) d_X7_between_101 rfl rfl ?_
  refine s_iload_n (pc := 102) d_X7_between_102 rfl rfl ?_
  refine s_iconst (pc := 103) (v := 1) d_X7_between_103 (by decide) ?_
  refine s_iload (pc := 104) d_X7_between_104 rfl ?_
  refine s_isub (pc := 106) d_X7_between_106 ?_
  refine s_iload_n (pc := 107) d_X7_between_107 rfl rfl ?_
  obtain ⟨g23, h⟩ := gd_1 h
  obtain ⟨r24, μ25, er24, h⟩ := ca2_1 h
  refine s_callV (pc := 108) (as := [vi v1, vi (1 - v5), vi v2]) (st := [vi s0]) (vo := [vi r24]) (t_X7_isElsewhere er24) cl_7 g23 d_X7_between_108 y_X7_isElsewhere w_935 w_937 w_s28 ⟨by decide, by decide⟩ ⟨Nat.le_of_ble_eq_true rfl, Nat.le_of_ble_eq_true rfl⟩ (Nat.le_of_ble_eq_true rfl) rfl rfl rfl ?_
  refine s_as (kc' := 0) (js' := 0) (pc' := 111) (st' := [vi r24, vi s0]) ⟨rfl, rfl, rfl, rfl⟩ ?_
  refine s_if_ne (pc := 111) (tgt := 121) d_X7_between_111 (by decide) (fun c26 => ?_) (fun c26 => ?_)
  · have h := it_f c26 h
    exact t_X7_between_b121 hk38 h
  · have h := it_t c26 h
    refine s_iconst (pc := 114) (v := 1) d_X7_between_114 (by decide) ?_
    refine s_iload (pc := 115) d_X7_between_115 rfl ?_
    refine s_ishl (pc := 117) d_X7_between_117 ?_
    refine s_goto (pc := 118) (tgt := 122) d_X7_between_118 (by decide) ?_
    exact t_X7_between_b122 hk38 h
set_option maxHeartbeats 4000000 in
set_option maxRecDepth 20000 in
theorem t_X7_between_b82 {l : Launch} {G : Gl} {n : Nat} {sh : Sh} {x : Int32 × Mu} {k38 : Int32 → Int32 → Int32 → Mu → Option (Int32 × Mu)} {v0 : Nat} {v1 : Int32} {v2 : Int32} {v3 : Int32} {v5 : Int32} {v6 : Int32} {s0 : Int32} {μ : Mu} (hk38 : ∀ (v3 : Int32) (v4 : Int32) (v5 : Int32) (μ : Mu), k38 v3 v4 v5 μ = some x → Sj l G (QI G n sh x) c_X7_between n sh 0 0 μ 38 [some (vr v0), some (vi v1), some (vi v2), some (vi v3), some (vi v4), some (vi v5), none] []) (h : m_X7_between_b82 sh k38 v0 v1 v2 v3 v5 v6 s0 μ = some x) : Sj l G (QI G n sh x) c_X7_between n sh 0 0 μ 82 [some (vr v0), some (vi v1), some (vi v2), some (vi v3), none, some (vi v5), some (vi v6)] [vi s0] := by
  unfold m_X7_between_b82 at h
  refine s_istore (pc := 82) (lc' := [some (vr v0), some (vi v1), some (vi v2), some (vi v3), some (vi s0), some (vi v5), some (vi v6)]) d_X7_between_82 (by decide) rfl ?_
  refine s_iload_n (pc := 84) d_X7_between_84 rfl rfl ?_
  refine s_iload (pc := 85) d_X7_between_85 rfl ?_
  refine s_bipush (pc := 87) (v := (-9)) d_X7_between_87 (by decide) ?_
  refine s_icmp_eq (pc := 89) (tgt := 101) d_X7_between_89 (by decide) (fun c19 => ?_) (fun c19 => ?_)
  · have h := it_t c19 h
    refine s_mask [true, true, true, false, true, true, false] rfl ?_
    exact t_X7_between_b101 hk38 h
  · have h := it_f c19 h
    refine s_iload (pc := 92) d_X7_between_92 rfl ?_
    refine s_iload_n (pc := 94) d_X7_between_94 rfl rfl ?_
    obtain ⟨r20, μ21, er20, h⟩ := ca2_1 h
    refine s_callS (pc := 95) (as := [vi v6, vi v1]) (st := [vi v3]) (vo := [vi r20]) (t_X7_has er20) d_X7_between_95 y_X7_has w_903 w_904 ⟨by decide, by decide⟩ ⟨Nat.le_of_ble_eq_true rfl, Nat.le_of_ble_eq_true rfl⟩ (Nat.le_of_ble_eq_true rfl) rfl rfl rfl ?_
    refine s_as (kc' := 0) (js' := 0) (pc' := 98) (st' := [vi r20, vi v3]) ⟨rfl, rfl, rfl, rfl⟩ ?_
    refine s_if_eq (pc := 98) (tgt := 121) d_X7_between_98 (by decide) (fun c22 => ?_) (fun c22 => ?_)
    · have h := it_t c22 h
      refine s_mask [true, true, true, false, true, true, false] rfl ?_
      exact t_X7_between_b121 hk38 h
    · have h := it_f c22 h
      refine s_mask [true, true, true, false, true, true, false] rfl ?_
      exact t_X7_between_b101 hk38 h
set_option maxHeartbeats 4000000 in
set_option maxRecDepth 20000 in
theorem t_X7_between_b77 {l : Launch} {G : Gl} {n : Nat} {sh : Sh} {x : Int32 × Mu} {k38 : Int32 → Int32 → Int32 → Mu → Option (Int32 × Mu)} {v0 : Nat} {v1 : Int32} {v2 : Int32} {v3 : Int32} {v5 : Int32} {v6 : Int32} {μ : Mu} (hk38 : ∀ (v3 : Int32) (v4 : Int32) (v5 : Int32) (μ : Mu), k38 v3 v4 v5 μ = some x → Sj l G (QI G n sh x) c_X7_between n sh 0 0 μ 38 [some (vr v0), some (vi v1), some (vi v2), some (vi v3), some (vi v4), some (vi v5), none] []) (h : m_X7_between_b77 sh k38 v0 v1 v2 v3 v5 v6 μ = some x) : Sj l G (QI G n sh x) c_X7_between n sh 0 0 μ 77 [some (vr v0), some (vi v1), some (vi v2), some (vi v3), none, some (vi v5), some (vi v6)] [] := by
  unfold m_X7_between_b77 at h
  refine s_iconst (pc := 77) (v := 1) d_X7_between_77 (by decide) ?_
  refine s_goto (pc := 78) (tgt := 82) d_X7_between_78 (by decide) ?_
  exact t_X7_between_b82 hk38 h
set_option maxHeartbeats 4000000 in
set_option maxRecDepth 20000 in
theorem t_X7_between_b81 {l : Launch} {G : Gl} {n : Nat} {sh : Sh} {x : Int32 × Mu} {k38 : Int32 → Int32 → Int32 → Mu → Option (Int32 × Mu)} {v0 : Nat} {v1 : Int32} {v2 : Int32} {v3 : Int32} {v5 : Int32} {v6 : Int32} {μ : Mu} (hk38 : ∀ (v3 : Int32) (v4 : Int32) (v5 : Int32) (μ : Mu), k38 v3 v4 v5 μ = some x → Sj l G (QI G n sh x) c_X7_between n sh 0 0 μ 38 [some (vr v0), some (vi v1), some (vi v2), some (vi v3), some (vi v4), some (vi v5), none] []) (h : m_X7_between_b81 sh k38 v0 v1 v2 v3 v5 v6 μ = some x) : Sj l G (QI G n sh x) c_X7_between n sh 0 0 μ 81 [some (vr v0), some (vi v1), some (vi v2), some (vi v3), none, some (vi v5), some (vi v6)] [] := by
  unfold m_X7_between_b81 at h
  refine s_iconst (pc := 81) (v := 0) d_X7_between_81 (by decide) ?_
  exact t_X7_between_b82 hk38 h
set_option maxHeartbeats 4000000 in
set_option maxRecDepth 20000 in
theorem t_X7_between_b130 {l : Launch} {G : Gl} {n : Nat} {sh : Sh} {x : Int32 × Mu} {v3 : Int32} {v4 : Int32} {μ : Mu} (h : m_X7_between_b130 sh v3 v4 μ = some x) : Sj l G (QI G n sh x) c_X7_between n sh 0 0 μ 130 [none, none, none, some (vi v3), some (vi v4), none, none] [] := by
  unfold m_X7_between_b130 at h
  refine s_iload (pc := 130) d_X7_between_130 rfl ?_
  refine s_if_eq (pc := 132) (tgt := 139) d_X7_between_132 (by decide) (fun c18 => ?_) (fun c18 => ?_)
  · have h := it_t c18 h
    refine s_iload_n (pc := 139) d_X7_between_139 rfl rfl ?_
    refine s_iconst (pc := 140) (v := 4) d_X7_between_140 (by decide) ?_
    refine s_ior (pc := 141) d_X7_between_141 ?_
    obtain rfl := Option.some.inj h
    exact s_iret (pc := 142) d_X7_between_142 rfl
  · have h := it_f c18 h
    refine s_iload_n (pc := 135) d_X7_between_135 rfl rfl ?_
    refine s_goto (pc := 136) (tgt := 142) d_X7_between_136 (by decide) ?_
    obtain rfl := Option.some.inj h
    exact s_iret (pc := 142) d_X7_between_142 rfl
set_option maxHeartbeats 4000000 in
set_option maxRecDepth 20000 in
theorem t_X7_between_b38 {l : Launch} {G : Gl} {n : Nat} {sh : Sh} {x : Int32 × Mu} {k38 : Int32 → Int32 → Int32 → Mu → Option (Int32 × Mu)} {v0 : Nat} {v1 : Int32} {v2 : Int32} {v3 : Int32} {v4 : Int32} {v5 : Int32} {μ : Mu} (hk38 : ∀ (v3 : Int32) (v4 : Int32) (v5 : Int32) (μ : Mu), k38 v3 v4 v5 μ = some x → Sj l G (QI G n sh x) c_X7_between n sh 0 0 μ 38 [some (vr v0), some (vi v1), some (vi v2), some (vi v3), some (vi v4), some (vi v5), none] []) (h : m_X7_between_b38 sh k38 v0 v1 v2 v3 v4 v5 μ = some x) : Sj l G (QI G n sh x) c_X7_between n sh 0 0 μ 38 [some (vr v0), some (vi v1), some (vi v2), some (vi v3), some (vi v4), some (vi v5), none] [] := by
  unfold m_X7_between_b38 at h
  refine s_iload (pc := 38) d_X7_between_38 rfl ?_
  refine s_aload_n (pc := 40) d_X7_between_40 rfl rfl ?_
  obtain ⟨g9, h⟩ := gd_1 h
  refine s_getI (pc := 41) (k := 5) cl_7 d_X7_between_41 g9 (by decide) w_665 rfl ?_
  refine s_icmp_ge (pc := 44) (tgt := 130) d_X7_between_44 (by decide) (fun c10 => ?_) (fun c10 => ?_)
  · have h := it_t c10 h
    refine s_mask [false, false, false, true, true, false, true] rfl ?_
    exact t_X7_between_b130 h
  · have h := it_f c10 h
    refine s_aload_n (pc := 47) d_X7_between_47 rfl rfl ?_
    refine s_iload (pc := 48) d_X7_between_48 rfl ?_
    refine s_iload_n (pc := 50) d_X7_between_50 rfl rfl ?_
    obtain ⟨r11, μ12, er11, h⟩ := ca2_1 h
    refine s_callV (pc := 51) (as := [vi v5, vi v2]) (st := []) (vo := [vi r11]) (t_X7_shown er11) cl_7 g9 d_X7_between_51 y_X7_shown w_931 w_933 w_s27 ⟨by decide, by decide⟩ ⟨Nat.le_of_ble_eq_true rfl, Nat.le_of_ble_eq_true rfl⟩ (Nat.le_of_ble_eq_true rfl) rfl rfl rfl ?_
    refine s_as (kc' := 0) (js' := 0) (pc' := 54) (st' := [vi r11]) ⟨rfl, rfl, rfl, rfl⟩ ?_
    refine s_istore (pc := 54) (lc' := [some (vr v0), some (vi v1), some (vi v2), some (vi v3), some (vi v4), some (vi v5), some (vi r11)]) d_X7_between_54 (by decide) rfl ?_
    refine s_iload (pc := 56) d_X7_between_56 rfl ?_
    refine s_if_ne (pc := 58) (tgt := 77) d_X7_between_58 (by decide) (fun c13 => ?_) (fun c13 => ?_)
    · have h := it_f c13 h
      refine s_mask [true, true, true, true, false, true, true] rfl ?_
      exact t_X7_between_b77 hk38 h
    · have h := it_t c13 h
      refine s_iload (pc := 61) d_X7_between_61 rfl ?_
      refine s_bipush (pc := 63) (v := (-9)) d_X7_between_63 (by decide) ?_
      refine s_icmp_eq (pc := 65) (tgt := 81) d_X7_between_65 (by decide) (fun c14 => ?_) (fun c14 => ?_)
      · have h := it_t c14 h
        refine s_mask [true, true, true, true, false, true, true] rfl ?_
        exact t_X7_between_b81 hk38 h
      · have h := it_f c14 h
        refine s_iload (pc := 68) d_X7_between_68 rfl ?_
        refine s_iload_n (pc := 70) d_X7_between_70 rfl rfl ?_
        obtain ⟨r15, μ16, er15, h⟩ := ca2_1 h
        refine s_callS (pc := 71) (as := [vi r11, vi v1]) (st := []) (vo := [vi r15]) (t_X7_has er15) d_X7_between_71 y_X7_has w_903 w_904 ⟨by decide, by decide⟩ ⟨Nat.le_of_ble_eq_true rfl, Nat.le_of_ble_eq_true rfl⟩ (Nat.le_of_ble_eq_true rfl) rfl rfl rfl ?_
        refine s_as (kc' := 0) (js' := 0) (pc' := 74) (st' := [vi r15]) ⟨rfl, rfl, rfl, rfl⟩ ?_
        refine s_if_eq (pc := 74) (tgt := 81) d_X7_between_74 (by decide) (fun c17 => ?_) (fun c17 => ?_)
        · have h := it_t c17 h
          refine s_mask [true, true, true, true, false, true, true] rfl ?_
          exact t_X7_between_b81 hk38 h
        · have h := it_f c17 h
          refine s_mask [true, true, true, true, false, true, true] rfl ?_
          exact t_X7_between_b77 hk38 h
set_option maxHeartbeats 4000000 in
set_option maxRecDepth 20000 in
theorem t_X7_between_h38 {l : Launch} {G : Gl} {n : Nat} {sh : Sh} {x : Int32 × Mu} {v0 : Nat} {v1 : Int32} {v2 : Int32} : ∀ (f : Nat) (v3 : Int32) (v4 : Int32) (v5 : Int32) (μ : Mu), m_X7_between_h38 sh v0 v1 v2 f v3 v4 v5 μ = some x → Sj l G (QI G n sh x) c_X7_between n sh 0 0 μ 38 [some (vr v0), some (vi v1), some (vi v2), some (vi v3), some (vi v4), some (vi v5), none] [] := by
  intro f
  induction f with
  | zero =>
    intro v3 v4 v5 μ h
    cases h
  | succ f ih =>
    intro v3 v4 v5 μ h
    exact t_X7_between_b38 ih h
set_option maxHeartbeats 4000000 in
set_option maxRecDepth 20000 in
theorem t_X7_between {l : Launch} {G : Gl} {n : Nat} {sh : Sh} {x : Int32 × Mu} {v0 : Nat} {v1 : Int32} {v2 : Int32} {μ : Mu} (h : m_X7_between sh v0 v1 v2 μ = some x) : Ct l G ⟨"StripsOfFourModel", "between", "(II)I"⟩ prog_9_method_52_code 7 (some .int) { frames := 3, cells := 0, slots := 0, locals := 73 } n sh μ [vr v0, vi v1, vi v2] (some (.int x.1)) n sh x.2 := by
  refine Ct.of (lc := [some (vr v0), some (vi v1), some (vi v2), none, none, none, none]) (by decide +kernel) (Nat.le_of_ble_eq_true rfl) rfl ?_
  show Sj l G (QI G n sh x) c_X7_between n sh 0 0 μ 0 [some (vr v0), some (vi v1), some (vi v2), none, none, none, none] []
  unfold m_X7_between at h
  refine s_aload_n (pc := 0) d_X7_between_0 rfl rfl ?_
  refine s_iconst (pc := 1) (v := 0) d_X7_between_1 (by decide) ?_
  obtain ⟨g1, h⟩ := gd_1 h
  refine s_putI (pc := 2) (k := 0) cl_7 d_X7_between_2 g1 (by decide) w_660 rfl rfl ?_
  obtain ⟨μ2, eμ2, h⟩ := bd_1 h
  refine s_mu eμ2 ?_
  refine s_aload_n (pc := 5) d_X7_between_5 rfl rfl ?_
  refine s_iload_n (pc := 6) d_X7_between_6 rfl rfl ?_
  obtain ⟨r3, μ4, er3, h⟩ := ca2_1 h
  refine s_callV (pc := 7) (as := [vi v1]) (st := []) (vo := [vi r3]) (t_X7_noOne er3) cl_7 g1 d_X7_between_7 y_X7_noOne w_813 w_815 w_s19 ⟨by decide, by decide⟩ ⟨Nat.le_of_ble_eq_true rfl, Nat.le_of_ble_eq_true rfl⟩ (Nat.le_of_ble_eq_true rfl) rfl rfl rfl ?_
  refine s_as (kc' := 0) (js' := 0) (pc' := 10) (st' := [vi r3]) ⟨rfl, rfl, rfl, rfl⟩ ?_
  refine s_if_eq (pc := 10) (tgt := 15) d_X7_between_10 (by decide) (fun c5 => ?_) (fun c5 => ?_)
  · have h := it_t c5 h
    refine s_iload_n (pc := 15) d_X7_between_15 rfl rfl ?_
    refine s_i2l (pc := 16) d_X7_between_16 ?_
    refine s_lconst (pc := 17) (v := 0) d_X7_between_17 (by decide) ?_
    refine s_ldc2 (pc := 18) (v := 999) d_X7_between_18 w_930 ?_
    obtain ⟨r6, μ7, er6, h⟩ := ca2_1 h
    refine s_callS (pc := 21) (as := [vl (v2.toInt64), vl 0, vl 999]) (st := []) (vo := [vi r6]) (t_X7_in er6) d_X7_between_21 y_X7_in w_754 w_755 ⟨by decide, by decide⟩ ⟨Nat.le_of_ble_eq_true rfl, Nat.le_of_ble_eq_true rfl⟩ (Nat.le_of_ble_eq_true rfl) rfl rfl rfl ?_
    refine s_as (kc' := 0) (js' := 0) (pc' := 24) (st' := [vi r6]) ⟨rfl, rfl, rfl, rfl⟩ ?_
    refine s_if_ne (pc := 24) (tgt := 30) d_X7_between_24 (by decide) (fun c8 => ?_) (fun c8 => ?_)
    · have h := it_f c8 h
      refine s_iconst (pc := 30) (v := 0) d_X7_between_30 (by decide) ?_
      refine s_istore_n (pc := 31) (lc' := [some (vr v0), some (vi v1), some (vi v2), some (vi 0), none, none, none]) d_X7_between_31 rfl (by decide) rfl ?_
      refine s_iconst (pc := 32) (v := 0) d_X7_between_32 (by decide) ?_
      refine s_istore (pc := 33) (lc' := [some (vr v0), some (vi v1), some (vi v2), some (vi 0), some (vi 0), none, none]) d_X7_between_33 (by decide) rfl ?_
      refine s_iconst (pc := 35) (v := 0) d_X7_between_35 (by decide) ?_
      refine s_istore (pc := 36) (lc' := [some (vr v0), some (vi v1), some (vi v2), some (vi 0), some (vi 0), some (vi 0), none]) d_X7_between_36 (by decide) rfl ?_
      exact t_X7_between_h38 FU _ _ _ _ h
    · have h := it_t c8 h
      refine s_bipush (pc := 27) (v := (-2)) d_X7_between_27 (by decide) ?_
      obtain rfl := Option.some.inj h
      exact s_iret (pc := 29) d_X7_between_29 rfl
  · have h := it_f c5 h
    refine s_iconst (pc := 13) (v := (-1)) d_X7_between_13 (by decide) ?_
    obtain rfl := Option.some.inj h
    exact s_iret (pc := 14) d_X7_between_14 rfl
/-! StripsOfFourModel.inOf -/
abbrev c_X7_inOf : Cf := (prog_9_method_17_code, 4, "StripsOfFourModel", "inOf", (some .int), { frames := 0, cells := 0, slots := 0, locals := 0 })
theorem d_X7_inOf_0 : decode prog_9_method_17_code 0 = .ok (.iconst 0, 1) := by decide +kernel
theorem d_X7_inOf_1 : decode prog_9_method_17_code 1 = .ok (.istore_n 2, 1) := by decide +kernel
theorem d_X7_inOf_2 : decode prog_9_method_17_code 2 = .ok (.iconst 0, 1) := by decide +kernel
theorem d_X7_inOf_3 : decode prog_9_method_17_code 3 = .ok (.istore_n 3, 1) := by decide +kernel
theorem d_X7_inOf_4 : decode prog_9_method_17_code 4 = .ok (.iload_n 3, 1) := by decide +kernel
theorem d_X7_inOf_5 : decode prog_9_method_17_code 5 = .ok (.aload_n 0, 1) := by decide +kernel
theorem d_X7_inOf_6 : decode prog_9_method_17_code 6 = .ok (.getfield 77, 3) := by decide +kernel
theorem d_X7_inOf_9 : decode prog_9_method_17_code 9 = .ok (.if_icmp .ge 29, 3) := by decide +kernel
theorem d_X7_inOf_12 : decode prog_9_method_17_code 12 = .ok (.iload_n 2, 1) := by decide +kernel
theorem d_X7_inOf_13 : decode prog_9_method_17_code 13 = .ok (.aload_n 0, 1) := by decide +kernel
theorem d_X7_inOf_14 : decode prog_9_method_17_code 14 = .ok (.getfield 31, 3) := by decide +kernel
theorem d_X7_inOf_17 : decode prog_9_method_17_code 17 = .ok (.iload_n 3, 1) := by decide +kernel
theorem d_X7_inOf_18 : decode prog_9_method_17_code 18 = .ok (.iaload, 1) := by decide +kernel
theorem d_X7_inOf_19 : decode prog_9_method_17_code 19 = .ok (.iload_n 1, 1) := by decide +kernel
theorem d_X7_inOf_20 : decode prog_9_method_17_code 20 = .ok (.if_icmp .ne 9, 3) := by decide +kernel
theorem d_X7_inOf_23 : decode prog_9_method_17_code 23 = .ok (.iconst 1, 1) := by decide +kernel
theorem d_X7_inOf_24 : decode prog_9_method_17_code 24 = .ok (.iload_n 3, 1) := by decide +kernel
theorem d_X7_inOf_25 : decode prog_9_method_17_code 25 = .ok (.ishl, 1) := by decide +kernel
theorem d_X7_inOf_26 : decode prog_9_method_17_code 26 = .ok (.goto 4, 3) := by decide +kernel
theorem d_X7_inOf_29 : decode prog_9_method_17_code 29 = .ok (.iconst 0, 1) := by decide +kernel
theorem d_X7_inOf_30 : decode prog_9_method_17_code 30 = .ok (.ior, 1) := by decide +kernel
theorem d_X7_inOf_31 : decode prog_9_method_17_code 31 = .ok (.istore_n 2, 1) := by decide +kernel
theorem d_X7_inOf_32 : decode prog_9_method_17_code 32 = .ok (.iinc 3 1, 3) := by decide +kernel
theorem d_X7_inOf_35 : decode prog_9_method_17_code 35 = .ok (.goto (-31), 3) := by decide +kernel
theorem d_X7_inOf_38 : decode prog_9_method_17_code 38 = .ok (.iload_n 2, 1) := by decide +kernel
theorem d_X7_inOf_39 : decode prog_9_method_17_code 39 = .ok (.ireturn, 1) := by decide +kernel
def m_X7_inOf_b30 (sh : Sh) (k4 : Int32 → Int32 → Mu → Option (Int32 × Mu)) (v0 : Nat) (v1 : Int32) (v3 : Int32) (s0 : Int32) (s1 : Int32) (μ : Mu) : Option (Int32 × Mu) :=
  bd (s1 ||| s0) fun w7 =>
  bd (v3 + 1) fun w8 =>
  k4 w7 w8 μ
def m_X7_inOf_b4 (sh : Sh) (k4 : Int32 → Int32 → Mu → Option (Int32 × Mu)) (v0 : Nat) (v1 : Int32) (v2 : Int32) (v3 : Int32) (μ : Mu) : Option (Int32 × Mu) :=
  gd (iz sh 7 v0) <|
  if (gI μ v0 6) ≤ v3 then
    some (v2, μ)
  else
    bd (gR μ v0 16) fun a3 =>
    gd (ix sh 8 a3 v3) <|
    bd (gI μ a3 v3.toNatClampNeg) fun w5 =>
    if w5 = v1 then
      m_X7_inOf_b30 sh k4 v0 v1 v3 (1 <<< (v3 &&& 31)) v2 μ
    else
      m_X7_inOf_b30 sh k4 v0 v1 v3 0 v2 μ
def m_X7_inOf_h4 (sh : Sh) (v0 : Nat) (v1 : Int32) : Nat → Int32 → Int32 → Mu → Option (Int32 × Mu)
  | 0 => fun _ _ _ => none
  | f + 1 => fun v2 v3 μ => m_X7_inOf_b4 sh (m_X7_inOf_h4 sh v0 v1 f) v0 v1 v2 v3 μ
def m_X7_inOf (sh : Sh) (v0 : Nat) (v1 : Int32) (μ : Mu) : Option (Int32 × Mu) :=
  m_X7_inOf_h4 sh v0 v1 FU 0 0 μ
set_option maxHeartbeats 4000000 in
set_option maxRecDepth 20000 in
theorem t_X7_inOf_b30 {l : Launch} {G : Gl} {n : Nat} {sh : Sh} {x : Int32 × Mu} {k4 : Int32 → Int32 → Mu → Option (Int32 × Mu)} {v0 : Nat} {v1 : Int32} {v3 : Int32} {s0 : Int32} {s1 : Int32} {μ : Mu} (hk4 : ∀ (v2 : Int32) (v3 : Int32) (μ : Mu), k4 v2 v3 μ = some x → Sj l G (QI G n sh x) c_X7_inOf n sh 0 0 μ 4 [some (vr v0), some (vi v1), some (vi v2), some (vi v3)] []) (h : m_X7_inOf_b30 sh k4 v0 v1 v3 s0 s1 μ = some x) : Sj l G (QI G n sh x) c_X7_inOf n sh 0 0 μ 30 [some (vr v0), some (vi v1), none, some (vi v3)] [vi s0, vi s1] := by
  unfold m_X7_inOf_b30 at h
  refine s_ior (pc := 30) d_X7_inOf_30 ?_
  obtain ⟨w7, ew7, h⟩ := bd_1 h
  refine s_topI ew7 ?_
  refine s_istore_n (pc := 31) (lc' := [some (vr v0), some (vi v1), some (vi w7), some (vi v3)]) d_X7_inOf_31 rfl (by decide) rfl ?_
  obtain ⟨w8, ew8, h⟩ := bd_1 h
  refine s_iinc (pc := 32) (v := w8) (lc' := [some (vr v0), some (vi v1), some (vi w7), some (vi w8)]) d_X7_inOf_32 rfl (by rw [ew8]; rfl) (by decide) rfl ?_
  refine s_goto (pc := 35) (tgt := 4) d_X7_inOf_35 (by decide) ?_
  exact hk4 _ _ _ h
set_option maxHeartbeats 4000000 in
set_option maxRecDepth 20000 in
theorem t_X7_inOf_b4 {l : Launch} {G : Gl} {n : Nat} {sh : Sh} {x : Int32 × Mu} {k4 : Int32 → Int32 → Mu → Option (Int32 × Mu)} {v0 : Nat} {v1 : Int32} {v2 : Int32} {v3 : Int32} {μ : Mu} (hk4 : ∀ (v2 : Int32) (v3 : Int32) (μ : Mu), k4 v2 v3 μ = some x → Sj l G (QI G n sh x) c_X7_inOf n sh 0 0 μ 4 [some (vr v0), some (vi v1), some (vi v2), some (vi v3)] []) (h : m_X7_inOf_b4 sh k4 v0 v1 v2 v3 μ = some x) : Sj l G (QI G n sh x) c_X7_inOf n sh 0 0 μ 4 [some (vr v0), some (vi v1), some (vi v2), some (vi v3)] [] := by
  unfold m_X7_inOf_b4 at h
  refine s_iload_n (pc := 4) d_X7_inOf_4 rfl rfl ?_
  refine s_aload_n (pc := 5) d_X7_inOf_5 rfl rfl ?_
  obtain ⟨g1, h⟩ := gd_1 h
  refine s_getI (pc := 6) (k := 6) cl_7 d_X7_inOf_6 g1 (by decide) w_666 rfl ?_
  refine s_icmp_ge (pc := 9) (tgt := 38) d_X7_inOf_9 (by decide) (fun c2 => ?_) (fun c2 => ?_)
  · have h := it_t c2 h
    refine s_iload_n (pc := 38) d_X7_inOf_38 rfl rfl ?_
    obtain rfl := Option.some.inj h
    exact s_iret (pc := 39) d_X7_inOf_39 rfl
  · have h := it_f c2 h
    refine s_iload_n (pc := 12) d_X7_inOf_12 rfl rfl ?_
    refine s_aload_n (pc := 13) d_X7_inOf_13 rfl rfl ?_
    refine s_getR (pc := 14) (k := 16) cl_7 d_X7_inOf_14 g1 (by decide) w_676 (rt_arr _) ?_
    obtain ⟨a3, ea3, h⟩ := bd_1 h
    refine s_topR ea3 ?_
    refine s_iload_n (pc := 17) d_X7_inOf_17 rfl rfl ?_
    obtain ⟨g4, h⟩ := gd_1 h
    refine s_iald (pc := 18) d_X7_inOf_18 g4 ?_
    obtain ⟨w5, ew5, h⟩ := bd_1 h
    refine s_topI ew5 ?_
    refine s_iload_n (pc := 19) d_X7_inOf_19 rfl rfl ?_
    refine s_icmp_ne (pc := 20) (tgt := 29) d_X7_inOf_20 (by decide) (fun c6 => ?_) (fun c6 => ?_)
    · have h := it_f c6 h
      refine s_iconst (pc := 29) (v := 0) d_X7_inOf_29 (by decide) ?_
      refine s_mask [true, true, false, true] rfl ?_
      exact t_X7_inOf_b30 hk4 h
    · have h := it_t c6 h
      refine s_iconst (pc := 23) (v := 1) d_X7_inOf_23 (by decide) ?_
      refine s_iload_n (pc := 24) d_X7_inOf_24 rfl rfl ?_
      refine s_ishl (pc := 25) d_X7_inOf_25 ?_
      refine s_goto (pc := 26) (tgt := 30) d_X7_inOf_26 (by decide) ?_
      refine s_mask [true, true, false, true] rfl ?_
      exact t_X7_inOf_b30 hk4 h
set_option maxHeartbeats 4000000 in
set_option maxRecDepth 20000 in
theorem t_X7_inOf_h4 {l : Launch} {G : Gl} {n : Nat} {sh : Sh} {x : Int32 × Mu} {v0 : Nat} {v1 : Int32} : ∀ (f : Nat) (v2 : Int32) (v3 : Int32) (μ : Mu), m_X7_inOf_h4 sh v0 v1 f v2 v3 μ = some x → Sj l G (QI G n sh x) c_X7_inOf n sh 0 0 μ 4 [some (vr v0), some (vi v1), some (vi v2), some (vi v3)] [] := by
  intro f
  induction f with
  | zero =>
    intro v2 v3 μ h
    cases h
  | succ f ih =>
    intro v2 v3 μ h
    exact t_X7_inOf_b4 ih h
set_option maxHeartbeats 4000000 in
set_option maxRecDepth 20000 in
theorem t_X7_inOf {l : Launch} {G : Gl} {n : Nat} {sh : Sh} {x : Int32 × Mu} {v0 : Nat} {v1 : Int32} {μ : Mu} (h : m_X7_inOf sh v0 v1 μ = some x) : Ct l G ⟨"StripsOfFourModel", "inOf", "(I)I"⟩ prog_9_method_17_code 4 (some .int) { frames := 0, cells := 0, slots := 0, locals := 0 } n sh μ [vr v0, vi v1] (some (.int x.1)) n sh x.2 := by
  refine Ct.of (lc := [some (vr v0), some (vi v1), none, none]) (by decide +kernel) (Nat.le_of_ble_eq_true rfl) rfl ?_
  show Sj l G (QI G n sh x) c_X7_inOf n sh 0 0 μ 0 [some (vr v0), some (vi v1), none, none] []
  unfold m_X7_inOf at h
  refine s_iconst (pc := 0) (v := 0) d_X7_inOf_0 (by decide) ?_
  refine s_istore_n (pc := 1) (lc' := [some (vr v0), some (vi v1), some (vi 0), none]) d_X7_inOf_1 rfl (by decide) rfl ?_
  refine s_iconst (pc := 2) (v := 0) d_X7_inOf_2 (by decide) ?_
  refine s_istore_n (pc := 3) (lc' := [some (vr v0), some (vi v1), some (vi 0), some (vi 0)]) d_X7_inOf_3 rfl (by decide) rfl ?_
  exact t_X7_inOf_h4 FU _ _ _ h
/-! StripsOfFourModel.isFlash -/
abbrev c_X7_isFlash : Cf := (prog_9_method_21_code, 3, "StripsOfFourModel", "isFlash", (some .boolean), { frames := 0, cells := 0, slots := 0, locals := 0 })
theorem d_X7_isFlash_0 : decode prog_9_method_21_code 0 = .ok (.iload_n 2, 1) := by decide +kernel
theorem d_X7_isFlash_1 : decode prog_9_method_21_code 1 = .ok (.aload_n 0, 1) := by decide +kernel
theorem d_X7_isFlash_2 : decode prog_9_method_21_code 2 = .ok (.getfield 13, 3) := by decide +kernel
theorem d_X7_isFlash_5 : decode prog_9_method_21_code 5 = .ok (.iload_n 1, 1) := by decide +kernel
theorem d_X7_isFlash_6 : decode prog_9_method_21_code 6 = .ok (.iaload, 1) := by decide +kernel
theorem d_X7_isFlash_7 : decode prog_9_method_21_code 7 = .ok (.if_icmp .lt 25, 3) := by decide +kernel
theorem d_X7_isFlash_10 : decode prog_9_method_21_code 10 = .ok (.iload_n 2, 1) := by decide +kernel
theorem d_X7_isFlash_11 : decode prog_9_method_21_code 11 = .ok (.aload_n 0, 1) := by decide +kernel
theorem d_X7_isFlash_12 : decode prog_9_method_21_code 12 = .ok (.getfield 13, 3) := by decide +kernel
theorem d_X7_isFlash_15 : decode prog_9_method_21_code 15 = .ok (.iload_n 1, 1) := by decide +kernel
theorem d_X7_isFlash_16 : decode prog_9_method_21_code 16 = .ok (.iaload, 1) := by decide +kernel
theorem d_X7_isFlash_17 : decode prog_9_method_21_code 17 = .ok (.isub, 1) := by decide +kernel
theorem d_X7_isFlash_18 : decode prog_9_method_21_code 18 = .ok (.aload_n 0, 1) := by decide +kernel
theorem d_X7_isFlash_19 : decode prog_9_method_21_code 19 = .ok (.getfield 16, 3) := by decide +kernel
theorem d_X7_isFlash_22 : decode prog_9_method_21_code 22 = .ok (.iload_n 1, 1) := by decide +kernel
theorem d_X7_isFlash_23 : decode prog_9_method_21_code 23 = .ok (.iaload, 1) := by decide +kernel
theorem d_X7_isFlash_24 : decode prog_9_method_21_code 24 = .ok (.irem, 1) := by decide +kernel
theorem d_X7_isFlash_25 : decode prog_9_method_21_code 25 = .ok (.ifCond .ne 7, 3) := by decide +kernel
theorem d_X7_isFlash_28 : decode prog_9_method_21_code 28 = .ok (.iconst 1, 1) := by decide +kernel
theorem d_X7_isFlash_29 : decode prog_9_method_21_code 29 = .ok (.goto 4, 3) := by decide +kernel
theorem d_X7_isFlash_32 : decode prog_9_method_21_code 32 = .ok (.iconst 0, 1) := by decide +kernel
theorem d_X7_isFlash_33 : decode prog_9_method_21_code 33 = .ok (.ireturn, 1) := by decide +kernel
def m_X7_isFlash (sh : Sh) (v0 : Nat) (v1 : Int32) (v2 : Int32) (μ : Mu) : Option (Int32 × Mu) :=
  gd (iz sh 7 v0) <|
  bd (gR μ v0 7) fun a2 =>
  gd (ix sh 8 a2 v1) <|
  bd (gI μ a2 v1.toNatClampNeg) fun w4 =>
  if v2 < w4 then
    some (0, μ)
  else
    bd (gR μ v0 7) fun a6 =>
    gd (ix sh 8 a6 v1) <|
    bd (gI μ a6 v1.toNatClampNeg) fun w8 =>
    bd (gR μ v0 8) fun a9 =>
    gd (ix sh 8 a9 v1) <|
    bd (gI μ a9 v1.toNatClampNeg) fun w11 =>
    gd (nzI w11) <|
    if ((v2 - w8) - (v2 - w8) / w11 * w11) = 0 then
      some (1, μ)
    else
      some (0, μ)
set_option maxHeartbeats 4000000 in
set_option maxRecDepth 20000 in
theorem t_X7_isFlash {l : Launch} {G : Gl} {n : Nat} {sh : Sh} {x : Int32 × Mu} {v0 : Nat} {v1 : Int32} {v2 : Int32} {μ : Mu} (h : m_X7_isFlash sh v0 v1 v2 μ = some x) : Ct l G ⟨"StripsOfFourModel", "isFlash", "(II)Z"⟩ prog_9_method_21_code 3 (some .boolean) { frames := 0, cells := 0, slots := 0, locals := 0 } n sh μ [vr v0, vi v1, vi v2] (some (.int x.1)) n sh x.2 := by
  refine Ct.of (lc := [some (vr v0), some (vi v1), some (vi v2)]) (by decide +kernel) (Nat.le_of_ble_eq_true rfl) rfl ?_
  show Sj l G (QI G n sh x) c_X7_isFlash n sh 0 0 μ 0 [some (vr v0), some (vi v1), some (vi v2)] []
  unfold m_X7_isFlash at h
  refine s_iload_n (pc := 0) d_X7_isFlash_0 rfl rfl ?_
  refine s_aload_n (pc := 1) d_X7_isFlash_1 rfl rfl ?_
  obtain ⟨g1, h⟩ := gd_1 h
  refine s_getR (pc := 2) (k := 7) cl_7 d_X7_isFlash_2 g1 (by decide) w_667 (rt_arr _) ?_
  obtain ⟨a2, ea2, h⟩ := bd_1 h
  refine s_topR ea2 ?_
  refine s_iload_n (pc := 5) d_X7_isFlash_5 rfl rfl ?_
  obtain ⟨g3, h⟩ := gd_1 h
  refine s_iald (pc := 6) d_X7_isFlash_6 g3 ?_
  obtain ⟨w4, ew4, h⟩ := bd_1 h
  refine s_topI ew4 ?_
  refine s_icmp_lt (pc := 7) (tgt := 32) d_X7_isFlash_7 (by decide) (fun c5 => ?_) (fun c5 => ?_)
  · have h := it_t c5 h
    refine s_iconst (pc := 32) (v := 0) d_X7_isFlash_32 (by decide) ?_
    obtain rfl := Option.some.inj h
    exact s_zret0 (pc := 33) rfl d_X7_isFlash_33 rfl
  · have h := it_f c5 h
    refine s_iload_n (pc := 10) d_X7_isFlash_10 rfl rfl ?_
    refine s_aload_n (pc := 11) d_X7_isFlash_11 rfl rfl ?_
    refine s_getR (pc := 12) (k := 7) cl_7 d_X7_isFlash_12 g1 (by decide) w_667 (rt_arr _) ?_
    obtain ⟨a6, ea6, h⟩ := bd_1 h
    refine s_topR ea6 ?_
    refine s_iload_n (pc := 15) d_X7_isFlash_15 rfl rfl ?_
    obtain ⟨g7, h⟩ := gd_1 h
    refine s_iald (pc := 16) d_X7_isFlash_16 g7 ?_
    obtain ⟨w8, ew8, h⟩ := bd_1 h
    refine s_topI ew8 ?_
    refine s_isub (pc := 17) d_X7_isFlash_17 ?_
    refine s_aload_n (pc := 18) d_X7_isFlash_18 rfl rfl ?_
    refine s_getR (pc := 19) (k := 8) cl_7 d_X7_isFlash_19 g1 (by decide) w_668 (rt_arr _) ?_
    obtain ⟨a9, ea9, h⟩ := bd_1 h
    refine s_topR ea9 ?_
    refine s_iload_n (pc := 22) d_X7_isFlash_22 rfl rfl ?_
    obtain ⟨g10, h⟩ := gd_1 h
    refine s_iald (pc := 23) d_X7_isFlash_23 g10 ?_
    obtain ⟨w11, ew11, h⟩ := bd_1 h
    refine s_topI ew11 ?_
    obtain ⟨g12, h⟩ := gd_1 h
    refine s_irem (pc := 24) d_X7_isFlash_24 (nzI_eq g12) ?_
    refine s_if_ne (pc := 25) (tgt := 32) d_X7_isFlash_25 (by decide) (fun c13 => ?_) (fun c13 => ?_)
    · have h := it_f c13 h
      refine s_iconst (pc := 32) (v := 0) d_X7_isFlash_32 (by decide) ?_
      obtain rfl := Option.some.inj h
      exact s_zret0 (pc := 33) rfl d_X7_isFlash_33 rfl
    · have h := it_t c13 h
      refine s_iconst (pc := 28) (v := 1) d_X7_isFlash_28 (by decide) ?_
      refine s_goto (pc := 29) (tgt := 33) d_X7_isFlash_29 (by decide) ?_
      obtain rfl := Option.some.inj h
      exact s_zret0 (pc := 33) rfl d_X7_isFlash_33 rfl
/-! StripsOfFourModel.noBooth -/
abbrev c_X7_noBooth : Cf := (prog_9_method_6_code, 2, "StripsOfFourModel", "noBooth", (some .boolean), { frames := 1, cells := 0, slots := 0, locals := 25 })
theorem d_X7_noBooth_0 : decode prog_9_method_6_code 0 = .ok (.iload_n 1, 1) := by decide +kernel
theorem d_X7_noBooth_1 : decode prog_9_method_6_code 1 = .ok (.i2l, 1) := by decide +kernel
theorem d_X7_noBooth_2 : decode prog_9_method_6_code 2 = .ok (.lconst 0, 1) := by decide +kernel
theorem d_X7_noBooth_3 : decode prog_9_method_6_code 3 = .ok (.aload_n 0, 1) := by decide +kernel
theorem d_X7_noBooth_4 : decode prog_9_method_6_code 4 = .ok (.getfield 70, 3) := by decide +kernel
theorem d_X7_noBooth_7 : decode prog_9_method_6_code 7 = .ok (.iconst 1, 1) := by decide +kernel
theorem d_X7_noBooth_8 : decode prog_9_method_6_code 8 = .ok (.isub, 1) := by decide +kernel
theorem d_X7_noBooth_9 : decode prog_9_method_6_code 9 = .ok (.i2l, 1) := by decide +kernel
theorem d_X7_noBooth_10 : decode prog_9_method_6_code 10 = .ok (.invokestatic 73, 3) := by decide +kernel
theorem d_X7_noBooth_13 : decode prog_9_method_6_code 13 = .ok (.ifCond .ne 7, 3) := by decide +kernel
theorem d_X7_noBooth_16 : decode prog_9_method_6_code 16 = .ok (.iconst 1, 1) := by decide +kernel
theorem d_X7_noBooth_17 : decode prog_9_method_6_code 17 = .ok (.goto 4, 3) := by decide +kernel
theorem d_X7_noBooth_20 : decode prog_9_method_6_code 20 = .ok (.iconst 0, 1) := by decide +kernel
theorem d_X7_noBooth_21 : decode prog_9_method_6_code 21 = .ok (.ireturn, 1) := by decide +kernel
def m_X7_noBooth (sh : Sh) (v0 : Nat) (v1 : Int32) (μ : Mu) : Option (Int32 × Mu) :=
  gd (iz sh 7 v0) <|
  ca2 (m_X7_in sh (v1.toInt64) 0 (((gI μ v0 5) - 1).toInt64) μ) fun r2 μ3 =>
  if r2 = 0 then
    some (1, μ3)
  else
    some (0, μ3)
set_option maxHeartbeats 4000000 in
set_option maxRecDepth 20000 in
theorem t_X7_noBooth {l : Launch} {G : Gl} {n : Nat} {sh : Sh} {x : Int32 × Mu} {v0 : Nat} {v1 : Int32} {μ : Mu} (h : m_X7_noBooth sh v0 v1 μ = some x) : Ct l G ⟨"StripsOfFourModel", "noBooth", "(I)Z"⟩ prog_9_method_6_code 2 (some .boolean) { frames := 1, cells := 0, slots := 0, locals := 25 } n sh μ [vr v0, vi v1] (some (.int x.1)) n sh x.2 := by
  refine Ct.of (lc := [some (vr v0), some (vi v1)]) (by decide +kernel) (Nat.le_of_ble_eq_true rfl) rfl ?_
  show Sj l G (QI G n sh x) c_X7_noBooth n sh 0 0 μ 0 [some (vr v0), some (vi v1)] []
  unfold m_X7_noBooth at h
  refine s_iload_n (pc := 0) d_X7_noBooth_0 rfl rfl ?_
  refine s_i2l (pc := 1) d_X7_noBooth_1 ?_
  refine s_lconst (pc := 2) (v := 0) d_X7_noBooth_2 (by decide) ?_
  refine s_aload_n (pc := 3) d_X7_noBooth_3 rfl rfl ?_
  obtain ⟨g1, h⟩ := gd_1 h
  refine s_getI (pc := 4) (k := 5) cl_7 d_X7_noBooth_4 g1 (by decide) w_665 rfl ?_
  refine s_iconst (pc := 7) (v := 1) d_X7_noBooth_7 (by decide) ?_
  refine s_isub (pc := 8) d_X7_noBooth_8 ?_
  refine s_i2l (pc := 9) d_X7_noBooth_9 ?_
  obtain ⟨r2, μ3, er2, h⟩ := ca2_1 h
  refine s_callS (pc := 10) (as := [vl (v1.toInt64), vl 0, vl (((gI μ v0 5) - 1).toInt64)]) (st := []) (vo := [vi r2]) (t_X7_in er2) d_X7_noBooth_10 y_X7_in w_754 w_755 ⟨by decide, by decide⟩ ⟨Nat.le_of_ble_eq_true rfl, Nat.le_of_ble_eq_true rfl⟩ (Nat.le_of_ble_eq_true rfl) rfl rfl rfl ?_
  refine s_as (kc' := 0) (js' := 0) (pc' := 13) (st' := [vi r2]) ⟨rfl, rfl, rfl, rfl⟩ ?_
  refine s_if_ne (pc := 13) (tgt := 20) d_X7_noBooth_13 (by decide) (fun c4 => ?_) (fun c4 => ?_)
  · have h := it_f c4 h
    refine s_iconst (pc := 20) (v := 0) d_X7_noBooth_20 (by decide) ?_
    obtain rfl := Option.some.inj h
    exact s_zret0 (pc := 21) rfl d_X7_noBooth_21 rfl
  · have h := it_t c4 h
    refine s_iconst (pc := 16) (v := 1) d_X7_noBooth_16 (by decide) ?_
    refine s_goto (pc := 17) (tgt := 21) d_X7_noBooth_17 (by decide) ?_
    obtain rfl := Option.some.inj h
    exact s_zret0 (pc := 21) rfl d_X7_noBooth_21 rfl
/-! StripsOfFourModel.booth -/
abbrev c_X7_booth : Cf := (prog_9_method_23_code, 4, "StripsOfFourModel", "booth", (some .int), { frames := 2, cells := 0, slots := 0, locals := 46 })
theorem d_X7_booth_0 : decode prog_9_method_23_code 0 = .ok (.aload_n 0, 1) := by decide +kernel
theorem d_X7_booth_1 : decode prog_9_method_23_code 1 = .ok (.iconst 0, 1) := by decide +kernel
theorem d_X7_booth_2 : decode prog_9_method_23_code 2 = .ok (.putfield 66, 3) := by decide +kernel
theorem d_X7_booth_5 : decode prog_9_method_23_code 5 = .ok (.aload_n 0, 1) := by decide +kernel
theorem d_X7_booth_6 : decode prog_9_method_23_code 6 = .ok (.iload_n 1, 1) := by decide +kernel
theorem d_X7_booth_7 : decode prog_9_method_23_code 7 = .ok (.invokevirtual 121, 3) := by decide +kernel
theorem d_X7_booth_10 : decode prog_9_method_23_code 10 = .ok (.ifCond .eq 5, 3) := by decide +kernel
theorem d_X7_booth_13 : decode prog_9_method_23_code 13 = .ok (.iconst (-1), 1) := by decide +kernel
theorem d_X7_booth_14 : decode prog_9_method_23_code 14 = .ok (.ireturn, 1) := by decide +kernel
theorem d_X7_booth_15 : decode prog_9_method_23_code 15 = .ok (.aload_n 0, 1) := by decide +kernel
theorem d_X7_booth_16 : decode prog_9_method_23_code 16 = .ok (.getfield 31, 3) := by decide +kernel
theorem d_X7_booth_19 : decode prog_9_method_23_code 19 = .ok (.sipush 203, 3) := by decide +kernel
theorem d_X7_booth_22 : decode prog_9_method_23_code 22 = .ok (.iaload, 1) := by decide +kernel
theorem d_X7_booth_23 : decode prog_9_method_23_code 23 = .ok (.istore_n 3, 1) := by decide +kernel
theorem d_X7_booth_24 : decode prog_9_method_23_code 24 = .ok (.aload_n 0, 1) := by decide +kernel
theorem d_X7_booth_25 : decode prog_9_method_23_code 25 = .ok (.iload_n 1, 1) := by decide +kernel
theorem d_X7_booth_26 : decode prog_9_method_23_code 26 = .ok (.iload_n 3, 1) := by decide +kernel
theorem d_X7_booth_27 : decode prog_9_method_23_code 27 = .ok (.invokevirtual 125, 3) := by decide +kernel
theorem d_X7_booth_30 : decode prog_9_method_23_code 30 = .ok (.ifCond .ne 9, 3) := by decide +kernel
theorem d_X7_booth_33 : decode prog_9_method_23_code 33 = .ok (.iinc 3 1, 3) := by decide +kernel
theorem d_X7_booth_36 : decode prog_9_method_23_code 36 = .ok (.goto (-12), 3) := by decide +kernel
theorem d_X7_booth_39 : decode prog_9_method_23_code 39 = .ok (.iload_n 2, 1) := by decide +kernel
theorem d_X7_booth_40 : decode prog_9_method_23_code 40 = .ok (.tableswitch 71 0 4 #[36, 43, 50, 56, 69], 36) := by decide +kernel
theorem d_X7_booth_76 : decode prog_9_method_23_code 76 = .ok (.aload_n 0, 1) := by decide +kernel
theorem d_X7_booth_77 : decode prog_9_method_23_code 77 = .ok (.getfield 13, 3) := by decide +kernel
theorem d_X7_booth_80 : decode prog_9_method_23_code 80 = .ok (.iload_n 1, 1) := by decide +kernel
theorem d_X7_booth_81 : decode prog_9_method_23_code 81 = .ok (.iaload, 1) := by decide +kernel
theorem d_X7_booth_82 : decode prog_9_method_23_code 82 = .ok (.ireturn, 1) := by decide +kernel
theorem d_X7_booth_83 : decode prog_9_method_23_code 83 = .ok (.aload_n 0, 1) := by decide +kernel
theorem d_X7_booth_84 : decode prog_9_method_23_code 84 = .ok (.getfield 16, 3) := by decide +kernel
theorem d_X7_booth_87 : decode prog_9_method_23_code 87 = .ok (.iload_n 1, 1) := by decide +kernel
theorem d_X7_booth_88 : decode prog_9_method_23_code 88 = .ok (.iaload, 1) := by decide +kernel
theorem d_X7_booth_89 : decode prog_9_method_23_code 89 = .ok (.ireturn, 1) := by decide +kernel
theorem d_X7_booth_90 : decode prog_9_method_23_code 90 = .ok (.aload_n 0, 1) := by decide +kernel
theorem d_X7_booth_91 : decode prog_9_method_23_code 91 = .ok (.iload_n 1, 1) := by decide +kernel
theorem d_X7_booth_92 : decode prog_9_method_23_code 92 = .ok (.invokevirtual 129, 3) := by decide +kernel
theorem d_X7_booth_95 : decode prog_9_method_23_code 95 = .ok (.ireturn, 1) := by decide +kernel
theorem d_X7_booth_96 : decode prog_9_method_23_code 96 = .ok (.aload_n 0, 1) := by decide +kernel
theorem d_X7_booth_97 : decode prog_9_method_23_code 97 = .ok (.getfield 31, 3) := by decide +kernel
theorem d_X7_booth_100 : decode prog_9_method_23_code 100 = .ok (.bipush 16, 2) := by decide +kernel
theorem d_X7_booth_102 : decode prog_9_method_23_code 102 = .ok (.bipush 17, 2) := by decide +kernel
theorem d_X7_booth_104 : decode prog_9_method_23_code 104 = .ok (.iload_n 1, 1) := by decide +kernel
theorem d_X7_booth_105 : decode prog_9_method_23_code 105 = .ok (.imul, 1) := by decide +kernel
theorem d_X7_booth_106 : decode prog_9_method_23_code 106 = .ok (.iadd, 1) := by decide +kernel
theorem d_X7_booth_107 : decode prog_9_method_23_code 107 = .ok (.iaload, 1) := by decide +kernel
theorem d_X7_booth_108 : decode prog_9_method_23_code 108 = .ok (.ireturn, 1) := by decide +kernel
theorem d_X7_booth_109 : decode prog_9_method_23_code 109 = .ok (.iload_n 3, 1) := by decide +kernel
theorem d_X7_booth_110 : decode prog_9_method_23_code 110 = .ok (.ireturn, 1) := by decide +kernel
theorem d_X7_booth_111 : decode prog_9_method_23_code 111 = .ok (.bipush (-2), 2) := by decide +kernel
theorem d_X7_booth_113 : decode prog_9_method_23_code 113 = .ok (.ireturn, 1) := by decide +kernel
def m_X7_booth_b39 (sh : Sh) (v0 : Nat) (v1 : Int32) (v2 : Int32) (v3 : Int32) (μ : Mu) : Option (Int32 × Mu) :=
  if v2 = 0 then
    gd (iz sh 7 v0) <|
    bd (gR μ v0 7) fun a16 =>
    gd (ix sh 8 a16 v1) <|
    bd (gI μ a16 v1.toNatClampNeg) fun w18 =>
    some (w18, μ)
  else
    if v2 = 1 then
      gd (iz sh 7 v0) <|
      bd (gR μ v0 8) fun a21 =>
      gd (ix sh 8 a21 v1) <|
      bd (gI μ a21 v1.toNatClampNeg) fun w23 =>
      some (w23, μ)
    else
      if v2 = 2 then
        gd (iz sh 7 v0) <|
        ca2 (m_X7_inOf sh v0 v1 μ) fun r26 μ27 =>
        some (r26, μ27)
      else
        if v2 = 3 then
          gd (iz sh 7 v0) <|
          bd (gR μ v0 16) fun a30 =>
          gd (ix sh 8 a30 (16 + (17 * v1))) <|
          bd (gI μ a30 (16 + (17 * v1)).toNatClampNeg) fun w32 =>
          some (w32, μ)
        else
          if v2 = 4 then
            some (v3, μ)
          else
            some ((-2), μ)
def m_X7_booth_b24 (sh : Sh) (k24 : Int32 → Mu → Option (Int32 × Mu)) (v0 : Nat) (v1 : Int32) (v2 : Int32) (v3 : Int32) (μ : Mu) : Option (Int32 × Mu) :=
  gd (iz sh 7 v0) <|
  ca2 (m_X7_isFlash sh v0 v1 v3 μ) fun r10 μ11 =>
  if r10 = 0 then
    bd (v3 + 1) fun w13 =>
    k24 w13 μ11
  else
    m_X7_booth_b39 sh v0 v1 v2 v3 μ11
def m_X7_booth_h24 (sh : Sh) (v0 : Nat) (v1 : Int32) (v2 : Int32) : Nat → Int32 → Mu → Option (Int32 × Mu)
  | 0 => fun _ _ => none
  | f + 1 => fun v3 μ => m_X7_booth_b24 sh (m_X7_booth_h24 sh v0 v1 v2 f) v0 v1 v2 v3 μ
def m_X7_booth (sh : Sh) (v0 : Nat) (v1 : Int32) (v2 : Int32) (μ : Mu) : Option (Int32 × Mu) :=
  gd (iz sh 7 v0) <|
  bd (sI μ v0 0 0) fun μ2 =>
  ca2 (m_X7_noBooth sh v0 v1 μ2) fun r3 μ4 =>
  if r3 = 0 then
    bd (gR μ4 v0 16) fun a6 =>
    gd (ix sh 8 a6 203) <|
    bd (gI μ4 a6 (203 : Int32).toNatClampNeg) fun w8 =>
    m_X7_booth_h24 sh v0 v1 v2 FU w8 μ4
  else
    some ((-1), μ4)
set_option maxHeartbeats 4000000 in
set_option maxRecDepth 20000 in
theorem t_X7_booth_b39 {l : Launch} {G : Gl} {n : Nat} {sh : Sh} {x : Int32 × Mu} {v0 : Nat} {v1 : Int32} {v2 : Int32} {v3 : Int32} {μ : Mu} (h : m_X7_booth_b39 sh v0 v1 v2 v3 μ = some x) : Sj l G (QI G n sh x) c_X7_booth n sh 0 0 μ 39 [some (vr v0), some (vi v1), some (vi v2), some (vi v3)] [] := by
  unfold m_X7_booth_b39 at h
  refine s_iload_n (pc := 39) d_X7_booth_39 rfl rfl ?_
  by_cases c14 : v2 = 0
  · have h := it_t c14 h
    refine s_tab (pc := 40) (tgt := 76) 0 c14 d_X7_booth_40 (by decide) (by decide) rfl (by decide) ?_
    refine s_aload_n (pc := 76) d_X7_booth_76 rfl rfl ?_
    obtain ⟨g15, h⟩ := gd_1 h
    refine s_getR (pc := 77) (k := 7) cl_7 d_X7_booth_77 g15 (by decide) w_667 (rt_arr _) ?_
    obtain ⟨a16, ea16, h⟩ := bd_1 h
    refine s_topR ea16 ?_
    refine s_iload_n (pc := 80) d_X7_booth_80 rfl rfl ?_
    obtain ⟨g17, h⟩ := gd_1 h
    refine s_iald (pc := 81) d_X7_booth_81 g17 ?_
    obtain ⟨w18, ew18, h⟩ := bd_1 h
    refine s_topI ew18 ?_
    obtain rfl := Option.some.inj h
    exact s_iret (pc := 82) d_X7_booth_82 rfl
  have h := it_f c14 h
  by_cases c19 : v2 = 1
  · have h := it_t c19 h
    refine s_tab (pc := 40) (tgt := 83) 1 c19 d_X7_booth_40 (by decide) (by decide) rfl (by decide) ?_
    refine s_aload_n (pc := 83) d_X7_booth_83 rfl rfl ?_
    obtain ⟨g20, h⟩ := gd_1 h
    refine s_getR (pc := 84) (k := 8) cl_7 d_X7_booth_84 g20 (by decide) w_668 (rt_arr _) ?_
    obtain ⟨a21, ea21, h⟩ := bd_1 h
    refine s_topR ea21 ?_
    refine s_iload_n (pc := 87) d_X7_booth_87 rfl rfl ?_
    obtain ⟨g22, h⟩ := gd_1 h
    refine s_iald (pc := 88) d_X7_booth_88 g22 ?_
    obtain ⟨w23, ew23, h⟩ := bd_1 h
    refine s_topI ew23 ?_
    obtain rfl := Option.some.inj h
    exact s_iret (pc := 89) d_X7_booth_89 rfl
  have h := it_f c19 h
  by_cases c24 : v2 = 2
  · have h := it_t c24 h
    refine s_tab (pc := 40) (tgt := 90) 2 c24 d_X7_booth_40 (by decide) (by decide) rfl (by decide) ?_
    refine s_aload_n (pc := 90) d_X7_booth_90 rfl rfl ?_
    refine s_iload_n (pc := 91) d_X7_booth_91 rfl rfl ?_
    obtain ⟨g25, h⟩ := gd_1 h
    obtain ⟨r26, μ27, er26, h⟩ := ca2_1 h
    refine s_callV (pc := 92) (as := [vi v1]) (st := []) (vo := [vi r26]) (t_X7_inOf er26) cl_7 g25 d_X7_booth_92 y_X7_inOf w_805 w_807 w_s18 ⟨by decide, by decide⟩ ⟨Nat.le_of_ble_eq_true rfl, Nat.le_of_ble_eq_true rfl⟩ (Nat.le_of_ble_eq_true rfl) rfl rfl rfl ?_
    refine s_as (kc' := 0) (js' := 0) (pc' := 95) (st' := [vi r26]) ⟨rfl, rfl, rfl, rfl⟩ ?_
    obtain rfl := Option.some.inj h
    exact s_iret (pc := 95) d_X7_booth_95 rfl
  have h := it_f c24 h
  by_cases c28 : v2 = 3
  · have h := it_t c28 h
    refine s_tab (pc := 40) (tgt := 96) 3 c28 d_X7_booth_40 (by decide) (by decide) rfl (by decide) ?_
    refine s_aload_n (pc := 96) d_X7_booth_96 rfl rfl ?_
    obtain ⟨g29, h⟩ := gd_1 h
    refine s_getR (pc := 97) (k := 16) cl_7 d_X7_booth_97 g29 (by decide) w_676 (rt_arr _) ?_
    obtain ⟨a30, ea30, h⟩ := bd_1 h
    refine s_topR ea30 ?_
    refine s_bipush (pc := 100) (v := 16) d_X7_booth_100 (by decide) ?_
    refine s_bipush (pc := 102) (v := 17) d_X7_booth_102 (by decide) ?_
    refine s_iload_n (pc := 104) d_X7_booth_104 rfl rfl ?_
    refine s_imul (pc := 105) d_X7_booth_105 ?_
    refine s_iadd (pc := 106) d_X7_booth_106 ?_
    obtain ⟨g31, h⟩ := gd_1 h
    refine s_iald (pc := 107) d_X7_booth_107 g31 ?_
    obtain ⟨w32, ew32, h⟩ := bd_1 h
    refine s_topI ew32 ?_
    obtain rfl := Option.some.inj h
    exact s_iret (pc := 108) d_X7_booth_108 rfl
  have h := it_f c28 h
  by_cases c33 : v2 = 4
  · have h := it_t c33 h
    refine s_tab (pc := 40) (tgt := 109) 4 c33 d_X7_booth_40 (by decide) (by decide) rfl (by decide) ?_
    refine s_iload_n (pc := 109) d_X7_booth_109 rfl rfl ?_
    obtain rfl := Option.some.inj h
    exact s_iret (pc := 110) d_X7_booth_110 rfl
  have h := it_f c33 h
  have qc14 := lv_neT (a := 0) c14 (by decide)
  have qc19 := lv_neT (a := 1) c19 (by decide)
  have qc24 := lv_neT (a := 2) c24 (by decide)
  have qc28 := lv_neT (a := 3) c28 (by decide)
  have qc33 := lv_neT (a := 4) c33 (by decide)
  refine s_tabOut (pc := 40) (tgt := 111) d_X7_booth_40 (by omega) (by decide) ?_
  refine s_bipush (pc := 111) (v := (-2)) d_X7_booth_111 (by decide) ?_
  obtain rfl := Option.some.inj h
  exact s_iret (pc := 113) d_X7_booth_113 rfl
set_option maxHeartbeats 4000000 in
set_option maxRecDepth 20000 in
theorem t_X7_booth_b24 {l : Launch} {G : Gl} {n : Nat} {sh : Sh} {x : Int32 × Mu} {k24 : Int32 → Mu → Option (Int32 × Mu)} {v0 : Nat} {v1 : Int32} {v2 : Int32} {v3 : Int32} {μ : Mu} (hk24 : ∀ (v3 : Int32) (μ : Mu), k24 v3 μ = some x → Sj l G (QI G n sh x) c_X7_booth n sh 0 0 μ 24 [some (vr v0), some (vi v1), some (vi v2), some (vi v3)] []) (h : m_X7_booth_b24 sh k24 v0 v1 v2 v3 μ = some x) : Sj l G (QI G n sh x) c_X7_booth n sh 0 0 μ 24 [some (vr v0), some (vi v1), some (vi v2), some (vi v3)] [] := by
  unfold m_X7_booth_b24 at h
  refine s_aload_n (pc := 24) d_X7_booth_24 rfl rfl ?_
  refine s_iload_n (pc := 25) d_X7_booth_25 rfl rfl ?_
  refine s_iload_n (pc := 26) d_X7_booth_26 rfl rfl ?_
  obtain ⟨g9, h⟩ := gd_1 h
  obtain ⟨r10, μ11, er10, h⟩ := ca2_1 h
  refine s_callV (pc := 27) (as := [vi v1, vi v3]) (st := []) (vo := [vi r10]) (t_X7_isFlash er10) cl_7 g9 d_X7_booth_27 y_X7_isFlash w_801 w_803 w_s17 ⟨by decide, by decide⟩ ⟨Nat.le_of_ble_eq_true rfl, Nat.le_of_ble_eq_true rfl⟩ (Nat.le_of_ble_eq_true rfl) rfl rfl rfl ?_
  refine s_as (kc' := 0) (js' := 0) (pc' := 30) (st' := [vi r10]) ⟨rfl, rfl, rfl, rfl⟩ ?_
  refine s_if_ne (pc := 30) (tgt := 39) d_X7_booth_30 (by decide) (fun c12 => ?_) (fun c12 => ?_)
  · have h := it_f c12 h
    exact t_X7_booth_b39 h
  · have h := it_t c12 h
    obtain ⟨w13, ew13, h⟩ := bd_1 h
    refine s_iinc (pc := 33) (v := w13) (lc' := [some (vr v0), some (vi v1), some (vi v2), some (vi w13)]) d_X7_booth_33 rfl (by rw [ew13]; rfl) (by decide) rfl ?_
    refine s_goto (pc := 36) (tgt := 24) d_X7_booth_36 (by decide) ?_
    exact hk24 _ _ h
set_option maxHeartbeats 4000000 in
set_option maxRecDepth 20000 in
theorem t_X7_booth_h24 {l : Launch} {G : Gl} {n : Nat} {sh : Sh} {x : Int32 × Mu} {v0 : Nat} {v1 : Int32} {v2 : Int32} : ∀ (f : Nat) (v3 : Int32) (μ : Mu), m_X7_booth_h24 sh v0 v1 v2 f v3 μ = some x → Sj l G (QI G n sh x) c_X7_booth n sh 0 0 μ 24 [some (vr v0), some (vi v1), some (vi v2), some (vi v3)] [] := by
  intro f
  induction f with
  | zero =>
    intro v3 μ h
    cases h
  | succ f ih =>
    intro v3 μ h
    exact t_X7_booth_b24 ih h
set_option maxHeartbeats 4000000 in
set_option maxRecDepth 20000 in
theorem t_X7_booth {l : Launch} {G : Gl} {n : Nat} {sh : Sh} {x : Int32 × Mu} {v0 : Nat} {v1 : Int32} {v2 : Int32} {μ : Mu} (h : m_X7_booth sh v0 v1 v2 μ = some x) : Ct l G ⟨"StripsOfFourModel", "booth", "(II)I"⟩ prog_9_method_23_code 4 (some .int) { frames := 2, cells := 0, slots := 0, locals := 46 } n sh μ [vr v0, vi v1, vi v2] (some (.int x.1)) n sh x.2 := by
  refine Ct.of (lc := [some (vr v0), some (vi v1), some (vi v2), none]) (by decide +kernel) (Nat.le_of_ble_eq_true rfl) rfl ?_
  show Sj l G (QI G n sh x) c_X7_booth n sh 0 0 μ 0 [some (vr v0), some (vi v1), some (vi v2), none] []
  unfold m_X7_booth at h
  refine s_aload_n (pc := 0) d_X7_booth_0 rfl rfl ?_
  refine s_iconst (pc := 1) (v := 0) d_X7_booth_1 (by decide) ?_
  obtain ⟨g1, h⟩ := gd_1 h
  refine s_putI (pc := 2) (k := 0) cl_7 d_X7_booth_2 g1 (by decide) w_660 rfl rfl ?_
  obtain ⟨μ2, eμ2, h⟩ := bd_1 h
  refine s_mu eμ2 ?_
  refine s_aload_n (pc := 5) d_X7_booth_5 rfl rfl ?_
  refine s_iload_n (pc := 6) d_X7_booth_6 rfl rfl ?_
  obtain ⟨r3, μ4, er3, h⟩ := ca2_1 h
  refine s_callV (pc := 7) (as := [vi v1]) (st := []) (vo := [vi r3]) (t_X7_noBooth er3) cl_7 g1 d_X7_booth_7 y_X7_noBooth w_797 w_799 w_s16 ⟨by decide, by decide⟩ ⟨Nat.le_of_ble_eq_true rfl, Nat.le_of_ble_eq_true rfl⟩ (Nat.le_of_ble_eq_true rfl) rfl rfl rfl ?_
  refine s_as (kc' := 0) (js' := 0) (pc' := 10) (st' := [vi r3]) ⟨rfl, rfl, rfl, rfl⟩ ?_
  refine s_if_eq (pc := 10) (tgt := 15) d_X7_booth_10 (by decide) (fun c5 => ?_) (fun c5 => ?_)
  · have h := it_t c5 h
    refine s_aload_n (pc := 15) d_X7_booth_15 rfl rfl ?_
    refine s_getR (pc := 16) (k := 16) cl_7 d_X7_booth_16 g1 (by decide) w_676 (rt_arr _) ?_
    obtain ⟨a6, ea6, h⟩ := bd_1 h
    refine s_topR ea6 ?_
    refine s_sipush (pc := 19) (v := 203) d_X7_booth_19 (by decide) ?_
    obtain ⟨g7, h⟩ := gd_1 h
    refine s_iald (pc := 22) d_X7_booth_22 g7 ?_
    obtain ⟨w8, ew8, h⟩ := bd_1 h
    refine s_topI ew8 ?_
    refine s_istore_n (pc := 23) (lc' := [some (vr v0), some (vi v1), some (vi v2), some (vi w8)]) d_X7_booth_23 rfl (by decide) rfl ?_
    exact t_X7_booth_h24 FU _ _ h
  · have h := it_f c5 h
    refine s_iconst (pc := 13) (v := (-1)) d_X7_booth_13 (by decide) ?_
    obtain rfl := Option.some.inj h
    exact s_iret (pc := 14) d_X7_booth_14 rfl
/-! StripsOfFourModel.note -/
abbrev c_X7_note : Cf := (prog_9_method_28_code, 2, "StripsOfFourModel", "note", none, { frames := 0, cells := 0, slots := 0, locals := 0 })
theorem d_X7_note_0 : decode prog_9_method_28_code 0 = .ok (.aload_n 0, 1) := by decide +kernel
theorem d_X7_note_1 : decode prog_9_method_28_code 1 = .ok (.getfield 109, 3) := by decide +kernel
theorem d_X7_note_4 : decode prog_9_method_28_code 4 = .ok (.bipush 12, 2) := by decide +kernel
theorem d_X7_note_6 : decode prog_9_method_28_code 6 = .ok (.if_icmp .ne 72, 3) := by decide +kernel
theorem d_X7_note_9 : decode prog_9_method_28_code 9 = .ok (.iconst 0, 1) := by decide +kernel
theorem d_X7_note_10 : decode prog_9_method_28_code 10 = .ok (.istore_n 1, 1) := by decide +kernel
theorem d_X7_note_11 : decode prog_9_method_28_code 11 = .ok (.iload_n 1, 1) := by decide +kernel
theorem d_X7_note_12 : decode prog_9_method_28_code 12 = .ok (.sipush 2255, 3) := by decide +kernel
theorem d_X7_note_15 : decode prog_9_method_28_code 15 = .ok (.if_icmp .ge 25, 3) := by decide +kernel
theorem d_X7_note_18 : decode prog_9_method_28_code 18 = .ok (.aload_n 0, 1) := by decide +kernel
theorem d_X7_note_19 : decode prog_9_method_28_code 19 = .ok (.getfield 34, 3) := by decide +kernel
theorem d_X7_note_22 : decode prog_9_method_28_code 22 = .ok (.iload_n 1, 1) := by decide +kernel
theorem d_X7_note_23 : decode prog_9_method_28_code 23 = .ok (.aload_n 0, 1) := by decide +kernel
theorem d_X7_note_24 : decode prog_9_method_28_code 24 = .ok (.getfield 34, 3) := by decide +kernel
theorem d_X7_note_27 : decode prog_9_method_28_code 27 = .ok (.iload_n 1, 1) := by decide +kernel
theorem d_X7_note_28 : decode prog_9_method_28_code 28 = .ok (.sipush 205, 3) := by decide +kernel
theorem d_X7_note_31 : decode prog_9_method_28_code 31 = .ok (.iadd, 1) := by decide +kernel
theorem d_X7_note_32 : decode prog_9_method_28_code 32 = .ok (.iaload, 1) := by decide +kernel
theorem d_X7_note_33 : decode prog_9_method_28_code 33 = .ok (.iastore, 1) := by decide +kernel
theorem d_X7_note_34 : decode prog_9_method_28_code 34 = .ok (.iinc 1 1, 3) := by decide +kernel
theorem d_X7_note_37 : decode prog_9_method_28_code 37 = .ok (.goto (-26), 3) := by decide +kernel
theorem d_X7_note_40 : decode prog_9_method_28_code 40 = .ok (.iconst 0, 1) := by decide +kernel
theorem d_X7_note_41 : decode prog_9_method_28_code 41 = .ok (.istore_n 1, 1) := by decide +kernel
theorem d_X7_note_42 : decode prog_9_method_28_code 42 = .ok (.iload_n 1, 1) := by decide +kernel
theorem d_X7_note_43 : decode prog_9_method_28_code 43 = .ok (.bipush 11, 2) := by decide +kernel
theorem d_X7_note_45 : decode prog_9_method_28_code 45 = .ok (.if_icmp .ge 23, 3) := by decide +kernel
theorem d_X7_note_48 : decode prog_9_method_28_code 48 = .ok (.aload_n 0, 1) := by decide +kernel
theorem d_X7_note_49 : decode prog_9_method_28_code 49 = .ok (.getfield 37, 3) := by decide +kernel
theorem d_X7_note_52 : decode prog_9_method_28_code 52 = .ok (.iload_n 1, 1) := by decide +kernel
theorem d_X7_note_53 : decode prog_9_method_28_code 53 = .ok (.aload_n 0, 1) := by decide +kernel
theorem d_X7_note_54 : decode prog_9_method_28_code 54 = .ok (.getfield 37, 3) := by decide +kernel
theorem d_X7_note_57 : decode prog_9_method_28_code 57 = .ok (.iload_n 1, 1) := by decide +kernel
theorem d_X7_note_58 : decode prog_9_method_28_code 58 = .ok (.iconst 1, 1) := by decide +kernel
theorem d_X7_note_59 : decode prog_9_method_28_code 59 = .ok (.iadd, 1) := by decide +kernel
theorem d_X7_note_60 : decode prog_9_method_28_code 60 = .ok (.laload, 1) := by decide +kernel
theorem d_X7_note_61 : decode prog_9_method_28_code 61 = .ok (.lastore, 1) := by decide +kernel
theorem d_X7_note_62 : decode prog_9_method_28_code 62 = .ok (.iinc 1 1, 3) := by decide +kernel
theorem d_X7_note_65 : decode prog_9_method_28_code 65 = .ok (.goto (-23), 3) := by decide +kernel
theorem d_X7_note_68 : decode prog_9_method_28_code 68 = .ok (.aload_n 0, 1) := by decide +kernel
theorem d_X7_note_69 : decode prog_9_method_28_code 69 = .ok (.dup, 1) := by decide +kernel
theorem d_X7_note_70 : decode prog_9_method_28_code 70 = .ok (.getfield 109, 3) := by decide +kernel
theorem d_X7_note_73 : decode prog_9_method_28_code 73 = .ok (.iconst 1, 1) := by decide +kernel
theorem d_X7_note_74 : decode prog_9_method_28_code 74 = .ok (.isub, 1) := by decide +kernel
theorem d_X7_note_75 : decode prog_9_method_28_code 75 = .ok (.putfield 109, 3) := by decide +kernel
theorem d_X7_note_78 : decode prog_9_method_28_code 78 = .ok (.iconst 0, 1) := by decide +kernel
theorem d_X7_note_79 : decode prog_9_method_28_code 79 = .ok (.istore_n 1, 1) := by decide +kernel
theorem d_X7_note_80 : decode prog_9_method_28_code 80 = .ok (.iload_n 1, 1) := by decide +kernel
theorem d_X7_note_81 : decode prog_9_method_28_code 81 = .ok (.sipush 205, 3) := by decide +kernel
theorem d_X7_note_84 : decode prog_9_method_28_code 84 = .ok (.if_icmp .ge 30, 3) := by decide +kernel
theorem d_X7_note_87 : decode prog_9_method_28_code 87 = .ok (.aload_n 0, 1) := by decide +kernel
theorem d_X7_note_88 : decode prog_9_method_28_code 88 = .ok (.getfield 34, 3) := by decide +kernel
theorem d_X7_note_91 : decode prog_9_method_28_code 91 = .ok (.sipush 205, 3) := by decide +kernel
theorem d_X7_note_94 : decode prog_9_method_28_code 94 = .ok (.aload_n 0, 1) := by decide +kernel
theorem d_X7_note_95 : decode prog_9_method_28_code 95 = .ok (.getfield 109, 3) := by decide +kernel
theorem d_X7_note_98 : decode prog_9_method_28_code 98 = .ok (.imul, 1) := by decide +kernel
theorem d_X7_note_99 : decode prog_9_method_28_code 99 = .ok (.iload_n 1, 1) := by decide +kernel
theorem d_X7_note_100 : decode prog_9_method_28_code 100 = .ok (.iadd, 1) := by decide +kernel
theorem d_X7_note_101 : decode prog_9_method_28_code 101 = .ok (.aload_n 0, 1) := by decide +kernel
theorem d_X7_note_102 : decode prog_9_method_28_code 102 = .ok (.getfield 31, 3) := by decide +kernel
theorem d_X7_note_105 : decode prog_9_method_28_code 105 = .ok (.iload_n 1, 1) := by decide +kernel
theorem d_X7_note_106 : decode prog_9_method_28_code 106 = .ok (.iaload, 1) := by decide +kernel
theorem d_X7_note_107 : decode prog_9_method_28_code 107 = .ok (.iastore, 1) := by decide +kernel
theorem d_X7_note_108 : decode prog_9_method_28_code 108 = .ok (.iinc 1 1, 3) := by decide +kernel
theorem d_X7_note_111 : decode prog_9_method_28_code 111 = .ok (.goto (-31), 3) := by decide +kernel
theorem d_X7_note_114 : decode prog_9_method_28_code 114 = .ok (.aload_n 0, 1) := by decide +kernel
theorem d_X7_note_115 : decode prog_9_method_28_code 115 = .ok (.getfield 37, 3) := by decide +kernel
theorem d_X7_note_118 : decode prog_9_method_28_code 118 = .ok (.aload_n 0, 1) := by decide +kernel
theorem d_X7_note_119 : decode prog_9_method_28_code 119 = .ok (.getfield 109, 3) := by decide +kernel
theorem d_X7_note_122 : decode prog_9_method_28_code 122 = .ok (.aload_n 0, 1) := by decide +kernel
theorem d_X7_note_123 : decode prog_9_method_28_code 123 = .ok (.getfield 147, 3) := by decide +kernel
theorem d_X7_note_126 : decode prog_9_method_28_code 126 = .ok (.lastore, 1) := by decide +kernel
theorem d_X7_note_127 : decode prog_9_method_28_code 127 = .ok (.aload_n 0, 1) := by decide +kernel
theorem d_X7_note_128 : decode prog_9_method_28_code 128 = .ok (.dup, 1) := by decide +kernel
theorem d_X7_note_129 : decode prog_9_method_28_code 129 = .ok (.getfield 109, 3) := by decide +kernel
theorem d_X7_note_132 : decode prog_9_method_28_code 132 = .ok (.iconst 1, 1) := by decide +kernel
theorem d_X7_note_133 : decode prog_9_method_28_code 133 = .ok (.iadd, 1) := by decide +kernel
theorem d_X7_note_134 : decode prog_9_method_28_code 134 = .ok (.putfield 109, 3) := by decide +kernel
theorem d_X7_note_137 : decode prog_9_method_28_code 137 = .ok (.return_, 1) := by decide +kernel
def m_X7_note_b114 (sh : Sh) (v0 : Nat) (μ : Mu) : Option Mu :=
  gd (iz sh 7 v0) <|
  bd (gR μ v0 19) fun a22 =>
  gd (ix sh 9 a22 (gI μ v0 20)) <|
  bd (sJ μ a22 (gI μ v0 20).toNatClampNeg (gJ μ v0 17)) fun μ24 =>
  bd (sI μ24 v0 20 ((gI μ24 v0 20) + 1)) fun μ25 =>
  some μ25
def m_X7_note_b80 (sh : Sh) (k80 : Int32 → Mu → Option Mu) (v0 : Nat) (v1 : Int32) (μ : Mu) : Option Mu :=
  if 205 ≤ v1 then
    m_X7_note_b114 sh v0 μ
  else
    gd (iz sh 7 v0) <|
    bd (gR μ v0 18) fun a14 =>
    bd (gR μ v0 16) fun a15 =>
    gd (ix sh 8 a15 v1) <|
    bd (gI μ a15 v1.toNatClampNeg) fun w17 =>
    gd (ix sh 8 a14 ((205 * (gI μ v0 20)) + v1)) <|
    bd (sI μ a14 ((205 * (gI μ v0 20)) + v1).toNatClampNeg w17) fun μ19 =>
    bd (v1 + 1) fun w20 =>
    k80 w20 μ19
def m_X7_note_h80 (sh : Sh) (v0 : Nat) : Nat → Int32 → Mu → Option Mu
  | 0 => fun _ _ => none
  | f + 1 => fun v1 μ => m_X7_note_b80 sh (m_X7_note_h80 sh v0 f) v0 v1 μ
def m_X7_note_b78 (sh : Sh) (v0 : Nat) (μ : Mu) : Option Mu :=
  m_X7_note_h80 sh v0 FU 0 μ
def m_X7_note_b68 (sh : Sh) (v0 : Nat) (μ : Mu) : Option Mu :=
  gd (iz sh 7 v0) <|
  bd (sI μ v0 20 ((gI μ v0 20) - 1)) fun μ36 =>
  m_X7_note_b78 sh v0 μ36
def m_X7_note_b42 (sh : Sh) (k42 : Int32 → Mu → Option Mu) (v0 : Nat) (v1 : Int32) (μ : Mu) : Option Mu :=
  if 11 ≤ v1 then
    m_X7_note_b68 sh v0 μ
  else
    gd (iz sh 7 v0) <|
    bd (gR μ v0 19) fun a28 =>
    bd (gR μ v0 19) fun a29 =>
    gd (ix sh 9 a29 (v1 + 1)) <|
    bd (gJ μ a29 (v1 + 1).toNatClampNeg) fun w31 =>
    gd (ix sh 9 a28 v1) <|
    bd (sJ μ a28 v1.toNatClampNeg w31) fun μ33 =>
    bd (v1 + 1) fun w34 =>
    k42 w34 μ33
def m_X7_note_h42 (sh : Sh) (v0 : Nat) : Nat → Int32 → Mu → Option Mu
  | 0 => fun _ _ => none
  | f + 1 => fun v1 μ => m_X7_note_b42 sh (m_X7_note_h42 sh v0 f) v0 v1 μ
def m_X7_note_b40 (sh : Sh) (v0 : Nat) (μ : Mu) : Option Mu :=
  m_X7_note_h42 sh v0 FU 0 μ
def m_X7_note_b11 (sh : Sh) (k11 : Int32 → Mu → Option Mu) (v0 : Nat) (v1 : Int32) (μ : Mu) : Option Mu :=
  if 2255 ≤ v1 then
    m_X7_note_b40 sh v0 μ
  else
    gd (iz sh 7 v0) <|
    bd (gR μ v0 18) fun a5 =>
    bd (gR μ v0 18) fun a6 =>
    gd (ix sh 8 a6 (v1 + 205)) <|
    bd (gI μ a6 (v1 + 205).toNatClampNeg) fun w8 =>
    gd (ix sh 8 a5 v1) <|
    bd (sI μ a5 v1.toNatClampNeg w8) fun μ10 =>
    bd (v1 + 1) fun w11 =>
    k11 w11 μ10
def m_X7_note_h11 (sh : Sh) (v0 : Nat) : Nat → Int32 → Mu → Option Mu
  | 0 => fun _ _ => none
  | f + 1 => fun v1 μ => m_X7_note_b11 sh (m_X7_note_h11 sh v0 f) v0 v1 μ
def m_X7_note (sh : Sh) (v0 : Nat) (μ : Mu) : Option Mu :=
  gd (iz sh 7 v0) <|
  if (gI μ v0 20) = 12 then
    m_X7_note_h11 sh v0 FU 0 μ
  else
    m_X7_note_b78 sh v0 μ
set_option maxHeartbeats 4000000 in
set_option maxRecDepth 20000 in
theorem t_X7_note_b114 {l : Launch} {G : Gl} {n : Nat} {sh : Sh} {x : Mu} {v0 : Nat} {μ : Mu} (h : m_X7_note_b114 sh v0 μ = some x) : Sj l G (QV G n sh x) c_X7_note n sh 0 0 μ 114 [some (vr v0), none] [] := by
  unfold m_X7_note_b114 at h
  refine s_aload_n (pc := 114) d_X7_note_114 rfl rfl ?_
  obtain ⟨g21, h⟩ := gd_1 h
  refine s_getR (pc := 115) (k := 19) cl_7 d_X7_note_115 g21 (by decide) w_679 (rt_arr _) ?_
  obtain ⟨a22, ea22, h⟩ := bd_1 h
  refine s_topR ea22 ?_
  refine s_aload_n (pc := 118) d_X7_note_118 rfl rfl ?_
  refine s_getI (pc := 119) (k := 20) cl_7 d_X7_note_119 g21 (by decide) w_680 rfl ?_
  refine s_aload_n (pc := 122) d_X7_note_122 rfl rfl ?_
  refine s_getJ (pc := 123) (k := 17) cl_7 d_X7_note_123 g21 (by decide) w_677 rfl ?_
  obtain ⟨g23, h⟩ := gd_1 h
  refine s_last (pc := 126) d_X7_note_126 g23 ?_
  obtain ⟨μ24, eμ24, h⟩ := bd_1 h
  refine s_mu eμ24 ?_
  refine s_aload_n (pc := 127) d_X7_note_127 rfl rfl ?_
  refine s_dup (pc := 128) d_X7_note_128 rfl ?_
  refine s_getI (pc := 129) (k := 20) cl_7 d_X7_note_129 g21 (by decide) w_680 rfl ?_
  refine s_iconst (pc := 132) (v := 1) d_X7_note_132 (by decide) ?_
  refine s_iadd (pc := 133) d_X7_note_133 ?_
  refine s_putI (pc := 134) (k := 20) cl_7 d_X7_note_134 g21 (by decide) w_680 rfl rfl ?_
  obtain ⟨μ25, eμ25, h⟩ := bd_1 h
  refine s_mu eμ25 ?_
  obtain rfl := Option.some.inj h
  exact s_vret (pc := 137) d_X7_note_137 rfl
set_option maxHeartbeats 4000000 in
set_option maxRecDepth 20000 in
theorem t_X7_note_b80 {l : Launch} {G : Gl} {n : Nat} {sh : Sh} {x : Mu} {k80 : Int32 → Mu → Option Mu} {v0 : Nat} {v1 : Int32} {μ : Mu} (hk80 : ∀ (v1 : Int32) (μ : Mu), k80 v1 μ = some x → Sj l G (QV G n sh x) c_X7_note n sh 0 0 μ 80 [some (vr v0), some (vi v1)] []) (h : m_X7_note_b80 sh k80 v0 v1 μ = some x) : Sj l G (QV G n sh x) c_X7_note n sh 0 0 μ 80 [some (vr v0), some (vi v1)] [] := by
  unfold m_X7_note_b80 at h
  refine s_iload_n (pc := 80) d_X7_note_80 rfl rfl ?_
  refine s_sipush (pc := 81) (v := 205) d_X7_note_81 (by decide) ?_
  refine s_icmp_ge (pc := 84) (tgt := 114) d_X7_note_84 (by decide) (fun c12 => ?_) (fun c12 => ?_)
  · have h := it_t c12 h
    refine s_mask [true, false] rfl ?_
    exact t_X7_note_b114 h
  · have h := it_f c12 h
    refine s_aload_n (pc := 87) d_X7_note_87 rfl rfl ?_
    obtain ⟨g13, h⟩ := gd_1 h
    refine s_getR (pc := 88) (k := 18) cl_7 d_X7_note_88 g13 (by decide) w_678 (rt_arr _) ?_
    obtain ⟨a14, ea14, h⟩ := bd_1 h
    refine s_topR ea14 ?_
    refine s_sipush (pc := 91) (v := 205) d_X7_note_91 (by decide) ?_
    refine s_aload_n (pc := 94) d_X7_note_94 rfl rfl ?_
    refine s_getI (pc := 95) (k := 20) cl_7 d_X7_note_95 g13 (by decide) w_680 rfl ?_
    refine s_imul (pc := 98) d_X7_note_98 ?_
    refine s_iload_n (pc := 99) d_X7_note_99 rfl rfl ?_
    refine s_iadd (pc := 100) d_X7_note_100 ?_
    refine s_aload_n (pc := 101) d_X7_note_101 rfl rfl ?_
    refine s_getR (pc := 102) (k := 16) cl_7 d_X7_note_102 g13 (by decide) w_676 (rt_arr _) ?_
    obtain ⟨a15, ea15, h⟩ := bd_1 h
    refine s_topR ea15 ?_
    refine s_iload_n (pc := 105) d_X7_note_105 rfl rfl ?_
    obtain ⟨g16, h⟩ := gd_1 h
    refine s_iald (pc := 106) d_X7_note_106 g16 ?_
    obtain ⟨w17, ew17, h⟩ := bd_1 h
    refine s_topI ew17 ?_
    obtain ⟨g18, h⟩ := gd_1 h
    refine s_iast (pc := 107) d_X7_note_107 g18 ?_
    obtain ⟨μ19, eμ19, h⟩ := bd_1 h
    refine s_mu eμ19 ?_
    obtain ⟨w20, ew20, h⟩ := bd_1 h
    refine s_iinc (pc := 108) (v := w20) (lc' := [some (vr v0), some (vi w20)]) d_X7_note_108 rfl (by rw [ew20]; rfl) (by decide) rfl ?_
    refine s_goto (pc := 111) (tgt := 80) d_X7_note_111 (by decide) ?_
    exact hk80 _ _ h
set_option maxHeartbeats 4000000 in
set_option maxRecDepth 20000 in
theorem t_X7_note_h80 {l : Launch} {G : Gl} {n : Nat} {sh : Sh} {x : Mu} {v0 : Nat} : ∀ (f : Nat) (v1 : Int32) (μ : Mu), m_X7_note_h80 sh v0 f v1 μ = some x → Sj l G (QV G n sh x) c_X7_note n sh 0 0 μ 80 [some (vr v0), some (vi v1)] [] := by
  intro f
  induction f with
  | zero =>
    intro v1 μ h
    cases h
  | succ f ih =>
    intro v1 μ h
    exact t_X7_note_b80 ih h
set_option maxHeartbeats 4000000 in
set_option maxRecDepth 20000 in
theorem t_X7_note_b78 {l : Launch} {G : Gl} {n : Nat} {sh : Sh} {x : Mu} {v0 : Nat} {μ : Mu} (h : m_X7_note_b78 sh v0 μ = some x) : Sj l G (QV G n sh x) c_X7_note n sh 0 0 μ 78 [some (vr v0), none] [] := by
  unfold m_X7_note_b78 at h
  refine s_iconst (pc := 78) (v := 0) d_X7_note_78 (by decide) ?_
  refine s_istore_n (pc := 79) (lc' := [some (vr v0), some (vi 0)]) d_X7_note_79 rfl (by decide) rfl ?_
  exact t_X7_note_h80 FU _ _ h
set_option maxHeartbeats 4000000 in
set_option maxRecDepth 20000 in
theorem t_X7_note_b68 {l : Launch} {G : Gl} {n : Nat} {sh : Sh} {x : Mu} {v0 : Nat} {μ : Mu} (h : m_X7_note_b68 sh v0 μ = some x) : Sj l G (QV G n sh x) c_X7_note n sh 0 0 μ 68 [some (vr v0), none] [] := by
  unfold m_X7_note_b68 at h
  refine s_aload_n (pc := 68) d_X7_note_68 rfl rfl ?_
  refine s_dup (pc := 69) d_X7_note_69 rfl ?_
  obtain ⟨g35, h⟩ := gd_1 h
  refine s_getI (pc := 70) (k := 20) cl_7 d_X7_note_70 g35 (by decide) w_680 rfl ?_
  refine s_iconst (pc := 73) (v := 1) d_X7_note_73 (by decide) ?_
  refine s_isub (pc := 74) d_X7_note_74 ?_
  refine s_putI (pc := 75) (k := 20) cl_7 d_X7_note_75 g35 (by decide) w_680 rfl rfl ?_
  obtain ⟨μ36, eμ36, h⟩ := bd_1 h
  refine s_mu eμ36 ?_
  exact t_X7_note_b78 h
set_option maxHeartbeats 4000000 in
set_option maxRecDepth 20000 in
theorem t_X7_note_b42 {l : Launch} {G : Gl} {n : Nat} {sh : Sh} {x : Mu} {k42 : Int32 → Mu → Option Mu} {v0 : Nat} {v1 : Int32} {μ : Mu} (hk42 : ∀ (v1 : Int32) (μ : Mu), k42 v1 μ = some x → Sj l G (QV G n sh x) c_X7_note n sh 0 0 μ 42 [some (vr v0), some (vi v1)] []) (h : m_X7_note_b42 sh k42 v0 v1 μ = some x) : Sj l G (QV G n sh x) c_X7_note n sh 0 0 μ 42 [some (vr v0), some (vi v1)] [] := by
  unfold m_X7_note_b42 at h
  refine s_iload_n (pc := 42) d_X7_note_42 rfl rfl ?_
  refine s_bipush (pc := 43) (v := 11) d_X7_note_43 (by decide) ?_
  refine s_icmp_ge (pc := 45) (tgt := 68) d_X7_note_45 (by decide) (fun c26 => ?_) (fun c26 => ?_)
  · have h := it_t c26 h
    refine s_mask [true, false] rfl ?_
    exact t_X7_note_b68 h
  · have h := it_f c26 h
    refine s_aload_n (pc := 48) d_X7_note_48 rfl rfl ?_
    obtain ⟨g27, h⟩ := gd_1 h
    refine s_getR (pc := 49) (k := 19) cl_7 d_X7_note_49 g27 (by decide) w_679 (rt_arr _) ?_
    obtain ⟨a28, ea28, h⟩ := bd_1 h
    refine s_topR ea28 ?_
    refine s_iload_n (pc := 52) d_X7_note_52 rfl rfl ?_
    refine s_aload_n (pc := 53) d_X7_note_53 rfl rfl ?_
    refine s_getR (pc := 54) (k := 19) cl_7 d_X7_note_54 g27 (by decide) w_679 (rt_arr _) ?_
    obtain ⟨a29, ea29, h⟩ := bd_1 h
    refine s_topR ea29 ?_
    refine s_iload_n (pc := 57) d_X7_note_57 rfl rfl ?_
    refine s_iconst (pc := 58) (v := 1) d_X7_note_58 (by decide) ?_
    refine s_iadd (pc := 59) d_X7_note_59 ?_
    obtain ⟨g30, h⟩ := gd_1 h
    refine s_lald (pc := 60) d_X7_note_60 g30 ?_
    obtain ⟨w31, ew31, h⟩ := bd_1 h
    refine s_topJ ew31 ?_
    obtain ⟨g32, h⟩ := gd_1 h
    refine s_last (pc := 61) d_X7_note_61 g32 ?_
    obtain ⟨μ33, eμ33, h⟩ := bd_1 h
    refine s_mu eμ33 ?_
    obtain ⟨w34, ew34, h⟩ := bd_1 h
    refine s_iinc (pc := 62) (v := w34) (lc' := [some (vr v0), some (vi w34)]) d_X7_note_62 rfl (by rw [ew34]; rfl) (by decide) rfl ?_
    refine s_goto (pc := 65) (tgt := 42) d_X7_note_65 (by decide) ?_
    exact hk42 _ _ h
set_option maxHeartbeats 4000000 in
set_option maxRecDepth 20000 in
theorem t_X7_note_h42 {l : Launch} {G : Gl} {n : Nat} {sh : Sh} {x : Mu} {v0 : Nat} : ∀ (f : Nat) (v1 : Int32) (μ : Mu), m_X7_note_h42 sh v0 f v1 μ = some x → Sj l G (QV G n sh x) c_X7_note n sh 0 0 μ 42 [some (vr v0), some (vi v1)] [] := by
  intro f
  induction f with
  | zero =>
    intro v1 μ h
    cases h
  | succ f ih =>
    intro v1 μ h
    exact t_X7_note_b42 ih h
set_option maxHeartbeats 4000000 in
set_option maxRecDepth 20000 in
theorem t_X7_note_b40 {l : Launch} {G : Gl} {n : Nat} {sh : Sh} {x : Mu} {v0 : Nat} {μ : Mu} (h : m_X7_note_b40 sh v0 μ = some x) : Sj l G (QV G n sh x) c_X7_note n sh 0 0 μ 40 [some (vr v0), none] [] := by
  unfold m_X7_note_b40 at h
  refine s_iconst (pc := 40) (v := 0) d_X7_note_40 (by decide) ?_
  refine s_istore_n (pc := 41) (lc' := [some (vr v0), some (vi 0)]) d_X7_note_41 rfl (by decide) rfl ?_
  exact t_X7_note_h42 FU _ _ h
set_option maxHeartbeats 4000000 in
set_option maxRecDepth 20000 in
theorem t_X7_note_b11 {l : Launch} {G : Gl} {n : Nat} {sh : Sh} {x : Mu} {k11 : Int32 → Mu → Option Mu} {v0 : Nat} {v1 : Int32} {μ : Mu} (hk11 : ∀ (v1 : Int32) (μ : Mu), k11 v1 μ = some x → Sj l G (QV G n sh x) c_X7_note n sh 0 0 μ 11 [some (vr v0), some (vi v1)] []) (h : m_X7_note_b11 sh k11 v0 v1 μ = some x) : Sj l G (QV G n sh x) c_X7_note n sh 0 0 μ 11 [some (vr v0), some (vi v1)] [] := by
  unfold m_X7_note_b11 at h
  refine s_iload_n (pc := 11) d_X7_note_11 rfl rfl ?_
  refine s_sipush (pc := 12) (v := 2255) d_X7_note_12 (by decide) ?_
  refine s_icmp_ge (pc := 15) (tgt := 40) d_X7_note_15 (by decide) (fun c3 => ?_) (fun c3 => ?_)
  · have h := it_t c3 h
    refine s_mask [true, false] rfl ?_
    exact t_X7_note_b40 h
  · have h := it_f c3 h
    refine s_aload_n (pc := 18) d_X7_note_18 rfl rfl ?_
    obtain ⟨g4, h⟩ := gd_1 h
    refine s_getR (pc := 19) (k := 18) cl_7 d_X7_note_19 g4 (by decide) w_678 (rt_arr _) ?_
    obtain ⟨a5, ea5, h⟩ := bd_1 h
    refine s_topR ea5 ?_
    refine s_iload_n (pc := 22) d_X7_note_22 rfl rfl ?_
    refine s_aload_n (pc := 23) d_X7_note_23 rfl rfl ?_
    refine s_getR (pc := 24) (k := 18) cl_7 d_X7_note_24 g4 (by decide) w_678 (rt_arr _) ?_
    obtain ⟨a6, ea6, h⟩ := bd_1 h
    refine s_topR ea6 ?_
    refine s_iload_n (pc := 27) d_X7_note_27 rfl rfl ?_
    refine s_sipush (pc := 28) (v := 205) d_X7_note_28 (by decide) ?_
    refine s_iadd (pc := 31) d_X7_note_31 ?_
    obtain ⟨g7, h⟩ := gd_1 h
    refine s_iald (pc := 32) d_X7_note_32 g7 ?_
    obtain ⟨w8, ew8, h⟩ := bd_1 h
    refine s_topI ew8 ?_
    obtain ⟨g9, h⟩ := gd_1 h
    refine s_iast (pc := 33) d_X7_note_33 g9 ?_
    obtain ⟨μ10, eμ10, h⟩ := bd_1 h
    refine s_mu eμ10 ?_
    obtain ⟨w11, ew11, h⟩ := bd_1 h
    refine s_iinc (pc := 34) (v := w11) (lc' := [some (vr v0), some (vi w11)]) d_X7_note_34 rfl (by rw [ew11]; rfl) (by decide) rfl ?_
    refine s_goto (pc := 37) (tgt := 11) d_X7_note_37 (by decide) ?_
    exact hk11 _ _ h
set_option maxHeartbeats 4000000 in
set_option maxRecDepth 20000 in
theorem t_X7_note_h11 {l : Launch} {G : Gl} {n : Nat} {sh : Sh} {x : Mu} {v0 : Nat} : ∀ (f : Nat) (v1 : Int32) (μ : Mu), m_X7_note_h11 sh v0 f v1 μ = some x → Sj l G (QV G n sh x) c_X7_note n sh 0 0 μ 11 [some (vr v0), some (vi v1)] [] := by
  intro f
  induction f with
  | zero =>
    intro v1 μ h
    cases h
  | succ f ih =>
    intro v1 μ h
    exact t_X7_note_b11 ih h
set_option maxHeartbeats 4000000 in
set_option maxRecDepth 20000 in
theorem t_X7_note {l : Launch} {G : Gl} {n : Nat} {sh : Sh} {x : Mu} {v0 : Nat} {μ : Mu} (h : m_X7_note sh v0 μ = some x) : Ct l G ⟨"StripsOfFourModel", "note", "()V"⟩ prog_9_method_28_code 2 none { frames := 0, cells := 0, slots := 0, locals := 0 } n sh μ [vr v0] none n sh x := by
  refine Ct.of (lc := [some (vr v0), none]) (by decide +kernel) (Nat.le_of_ble_eq_true rfl) rfl ?_
  show Sj l G (QV G n sh x) c_X7_note n sh 0 0 μ 0 [some (vr v0), none] []
  unfold m_X7_note at h
  refine s_aload_n (pc := 0) d_X7_note_0 rfl rfl ?_
  obtain ⟨g1, h⟩ := gd_1 h
  refine s_getI (pc := 1) (k := 20) cl_7 d_X7_note_1 g1 (by decide) w_680 rfl ?_
  refine s_bipush (pc := 4) (v := 12) d_X7_note_4 (by decide) ?_
  refine s_icmp_ne (pc := 6) (tgt := 78) d_X7_note_6 (by decide) (fun c2 => ?_) (fun c2 => ?_)
  · have h := it_f c2 h
    exact t_X7_note_b78 h
  · have h := it_t c2 h
    refine s_iconst (pc := 9) (v := 0) d_X7_note_9 (by decide) ?_
    refine s_istore_n (pc := 10) (lc' := [some (vr v0), some (vi 0)]) d_X7_note_10 rfl (by decide) rfl ?_
    exact t_X7_note_h11 FU _ _ h
/-! StripsOfFourModel.day -/
abbrev c_X7_day : Cf := (prog_9_method_36_code, 2, "StripsOfFourModel", "day", (some .int), { frames := 1, cells := 0, slots := 0, locals := 22 })
theorem d_X7_day_0 : decode prog_9_method_36_code 0 = .ok (.aload_n 0, 1) := by decide +kernel
theorem d_X7_day_1 : decode prog_9_method_36_code 1 = .ok (.iconst 0, 1) := by decide +kernel
theorem d_X7_day_2 : decode prog_9_method_36_code 2 = .ok (.putfield 66, 3) := by decide +kernel
theorem d_X7_day_5 : decode prog_9_method_36_code 5 = .ok (.aload_n 0, 1) := by decide +kernel
theorem d_X7_day_6 : decode prog_9_method_36_code 6 = .ok (.invokevirtual 154, 3) := by decide +kernel
theorem d_X7_day_9 : decode prog_9_method_36_code 9 = .ok (.aload_n 0, 1) := by decide +kernel
theorem d_X7_day_10 : decode prog_9_method_36_code 10 = .ok (.getfield 31, 3) := by decide +kernel
theorem d_X7_day_13 : decode prog_9_method_36_code 13 = .ok (.sipush 204, 3) := by decide +kernel
theorem d_X7_day_16 : decode prog_9_method_36_code 16 = .ok (.dup2, 1) := by decide +kernel
theorem d_X7_day_17 : decode prog_9_method_36_code 17 = .ok (.iaload, 1) := by decide +kernel
theorem d_X7_day_18 : decode prog_9_method_36_code 18 = .ok (.iconst 1, 1) := by decide +kernel
theorem d_X7_day_19 : decode prog_9_method_36_code 19 = .ok (.iadd, 1) := by decide +kernel
theorem d_X7_day_20 : decode prog_9_method_36_code 20 = .ok (.iastore, 1) := by decide +kernel
theorem d_X7_day_21 : decode prog_9_method_36_code 21 = .ok (.iconst 0, 1) := by decide +kernel
theorem d_X7_day_22 : decode prog_9_method_36_code 22 = .ok (.istore_n 1, 1) := by decide +kernel
theorem d_X7_day_23 : decode prog_9_method_36_code 23 = .ok (.iload_n 1, 1) := by decide +kernel
theorem d_X7_day_24 : decode prog_9_method_36_code 24 = .ok (.aload_n 0, 1) := by decide +kernel
theorem d_X7_day_25 : decode prog_9_method_36_code 25 = .ok (.getfield 31, 3) := by decide +kernel
theorem d_X7_day_28 : decode prog_9_method_36_code 28 = .ok (.sipush 202, 3) := by decide +kernel
theorem d_X7_day_31 : decode prog_9_method_36_code 31 = .ok (.iaload, 1) := by decide +kernel
theorem d_X7_day_32 : decode prog_9_method_36_code 32 = .ok (.if_icmp .ge 42, 3) := by decide +kernel
theorem d_X7_day_35 : decode prog_9_method_36_code 35 = .ok (.aload_n 0, 1) := by decide +kernel
theorem d_X7_day_36 : decode prog_9_method_36_code 36 = .ok (.getfield 31, 3) := by decide +kernel
theorem d_X7_day_39 : decode prog_9_method_36_code 39 = .ok (.bipush 50, 2) := by decide +kernel
theorem d_X7_day_41 : decode prog_9_method_36_code 41 = .ok (.bipush 19, 2) := by decide +kernel
theorem d_X7_day_43 : decode prog_9_method_36_code 43 = .ok (.iload_n 1, 1) := by decide +kernel
theorem d_X7_day_44 : decode prog_9_method_36_code 44 = .ok (.imul, 1) := by decide +kernel
theorem d_X7_day_45 : decode prog_9_method_36_code 45 = .ok (.iadd, 1) := by decide +kernel
theorem d_X7_day_46 : decode prog_9_method_36_code 46 = .ok (.iconst 2, 1) := by decide +kernel
theorem d_X7_day_47 : decode prog_9_method_36_code 47 = .ok (.iadd, 1) := by decide +kernel
theorem d_X7_day_48 : decode prog_9_method_36_code 48 = .ok (.dup2, 1) := by decide +kernel
theorem d_X7_day_49 : decode prog_9_method_36_code 49 = .ok (.iaload, 1) := by decide +kernel
theorem d_X7_day_50 : decode prog_9_method_36_code 50 = .ok (.aload_n 0, 1) := by decide +kernel
theorem d_X7_day_51 : decode prog_9_method_36_code 51 = .ok (.iload_n 1, 1) := by decide +kernel
theorem d_X7_day_52 : decode prog_9_method_36_code 52 = .ok (.iconst 2, 1) := by decide +kernel
theorem d_X7_day_53 : decode prog_9_method_36_code 53 = .ok (.invokevirtual 115, 3) := by decide +kernel
theorem d_X7_day_56 : decode prog_9_method_36_code 56 = .ok (.bipush 9, 2) := by decide +kernel
theorem d_X7_day_58 : decode prog_9_method_36_code 58 = .ok (.if_icmp .ge 7, 3) := by decide +kernel
theorem d_X7_day_61 : decode prog_9_method_36_code 61 = .ok (.iconst 1, 1) := by decide +kernel
theorem d_X7_day_62 : decode prog_9_method_36_code 62 = .ok (.goto 4, 3) := by decide +kernel
theorem d_X7_day_65 : decode prog_9_method_36_code 65 = .ok (.iconst 0, 1) := by decide +kernel
theorem d_X7_day_66 : decode prog_9_method_36_code 66 = .ok (.iadd, 1) := by decide +kernel
theorem d_X7_day_67 : decode prog_9_method_36_code 67 = .ok (.iastore, 1) := by decide +kernel
theorem d_X7_day_68 : decode prog_9_method_36_code 68 = .ok (.iinc 1 1, 3) := by decide +kernel
theorem d_X7_day_71 : decode prog_9_method_36_code 71 = .ok (.goto (-48), 3) := by decide +kernel
theorem d_X7_day_74 : decode prog_9_method_36_code 74 = .ok (.aload_n 0, 1) := by decide +kernel
theorem d_X7_day_75 : decode prog_9_method_36_code 75 = .ok (.getfield 31, 3) := by decide +kernel
theorem d_X7_day_78 : decode prog_9_method_36_code 78 = .ok (.sipush 204, 3) := by decide +kernel
theorem d_X7_day_81 : decode prog_9_method_36_code 81 = .ok (.iaload, 1) := by decide +kernel
theorem d_X7_day_82 : decode prog_9_method_36_code 82 = .ok (.ireturn, 1) := by decide +kernel
def m_X7_day_b66 (sh : Sh) (k23 : Int32 → Mu → Option (Int32 × Mu)) (v0 : Nat) (v1 : Int32) (s0 : Int32) (s1 : Int32) (s2 : Int32) (s3 : Nat) (μ : Mu) : Option (Int32 × Mu) :=
  gd (ix sh 8 s3 s2) <|
  bd (sI μ s3 s2.toNatClampNeg (s1 + s0)) fun μ24 =>
  bd (v1 + 1) fun w25 =>
  k23 w25 μ24
def m_X7_day_b74 (sh : Sh) (v0 : Nat) (μ : Mu) : Option (Int32 × Mu) :=
  gd (iz sh 7 v0) <|
  bd (gR μ v0 16) fun a20 =>
  gd (ix sh 8 a20 204) <|
  bd (gI μ a20 (204 : Int32).toNatClampNeg) fun w22 =>
  some (w22, μ)
def m_X7_day_b23 (sh : Sh) (k23 : Int32 → Mu → Option (Int32 × Mu)) (v0 : Nat) (v1 : Int32) (μ : Mu) : Option (Int32 × Mu) :=
  gd (iz sh 7 v0) <|
  bd (gR μ v0 16) fun a9 =>
  gd (ix sh 8 a9 202) <|
  bd (gI μ a9 (202 : Int32).toNatClampNeg) fun w11 =>
  if w11 ≤ v1 then
    m_X7_day_b74 sh v0 μ
  else
    bd (gR μ v0 16) fun a13 =>
    gd (ix sh 8 a13 ((50 + (19 * v1)) + 2)) <|
    bd (gI μ a13 ((50 + (19 * v1)) + 2).toNatClampNeg) fun w15 =>
    ca2 (m_X7_of sh v0 v1 2 μ) fun r16 μ17 =>
    if 9 ≤ r16 then
      m_X7_day_b66 sh k23 v0 v1 0 w15 ((50 + (19 * v1)) + 2) a13 μ17
    else
      m_X7_day_b66 sh k23 v0 v1 1 w15 ((50 + (19 * v1)) + 2) a13 μ17
def m_X7_day_h23 (sh : Sh) (v0 : Nat) : Nat → Int32 → Mu → Option (Int32 × Mu)
  | 0 => fun _ _ => none
  | f + 1 => fun v1 μ => m_X7_day_b23 sh (m_X7_day_h23 sh v0 f) v0 v1 μ
def m_X7_day (sh : Sh) (v0 : Nat) (μ : Mu) : Option (Int32 × Mu) :=
  gd (iz sh 7 v0) <|
  bd (sI μ v0 0 0) fun μ2 =>
  ca (m_X7_note sh v0 μ2) fun μ3 =>
  bd (gR μ3 v0 16) fun a4 =>
  gd (ix sh 8 a4 204) <|
  bd (gI μ3 a4 (204 : Int32).toNatClampNeg) fun w6 =>
  bd (sI μ3 a4 (204 : Int32).toNatClampNeg (w6 + 1)) fun μ7 =>
  m_X7_day_h23 sh v0 FU 0 μ7
set_option maxHeartbeats 4000000 in
set_option maxRecDepth 20000 in
theorem t_X7_day_b66 {l : Launch} {G : Gl} {n : Nat} {sh : Sh} {x : Int32 × Mu} {k23 : Int32 → Mu → Option (Int32 × Mu)} {v0 : Nat} {v1 : Int32} {s0 : Int32} {s1 : Int32} {s2 : Int32} {s3 : Nat} {μ : Mu} (hk23 : ∀ (v1 : Int32) (μ : Mu), k23 v1 μ = some x → Sj l G (QI G n sh x) c_X7_day n sh 0 0 μ 23 [some (vr v0), some (vi v1)] []) (h : m_X7_day_b66 sh k23 v0 v1 s0 s1 s2 s3 μ = some x) : Sj l G (QI G n sh x) c_X7_day n sh 0 0 μ 66 [some (vr v0), some (vi v1)] [vi s0, vi s1, vi s2, vr s3] := by
  unfold m_X7_day_b66 at h
  refine s_iadd (pc := 66) d_X7_day_66 ?_
  obtain ⟨g23, h⟩ := gd_1 h
  refine s_iast (pc := 67) d_X7_day_67 g23 ?_
  obtain ⟨μ24, eμ24, h⟩ := bd_1 h
  refine s_mu eμ24 ?_
  obtain ⟨w25, ew25, h⟩ := bd_1 h
  refine s_iinc (pc := 68) (v := w25) (lc' := [some (vr v0), some (vi w25)]) d_X7_day_68 rfl (by rw [ew25]; rfl) (by decide) rfl ?_
  refine s_goto (pc := 71) (tgt := 23) d_X7_day_71 (by decide) ?_
  exact hk23 _ _ h
set_option maxHeartbeats 4000000 in
set_option maxRecDepth 20000 in
theorem t_X7_day_b74 {l : Launch} {G : Gl} {n : Nat} {sh : Sh} {x : Int32 × Mu} {v0 : Nat} {μ : Mu} (h : m_X7_day_b74 sh v0 μ = some x) : Sj l G (QI G n sh x) c_X7_day n sh 0 0 μ 74 [some (vr v0), none] [] := by
  unfold m_X7_day_b74 at h
  refine s_aload_n (pc := 74) d_X7_day_74 rfl rfl ?_
  obtain ⟨g19, h⟩ := gd_1 h
  refine s_getR (pc := 75) (k := 16) cl_7 d_X7_day_75 g19 (by decide) w_676 (rt_arr _) ?_
  obtain ⟨a20, ea20, h⟩ := bd_1 h
  refine s_topR ea20 ?_
  refine s_sipush (pc := 78) (v := 204) d_X7_day_78 (by decide) ?_
  obtain ⟨g21, h⟩ := gd_1 h
  refine s_iald (pc := 81) d_X7_day_81 g21 ?_
  obtain ⟨w22, ew22, h⟩ := bd_1 h
  refine s_topI ew22 ?_
  obtain rfl := Option.some.inj h
  exact s_iret (pc := 82) d_X7_day_82 rfl
set_option maxHeartbeats 4000000 in
set_option maxRecDepth 20000 in
theorem t_X7_day_b23 {l : Launch} {G : Gl} {n : Nat} {sh : Sh} {x : Int32 × Mu} {k23 : Int32 → Mu → Option (Int32 × Mu)} {v0 : Nat} {v1 : Int32} {μ : Mu} (hk23 : ∀ (v1 : Int32) (μ : Mu), k23 v1 μ = some x → Sj l G (QI G n sh x) c_X7_day n sh 0 0 μ 23 [some (vr v0), some (vi v1)] []) (h : m_X7_day_b23 sh k23 v0 v1 μ = some x) : Sj l G (QI G n sh x) c_X7_day n sh 0 0 μ 23 [some (vr v0), some (vi v1)] [] := by
  unfold m_X7_day_b23 at h
  refine s_iload_n (pc := 23) d_X7_day_23 rfl rfl ?_
  refine s_aload_n (pc := 24) d_X7_day_24 rfl rfl ?_
  obtain ⟨g8, h⟩ := gd_1 h
  refine s_getR (pc := 25) (k := 16) cl_7 d_X7_day_25 g8 (by decide) w_676 (rt_arr _) ?_
  obtain ⟨a9, ea9, h⟩ := bd_1 h
  refine s_topR ea9 ?_
  refine s_sipush (pc := 28) (v := 202) d_X7_day_28 (by decide) ?_
  obtain ⟨g10, h⟩ := gd_1 h
  refine s_iald (pc := 31) d_X7_day_31 g10 ?_
  obtain ⟨w11, ew11, h⟩ := bd_1 h
  refine s_topI ew11 ?_
  refine s_icmp_ge (pc := 32) (tgt := 74) d_X7_day_32 (by decide) (fun c12 => ?_) (fun c12 => ?_)
  · have h := it_t c12 h
    refine s_mask [true, false] rfl ?_
    exact t_X7_day_b74 h
  · have h := it_f c12 h
    refine s_aload_n (pc := 35) d_X7_day_35 rfl rfl ?_
    refine s_getR (pc := 36) (k := 16) cl_7 d_X7_day_36 g8 (by decide) w_676 (rt_arr _) ?_
    obtain ⟨a13, ea13, h⟩ := bd_1 h
    refine s_topR ea13 ?_
    refine s_bipush (pc := 39) (v := 50) d_X7_day_39 (by decide) ?_
    refine s_bipush (pc := 41) (v := 19) d_X7_day_41 (by decide) ?_
    refine s_iload_n (pc := 43) d_X7_day_43 rfl rfl ?_
    refine s_imul (pc := 44) d_X7_day_44 ?_
    refine s_iadd (pc := 45) d_X7_day_45 ?_
    refine s_iconst (pc := 46) (v := 2) d_X7_day_46 (by decide) ?_
    refine s_iadd (pc := 47) d_X7_day_47 ?_
    refine s_dup2 (pc := 48) d_X7_day_48 rfl rfl ?_
    obtain ⟨g14, h⟩ := gd_1 h
    refine s_iald (pc := 49) d_X7_day_49 g14 ?_
    obtain ⟨w15, ew15, h⟩ := bd_1 h
    refine s_topI ew15 ?_
    refine s_aload_n (pc := 50) d_X7_day_50 rfl rfl ?_
    refine s_iload_n (pc := 51) d_X7_day_51 rfl rfl ?_
    refine s_iconst (pc := 52) (v := 2) d_X7_day_52 (by decide) ?_
    obtain ⟨r16, μ17, er16, h⟩ := ca2_1 h
    refine s_callV (pc := 53) (as := [vi v1, vi 2]) (st := [vi w15, vi ((50 + (19 * v1)) + 2), vr a13]) (vo := [vi r16]) (t_X7_of er16) cl_7 g8 d_X7_day_53 y_X7_of w_789 w_791 w_s15 ⟨by decide, by decide⟩ ⟨Nat.le_of_ble_eq_true rfl, Nat.le_of_ble_eq_true rfl⟩ (Nat.le_of_ble_eq_true rfl) rfl rfl rfl ?_
    refine s_as (kc' := 0) (js' := 0) (pc' := 56) (st' := [vi r16, vi w15, vi ((50 + (19 * v1)) + 2), vr a13]) ⟨rfl, rfl, rfl, rfl⟩ ?_
    refine s_bipush (pc := 56) (v := 9) d_X7_day_56 (by decide) ?_
    refine s_icmp_ge (pc := 58) (tgt := 65) d_X7_day_58 (by decide) (fun c18 => ?_) (fun c18 => ?_)
    · have h := it_t c18 h
      refine s_iconst (pc := 65) (v := 0) d_X7_day_65 (by decide) ?_
      exact t_X7_day_b66 hk23 h
    · have h := it_f c18 h
      refine s_iconst (pc := 61) (v := 1) d_X7_day_61 (by decide) ?_
      refine s_goto (pc := 62) (tgt := 66) d_X7_day_62 (by decide) ?_
      exact t_X7_day_b66 hk23 h
set_option maxHeartbeats 4000000 in
set_option maxRecDepth 20000 in
theorem t_X7_day_h23 {l : Launch} {G : Gl} {n : Nat} {sh : Sh} {x : Int32 × Mu} {v0 : Nat} : ∀ (f : Nat) (v1 : Int32) (μ : Mu), m_X7_day_h23 sh v0 f v1 μ = some x → Sj l G (QI G n sh x) c_X7_day n sh 0 0 μ 23 [some (vr v0), some (vi v1)] [] := by
  intro f
  induction f with
  | zero =>
    intro v1 μ h
    cases h
  | succ f ih =>
    intro v1 μ h
    exact t_X7_day_b23 ih h
set_option maxHeartbeats 4000000 in
set_option maxRecDepth 20000 in
theorem t_X7_day {l : Launch} {G : Gl} {n : Nat} {sh : Sh} {x : Int32 × Mu} {v0 : Nat} {μ : Mu} (h : m_X7_day sh v0 μ = some x) : Ct l G ⟨"StripsOfFourModel", "day", "()I"⟩ prog_9_method_36_code 2 (some .int) { frames := 1, cells := 0, slots := 0, locals := 22 } n sh μ [vr v0] (some (.int x.1)) n sh x.2 := by
  refine Ct.of (lc := [some (vr v0), none]) (by decide +kernel) (Nat.le_of_ble_eq_true rfl) rfl ?_
  show Sj l G (QI G n sh x) c_X7_day n sh 0 0 μ 0 [some (vr v0), none] []
  unfold m_X7_day at h
  refine s_aload_n (pc := 0) d_X7_day_0 rfl rfl ?_
  refine s_iconst (pc := 1) (v := 0) d_X7_day_1 (by decide) ?_
  obtain ⟨g1, h⟩ := gd_1 h
  refine s_putI (pc := 2) (k := 0) cl_7 d_X7_day_2 g1 (by decide) w_660 rfl rfl ?_
  obtain ⟨μ2, eμ2, h⟩ := bd_1 h
  refine s_mu eμ2 ?_
  refine s_aload_n (pc := 5) d_X7_day_5 rfl rfl ?_
  obtain ⟨μ3, eμ3, h⟩ := ca_1 h
  refine s_callV (pc := 6) (as := []) (st := []) (vo := []) (t_X7_note eμ3) cl_7 g1 d_X7_day_6 y_X7_note w_846 w_848 w_s22 ⟨by decide, by decide⟩ ⟨Nat.le_of_ble_eq_true rfl, Nat.le_of_ble_eq_true rfl⟩ (Nat.le_of_ble_eq_true rfl) rfl rfl rfl ?_
  refine s_as (kc' := 0) (js' := 0) (pc' := 9) (st' := []) ⟨rfl, rfl, rfl, rfl⟩ ?_
  refine s_aload_n (pc := 9) d_X7_day_9 rfl rfl ?_
  refine s_getR (pc := 10) (k := 16) cl_7 d_X7_day_10 g1 (by decide) w_676 (rt_arr _) ?_
  obtain ⟨a4, ea4, h⟩ := bd_1 h
  refine s_topR ea4 ?_
  refine s_sipush (pc := 13) (v := 204) d_X7_day_13 (by decide) ?_
  refine s_dup2 (pc := 16) d_X7_day_16 rfl rfl ?_
  obtain ⟨g5, h⟩ := gd_1 h
  refine s_iald (pc := 17) d_X7_day_17 g5 ?_
  obtain ⟨w6, ew6, h⟩ := bd_1 h
  refine s_topI ew6 ?_
  refine s_iconst (pc := 18) (v := 1) d_X7_day_18 (by decide) ?_
  refine s_iadd (pc := 19) d_X7_day_19 ?_
  refine s_iast (pc := 20) d_X7_day_20 g5 ?_
  obtain ⟨μ7, eμ7, h⟩ := bd_1 h
  refine s_mu eμ7 ?_
  refine s_iconst (pc := 21) (v := 0) d_X7_day_21 (by decide) ?_
  refine s_istore_n (pc := 22) (lc' := [some (vr v0), some (vi 0)]) d_X7_day_22 rfl (by decide) rfl ?_
  exact t_X7_day_h23 FU _ _ h
/-! StripsOfFourModel.many -/
abbrev c_X7_many : Cf := (prog_9_method_5_code, 3, "StripsOfFourModel", "many", (some .int), { frames := 0, cells := 0, slots := 0, locals := 0 })
theorem d_X7_many_0 : decode prog_9_method_5_code 0 = .ok (.iconst 0, 1) := by decide +kernel
theorem d_X7_many_1 : decode prog_9_method_5_code 1 = .ok (.istore_n 1, 1) := by decide +kernel
theorem d_X7_many_2 : decode prog_9_method_5_code 2 = .ok (.iconst 0, 1) := by decide +kernel
theorem d_X7_many_3 : decode prog_9_method_5_code 3 = .ok (.istore_n 2, 1) := by decide +kernel
theorem d_X7_many_4 : decode prog_9_method_5_code 4 = .ok (.iload_n 2, 1) := by decide +kernel
theorem d_X7_many_5 : decode prog_9_method_5_code 5 = .ok (.bipush 8, 2) := by decide +kernel
theorem d_X7_many_7 : decode prog_9_method_5_code 7 = .ok (.if_icmp .ge 17, 3) := by decide +kernel
theorem d_X7_many_10 : decode prog_9_method_5_code 10 = .ok (.iload_n 1, 1) := by decide +kernel
theorem d_X7_many_11 : decode prog_9_method_5_code 11 = .ok (.iload_n 0, 1) := by decide +kernel
theorem d_X7_many_12 : decode prog_9_method_5_code 12 = .ok (.iload_n 2, 1) := by decide +kernel
theorem d_X7_many_13 : decode prog_9_method_5_code 13 = .ok (.ishr, 1) := by decide +kernel
theorem d_X7_many_14 : decode prog_9_method_5_code 14 = .ok (.iconst 1, 1) := by decide +kernel
theorem d_X7_many_15 : decode prog_9_method_5_code 15 = .ok (.iand, 1) := by decide +kernel
theorem d_X7_many_16 : decode prog_9_method_5_code 16 = .ok (.iadd, 1) := by decide +kernel
theorem d_X7_many_17 : decode prog_9_method_5_code 17 = .ok (.istore_n 1, 1) := by decide +kernel
theorem d_X7_many_18 : decode prog_9_method_5_code 18 = .ok (.iinc 2 1, 3) := by decide +kernel
theorem d_X7_many_21 : decode prog_9_method_5_code 21 = .ok (.goto (-17), 3) := by decide +kernel
theorem d_X7_many_24 : decode prog_9_method_5_code 24 = .ok (.iload_n 1, 1) := by decide +kernel
theorem d_X7_many_25 : decode prog_9_method_5_code 25 = .ok (.ireturn, 1) := by decide +kernel
def m_X7_many_b4 (sh : Sh) (k4 : Int32 → Int32 → Mu → Option (Int32 × Mu)) (v0 : Int32) (v1 : Int32) (v2 : Int32) (μ : Mu) : Option (Int32 × Mu) :=
  if 8 ≤ v2 then
    some (v1, μ)
  else
    bd (v1 + ((v0 >>> (v2 &&& 31)) &&& 1)) fun w2 =>
    bd (v2 + 1) fun w3 =>
    k4 w2 w3 μ
def m_X7_many_h4 (sh : Sh) (v0 : Int32) : Nat → Int32 → Int32 → Mu → Option (Int32 × Mu)
  | 0 => fun _ _ _ => none
  | f + 1 => fun v1 v2 μ => m_X7_many_b4 sh (m_X7_many_h4 sh v0 f) v0 v1 v2 μ
def m_X7_many (sh : Sh) (v0 : Int32) (μ : Mu) : Option (Int32 × Mu) :=
  m_X7_many_h4 sh v0 FU 0 0 μ
set_option maxHeartbeats 4000000 in
set_option maxRecDepth 20000 in
theorem t_X7_many_b4 {l : Launch} {G : Gl} {n : Nat} {sh : Sh} {x : Int32 × Mu} {k4 : Int32 → Int32 → Mu → Option (Int32 × Mu)} {v0 : Int32} {v1 : Int32} {v2 : Int32} {μ : Mu} (hk4 : ∀ (v1 : Int32) (v2 : Int32) (μ : Mu), k4 v1 v2 μ = some x → Sj l G (QI G n sh x) c_X7_many n sh 0 0 μ 4 [some (vi v0), some (vi v1), some (vi v2)] []) (h : m_X7_many_b4 sh k4 v0 v1 v2 μ = some x) : Sj l G (QI G n sh x) c_X7_many n sh 0 0 μ 4 [some (vi v0), some (vi v1), some (vi v2)] [] := by
  unfold m_X7_many_b4 at h
  refine s_iload_n (pc := 4) d_X7_many_4 rfl rfl ?_
  refine s_bipush (pc := 5) (v := 8) d_X7_many_5 (by decide) ?_
  refine s_icmp_ge (pc := 7) (tgt := 24) d_X7_many_7 (by decide) (fun c1 => ?_) (fun c1 => ?_)
  · have h := it_t c1 h
    refine s_iload_n (pc := 24) d_X7_many_24 rfl rfl ?_
    obtain rfl := Option.some.inj h
    exact s_iret (pc := 25) d_X7_many_25 rfl
  · have h := it_f c1 h
    refine s_iload_n (pc := 10) d_X7_many_10 rfl rfl ?_
    refine s_iload_n (pc := 11) d_X7_many_11 rfl rfl ?_
    refine s_iload_n (pc := 12) d_X7_many_12 rfl rfl ?_
    refine s_ishr (pc := 13) d_X7_many_13 ?_
    refine s_iconst (pc := 14) (v := 1) d_X7_many_14 (by decide) ?_
    refine s_iand (pc := 15) d_X7_many_15 ?_
    refine s_iadd (pc := 16) d_X7_many_16 ?_
    obtain ⟨w2, ew2, h⟩ := bd_1 h
    refine s_topI ew2 ?_
    refine s_istore_n (pc := 17) (lc' := [some (vi v0), some (vi w2), some (vi v2)]) d_X7_many_17 rfl (by decide) rfl ?_
    obtain ⟨w3, ew3, h⟩ := bd_1 h
    refine s_iinc (pc := 18) (v := w3) (lc' := [some (vi v0), some (vi w2), some (vi w3)]) d_X7_many_18 rfl (by rw [ew3]; rfl) (by decide) rfl ?_
    refine s_goto (pc := 21) (tgt := 4) d_X7_many_21 (by decide) ?_
    exact hk4 _ _ _ h
set_option maxHeartbeats 4000000 in
set_option maxRecDepth 20000 in
theorem t_X7_many_h4 {l : Launch} {G : Gl} {n : Nat} {sh : Sh} {x : Int32 × Mu} {v0 : Int32} : ∀ (f : Nat) (v1 : Int32) (v2 : Int32) (μ : Mu), m_X7_many_h4 sh v0 f v1 v2 μ = some x → Sj l G (QI G n sh x) c_X7_many n sh 0 0 μ 4 [some (vi v0), some (vi v1), some (vi v2)] [] := by
  intro f
  induction f with
  | zero =>
    intro v1 v2 μ h
    cases h
  | succ f ih =>
    intro v1 v2 μ h
    exact t_X7_many_b4 ih h
set_option maxHeartbeats 4000000 in
set_option maxRecDepth 20000 in
theorem t_X7_many {l : Launch} {G : Gl} {n : Nat} {sh : Sh} {x : Int32 × Mu} {v0 : Int32} {μ : Mu} (h : m_X7_many sh v0 μ = some x) : Ct l G ⟨"StripsOfFourModel", "many", "(I)I"⟩ prog_9_method_5_code 3 (some .int) { frames := 0, cells := 0, slots := 0, locals := 0 } n sh μ [vi v0] (some (.int x.1)) n sh x.2 := by
  refine Ct.of (lc := [some (vi v0), none, none]) (by decide +kernel) (Nat.le_of_ble_eq_true rfl) rfl ?_
  show Sj l G (QI G n sh x) c_X7_many n sh 0 0 μ 0 [some (vi v0), none, none] []
  unfold m_X7_many at h
  refine s_iconst (pc := 0) (v := 0) d_X7_many_0 (by decide) ?_
  refine s_istore_n (pc := 1) (lc' := [some (vi v0), some (vi 0), none]) d_X7_many_1 rfl (by decide) rfl ?_
  refine s_iconst (pc := 2) (v := 0) d_X7_many_2 (by decide) ?_
  refine s_istore_n (pc := 3) (lc' := [some (vi v0), some (vi 0), some (vi 0)]) d_X7_many_3 rfl (by decide) rfl ?_
  exact t_X7_many_h4 FU _ _ _ h
/-! StripsOfFourModel.enter -/
abbrev c_X7_enter : Cf := (prog_9_method_29_code, 4, "StripsOfFourModel", "enter", (some .int), { frames := 2, cells := 0, slots := 0, locals := 46 })
theorem d_X7_enter_0 : decode prog_9_method_29_code 0 = .ok (.aload_n 0, 1) := by decide +kernel
theorem d_X7_enter_1 : decode prog_9_method_29_code 1 = .ok (.iconst 0, 1) := by decide +kernel
theorem d_X7_enter_2 : decode prog_9_method_29_code 2 = .ok (.putfield 66, 3) := by decide +kernel
theorem d_X7_enter_5 : decode prog_9_method_29_code 5 = .ok (.aload_n 0, 1) := by decide +kernel
theorem d_X7_enter_6 : decode prog_9_method_29_code 6 = .ok (.iload_n 1, 1) := by decide +kernel
theorem d_X7_enter_7 : decode prog_9_method_29_code 7 = .ok (.invokevirtual 133, 3) := by decide +kernel
theorem d_X7_enter_10 : decode prog_9_method_29_code 10 = .ok (.ifCond .ne 11, 3) := by decide +kernel
theorem d_X7_enter_13 : decode prog_9_method_29_code 13 = .ok (.aload_n 0, 1) := by decide +kernel
theorem d_X7_enter_14 : decode prog_9_method_29_code 14 = .ok (.iload_n 2, 1) := by decide +kernel
theorem d_X7_enter_15 : decode prog_9_method_29_code 15 = .ok (.invokevirtual 121, 3) := by decide +kernel
theorem d_X7_enter_18 : decode prog_9_method_29_code 18 = .ok (.ifCond .eq 5, 3) := by decide +kernel
theorem d_X7_enter_21 : decode prog_9_method_29_code 21 = .ok (.iconst (-1), 1) := by decide +kernel
theorem d_X7_enter_22 : decode prog_9_method_29_code 22 = .ok (.ireturn, 1) := by decide +kernel
theorem d_X7_enter_23 : decode prog_9_method_29_code 23 = .ok (.aload_n 0, 1) := by decide +kernel
theorem d_X7_enter_24 : decode prog_9_method_29_code 24 = .ok (.getfield 31, 3) := by decide +kernel
theorem d_X7_enter_27 : decode prog_9_method_29_code 27 = .ok (.iconst 5, 1) := by decide +kernel
theorem d_X7_enter_28 : decode prog_9_method_29_code 28 = .ok (.iload_n 1, 1) := by decide +kernel
theorem d_X7_enter_29 : decode prog_9_method_29_code 29 = .ok (.iadd, 1) := by decide +kernel
theorem d_X7_enter_30 : decode prog_9_method_29_code 30 = .ok (.iaload, 1) := by decide +kernel
theorem d_X7_enter_31 : decode prog_9_method_29_code 31 = .ok (.iconst 1, 1) := by decide +kernel
theorem d_X7_enter_32 : decode prog_9_method_29_code 32 = .ok (.iload_n 2, 1) := by decide +kernel
theorem d_X7_enter_33 : decode prog_9_method_29_code 33 = .ok (.isub, 1) := by decide +kernel
theorem d_X7_enter_34 : decode prog_9_method_29_code 34 = .ok (.if_icmp .ne 32, 3) := by decide +kernel
theorem d_X7_enter_37 : decode prog_9_method_29_code 37 = .ok (.aload_n 0, 1) := by decide +kernel
theorem d_X7_enter_38 : decode prog_9_method_29_code 38 = .ok (.getfield 31, 3) := by decide +kernel
theorem d_X7_enter_41 : decode prog_9_method_29_code 41 = .ok (.sipush 203, 3) := by decide +kernel
theorem d_X7_enter_44 : decode prog_9_method_29_code 44 = .ok (.iaload, 1) := by decide +kernel
theorem d_X7_enter_45 : decode prog_9_method_29_code 45 = .ok (.aload_n 0, 1) := by decide +kernel
theorem d_X7_enter_46 : decode prog_9_method_29_code 46 = .ok (.getfield 31, 3) := by decide +kernel
theorem d_X7_enter_49 : decode prog_9_method_29_code 49 = .ok (.bipush 10, 2) := by decide +kernel
theorem d_X7_enter_51 : decode prog_9_method_29_code 51 = .ok (.iload_n 1, 1) := by decide +kernel
theorem d_X7_enter_52 : decode prog_9_method_29_code 52 = .ok (.iadd, 1) := by decide +kernel
theorem d_X7_enter_53 : decode prog_9_method_29_code 53 = .ok (.iaload, 1) := by decide +kernel
theorem d_X7_enter_54 : decode prog_9_method_29_code 54 = .ok (.isub, 1) := by decide +kernel
theorem d_X7_enter_55 : decode prog_9_method_29_code 55 = .ok (.aload_n 0, 1) := by decide +kernel
theorem d_X7_enter_56 : decode prog_9_method_29_code 56 = .ok (.getfield 112, 3) := by decide +kernel
theorem d_X7_enter_59 : decode prog_9_method_29_code 59 = .ok (.if_icmp .ge 7, 3) := by decide +kernel
theorem d_X7_enter_62 : decode prog_9_method_29_code 62 = .ok (.iconst 1, 1) := by decide +kernel
theorem d_X7_enter_63 : decode prog_9_method_29_code 63 = .ok (.goto 4, 3) := by decide +kernel
theorem d_X7_enter_66 : decode prog_9_method_29_code 66 = .ok (.iconst 0, 1) := by decide +kernel
theorem d_X7_enter_67 : decode prog_9_method_29_code 67 = .ok (.istore_n 3, 1) := by decide +kernel
theorem d_X7_enter_68 : decode prog_9_method_29_code 68 = .ok (.aload_n 0, 1) := by decide +kernel
theorem d_X7_enter_69 : decode prog_9_method_29_code 69 = .ok (.getfield 31, 3) := by decide +kernel
theorem d_X7_enter_72 : decode prog_9_method_29_code 72 = .ok (.iload_n 1, 1) := by decide +kernel
theorem d_X7_enter_73 : decode prog_9_method_29_code 73 = .ok (.iaload, 1) := by decide +kernel
theorem d_X7_enter_74 : decode prog_9_method_29_code 74 = .ok (.bipush (-9), 2) := by decide +kernel
theorem d_X7_enter_76 : decode prog_9_method_29_code 76 = .ok (.if_icmp .ne 7, 3) := by decide +kernel
theorem d_X7_enter_79 : decode prog_9_method_29_code 79 = .ok (.iload_n 3, 1) := by decide +kernel
theorem d_X7_enter_80 : decode prog_9_method_29_code 80 = .ok (.ifCond .eq 6, 3) := by decide +kernel
theorem d_X7_enter_83 : decode prog_9_method_29_code 83 = .ok (.bipush (-3), 2) := by decide +kernel
theorem d_X7_enter_85 : decode prog_9_method_29_code 85 = .ok (.ireturn, 1) := by decide +kernel
theorem d_X7_enter_86 : decode prog_9_method_29_code 86 = .ok (.aload_n 0, 1) := by decide +kernel
theorem d_X7_enter_87 : decode prog_9_method_29_code 87 = .ok (.iload_n 2, 1) := by decide +kernel
theorem d_X7_enter_88 : decode prog_9_method_29_code 88 = .ok (.invokevirtual 129, 3) := by decide +kernel
theorem d_X7_enter_91 : decode prog_9_method_29_code 91 = .ok (.invokestatic 151, 3) := by decide +kernel
theorem d_X7_enter_94 : decode prog_9_method_29_code 94 = .ok (.iconst 4, 1) := by decide +kernel
theorem d_X7_enter_95 : decode prog_9_method_29_code 95 = .ok (.if_icmp .ne 6, 3) := by decide +kernel
theorem d_X7_enter_98 : decode prog_9_method_29_code 98 = .ok (.bipush (-4), 2) := by decide +kernel
theorem d_X7_enter_100 : decode prog_9_method_29_code 100 = .ok (.ireturn, 1) := by decide +kernel
theorem d_X7_enter_101 : decode prog_9_method_29_code 101 = .ok (.aload_n 0, 1) := by decide +kernel
theorem d_X7_enter_102 : decode prog_9_method_29_code 102 = .ok (.invokevirtual 154, 3) := by decide +kernel
theorem d_X7_enter_105 : decode prog_9_method_29_code 105 = .ok (.aload_n 0, 1) := by decide +kernel
theorem d_X7_enter_106 : decode prog_9_method_29_code 106 = .ok (.getfield 31, 3) := by decide +kernel
theorem d_X7_enter_109 : decode prog_9_method_29_code 109 = .ok (.iload_n 1, 1) := by decide +kernel
theorem d_X7_enter_110 : decode prog_9_method_29_code 110 = .ok (.iload_n 2, 1) := by decide +kernel
theorem d_X7_enter_111 : decode prog_9_method_29_code 111 = .ok (.iastore, 1) := by decide +kernel
theorem d_X7_enter_112 : decode prog_9_method_29_code 112 = .ok (.aload_n 0, 1) := by decide +kernel
theorem d_X7_enter_113 : decode prog_9_method_29_code 113 = .ok (.iload_n 2, 1) := by decide +kernel
theorem d_X7_enter_114 : decode prog_9_method_29_code 114 = .ok (.invokevirtual 129, 3) := by decide +kernel
theorem d_X7_enter_117 : decode prog_9_method_29_code 117 = .ok (.invokestatic 151, 3) := by decide +kernel
theorem d_X7_enter_120 : decode prog_9_method_29_code 120 = .ok (.ireturn, 1) := by decide +kernel
def m_X7_enter_b67 (sh : Sh) (v0 : Nat) (v1 : Int32) (v2 : Int32) (s0 : Int32) (μ : Mu) : Option (Int32 × Mu) :=
  gd (iz sh 7 v0) <|
  bd (gR μ v0 16) fun a21 =>
  gd (ix sh 8 a21 v1) <|
  bd (gI μ a21 v1.toNatClampNeg) fun w23 =>
  if w23 = (-9) then
    if s0 = 0 then
      ca2 (m_X7_inOf sh v0 v2 μ) fun r26 μ27 =>
      ca2 (m_X7_many sh r26 μ27) fun r28 μ29 =>
      if r28 = 4 then
        some ((-4), μ29)
      else
        ca (m_X7_note sh v0 μ29) fun μ31 =>
        bd (gR μ31 v0 16) fun a32 =>
        gd (ix sh 8 a32 v1) <|
        bd (sI μ31 a32 v1.toNatClampNeg v2) fun μ34 =>
        ca2 (m_X7_inOf sh v0 v2 μ34) fun r35 μ36 =>
        ca2 (m_X7_many sh r35 μ36) fun r37 μ38 =>
        some (r37, μ38)
    else
      some ((-3), μ)
  else
    some ((-3), μ)
def m_X7_enter_b66 (sh : Sh) (v0 : Nat) (v1 : Int32) (v2 : Int32) (μ : Mu) : Option (Int32 × Mu) :=
  m_X7_enter_b67 sh v0 v1 v2 0 μ
def m_X7_enter (sh : Sh) (v0 : Nat) (v1 : Int32) (v2 : Int32) (μ : Mu) : Option (Int32 × Mu) :=
  gd (iz sh 7 v0) <|
  bd (sI μ v0 0 0) fun μ2 =>
  ca2 (m_X7_noOne sh v0 v1 μ2) fun r3 μ4 =>
  if r3 = 0 then
    ca2 (m_X7_noBooth sh v0 v2 μ4) fun r6 μ7 =>
    if r6 = 0 then
      bd (gR μ7 v0 16) fun a9 =>
      gd (ix sh 8 a9 (5 + v1)) <|
      bd (gI μ7 a9 (5 + v1).toNatClampNeg) fun w11 =>
      if w11 = (1 - v2) then
        bd (gR μ7 v0 16) fun a13 =>
        gd (ix sh 8 a13 203) <|
        bd (gI μ7 a13 (203 : Int32).toNatClampNeg) fun w15 =>
        bd (gR μ7 v0 16) fun a16 =>
        gd (ix sh 8 a16 (10 + v1)) <|
        bd (gI μ7 a16 (10 + v1).toNatClampNeg) fun w18 =>
        if (gI μ7 v0 4) ≤ (w15 - w18) then
          m_X7_enter_b66 sh v0 v1 v2 μ7
        else
          m_X7_enter_b67 sh v0 v1 v2 1 μ7
      else
        m_X7_enter_b66 sh v0 v1 v2 μ7
    else
      some ((-1), μ7)
  else
    some ((-1), μ4)
set_option maxHeartbeats 4000000 in
set_option maxRecDepth 20000 in
theorem t_X7_enter_b67 {l : Launch} {G : Gl} {n : Nat} {sh : Sh} {x : Int32 × Mu} {v0 : Nat} {v1 : Int32} {v2 : Int32} {s0 : Int32} {μ : Mu} (h : m_X7_enter_b67 sh v0 v1 v2 s0 μ = some x) : Sj l G (QI G n sh x) c_X7_enter n sh 0 0 μ 67 [some (vr v0), some (vi v1), some (vi v2), none] [vi s0] := by
  unfold m_X7_enter_b67 at h
  refine s_istore_n (pc := 67) (lc' := [some (vr v0), some (vi v1), some (vi v2), some (vi s0)]) d_X7_enter_67 rfl (by decide) rfl ?_
  refine s_aload_n (pc := 68) d_X7_enter_68 rfl rfl ?_
  obtain ⟨g20, h⟩ := gd_1 h
  refine s_getR (pc := 69) (k := 16) cl_7 d_X7_enter_69 g20 (by decide) w_676 (rt_arr _) ?_
  obtain ⟨a21, ea21, h⟩ := bd_1 h
  refine s_topR ea21 ?_
  refine s_iload_n (pc := 72) d_X7_enter_72 rfl rfl ?_
  obtain ⟨g22, h⟩ := gd_1 h
  refine s_iald (pc := 73) d_X7_enter_73 g22 ?_
  obtain ⟨w23, ew23, h⟩ := bd_1 h
  refine s_topI ew23 ?_
  refine s_bipush (pc := 74) (v := (-9)) d_X7_enter_74 (by decide) ?_
  refine s_icmp_ne (pc := 76) (tgt := 83) d_X7_enter_76 (by decide) (fun c24 => ?_) (fun c24 => ?_)
  · have h := it_f c24 h
    refine s_bipush (pc := 83) (v := (-3)) d_X7_enter_83 (by decide) ?_
    obtain rfl := Option.some.inj h
    exact s_iret (pc := 85) d_X7_enter_85 rfl
  · have h := it_t c24 h
    refine s_iload_n (pc := 79) d_X7_enter_79 rfl rfl ?_
    refine s_if_eq (pc := 80) (tgt := 86) d_X7_enter_80 (by decide) (fun c25 => ?_) (fun c25 => ?_)
    · have h := it_t c25 h
      refine s_aload_n (pc := 86) d_X7_enter_86 rfl rfl ?_
      refine s_iload_n (pc := 87) d_X7_enter_87 rfl rfl ?_
      obtain ⟨r26, μ27, er26, h⟩ := ca2_1 h
      refine s_callV (pc := 88) (as := [vi v2]) (st := []) (vo := [vi r26]) (t_X7_inOf er26) cl_7 g20 d_X7_enter_88 y_X7_inOf w_805 w_807 w_s18 ⟨by decide, by decide⟩ ⟨Nat.le_of_ble_eq_true rfl, Nat.le_of_ble_eq_true rfl⟩ (Nat.le_of_ble_eq_true rfl) rfl rfl rfl ?_
      refine s_as (kc' := 0) (js' := 0) (pc' := 91) (st' := [vi r26]) ⟨rfl, rfl, rfl, rfl⟩ ?_
      obtain ⟨r28, μ29, er28, h⟩ := ca2_1 h
      refine s_callS (pc := 91) (as := [vi r26]) (st := []) (vo := [vi r28]) (t_X7_many er28) d_X7_enter_91 y_X7_many w_843 w_844 ⟨by decide, by decide⟩ ⟨Nat.le_of_ble_eq_true rfl, Nat.le_of_ble_eq_true rfl⟩ (Nat.le_of_ble_eq_true rfl) rfl rfl rfl ?_
      refine s_as (kc' := 0) (js' := 0) (pc' := 94) (st' := [vi r28]) ⟨rfl, rfl, rfl, rfl⟩ ?_
      refine s_iconst (pc := 94) (v := 4) d_X7_enter_94 (by decide) ?_
      refine s_icmp_ne (pc := 95) (tgt := 101) d_X7_enter_95 (by decide) (fun c30 => ?_) (fun c30 => ?_)
      · have h := it_f c30 h
        refine s_aload_n (pc := 101) d_X7_enter_101 rfl rfl ?_
        obtain ⟨μ31, eμ31, h⟩ := ca_1 h
        refine s_callV (pc := 102) (as := []) (st := []) (vo := []) (t_X7_note eμ31) cl_7 g20 d_X7_enter_102 y_X7_note w_846 w_848 w_s22 ⟨by decide, by decide⟩ ⟨Nat.le_of_ble_eq_true rfl, Nat.le_of_ble_eq_true rfl⟩ (Nat.le_of_ble_eq_true rfl) rfl rfl rfl ?_
        refine s_as (kc' := 0) (js' := 0) (pc' := 105) (st' := []) ⟨rfl, rfl, rfl, rfl⟩ ?_
        refine s_aload_n (pc := 105) d_X7_enter_105 rfl rfl ?_
        refine s_getR (pc := 106) (k := 16) cl_7 d_X7_enter_106 g20 (by decide) w_676 (rt_arr _) ?_
        obtain ⟨a32, ea32, h⟩ := bd_1 h
        refine s_topR ea32 ?_
        refine s_iload_n (pc := 109) d_X7_enter_109 rfl rfl ?_
        refine s_iload_n (pc := 110) d_X7_enter_110 rfl rfl ?_
        obtain ⟨g33, h⟩ := gd_1 h
        refine s_iast (pc := 111) d_X7_enter_111 g33 ?_
        obtain ⟨μ34, eμ34, h⟩ := bd_1 h
        refine s_mu eμ34 ?_
        refine s_aload_n (pc := 112) d_X7_enter_112 rfl rfl ?_
        refine s_iload_n (pc := 113) d_X7_enter_113 rfl rfl ?_
        obtain ⟨r35, μ36, er35, h⟩ := ca2_1 h
        refine s_callV (pc := 114) (as := [vi v2]) (st := []) (vo := [vi r35]) (t_X7_inOf er35) cl_7 g20 d_X7_enter_114 y_X7_inOf w_805 w_807 w_s18 ⟨by decide, by decide⟩ ⟨Nat.le_of_ble_eq_true rfl, Nat.le_of_ble_eq_true rfl⟩ (Nat.le_of_ble_eq_true rfl) rfl rfl rfl ?_
        refine s_as (kc' := 0) (js' := 0) (pc' := 117) (st' := [vi r35]) ⟨rfl, rfl, rfl, rfl⟩ ?_
        obtain ⟨r37, μ38, er37, h⟩ := ca2_1 h
        refine s_callS (pc := 117) (as := [vi r35]) (st := []) (vo := [vi r37]) (t_X7_many er37) d_X7_enter_117 y_X7_many w_843 w_844 ⟨by decide, by decide⟩ ⟨Nat.le_of_ble_eq_true rfl, Nat.le_of_ble_eq_true rfl⟩ (Nat.le_of_ble_eq_true rfl) rfl rfl rfl ?_
        refine s_as (kc' := 0) (js' := 0) (pc' := 120) (st' := [vi r37]) ⟨rfl, rfl, rfl, rfl⟩ ?_
        obtain rfl := Option.some.inj h
        exact s_iret (pc := 120) d_X7_enter_120 rfl
      · have h := it_t c30 h
        refine s_bipush (pc := 98) (v := (-4)) d_X7_enter_98 (by decide) ?_
        obtain rfl := Option.some.inj h
        exact s_iret (pc := 100) d_X7_enter_100 rfl
    · have h := it_f c25 h
      refine s_bipush (pc := 83) (v := (-3)) d_X7_enter_83 (by decide) ?_
      obtain rfl := Option.some.inj h
      exact s_iret (pc := 85) d_X7_enter_85 rfl
set_option maxHeartbeats 4000000 in
set_option maxRecDepth 20000 in
theorem t_X7_enter_b66 {l : Launch} {G : Gl} {n : Nat} {sh : Sh} {x : Int32 × Mu} {v0 : Nat} {v1 : Int32} {v2 : Int32} {μ : Mu} (h : m_X7_enter_b66 sh v0 v1 v2 μ = some x) : Sj l G (QI G n sh x) c_X7_enter n sh 0 0 μ 66 [some (vr v0), some (vi v1), some (vi v2), none] [] := by
  unfold m_X7_enter_b66 at h
  refine s_iconst (pc := 66) (v := 0) d_X7_enter_66 (by decide) ?_
  exact t_X7_enter_b67 h
set_option maxHeartbeats 4000000 in
set_option maxRecDepth 20000 in
theorem t_X7_enter {l : Launch} {G : Gl} {n : Nat} {sh : Sh} {x : Int32 × Mu} {v0 : Nat} {v1 : Int32} {v2 : Int32} {μ : Mu} (h : m_X7_enter sh v0 v1 v2 μ = some x) : Ct l G ⟨"StripsOfFourModel", "enter", "(II)I"⟩ prog_9_method_29_code 4 (some .int) { frames := 2, cells := 0, slots := 0, locals := 46 } n sh μ [vr v0, vi v1, vi v2] (some (.int x.1)) n sh x.2 := by
  refine Ct.of (lc := [some (vr v0), some (vi v1), some (vi v2), none]) (by decide +kernel) (Nat.le_of_ble_eq_true rfl) rfl ?_
  show Sj l G (QI G n sh x) c_X7_enter n sh 0 0 μ 0 [some (vr v0), some (vi v1), some (vi v2), none] []
  unfold m_X7_enter at h
  refine s_aload_n (pc := 0) d_X7_enter_0 rfl rfl ?_
  refine s_iconst (pc := 1) (v := 0) d_X7_enter_1 (by decide) ?_
  obtain ⟨g1, h⟩ := gd_1 h
  refine s_putI (pc := 2) (k := 0) cl_7 d_X7_enter_2 g1 (by decide) w_660 rfl rfl ?_
  obtain ⟨μ2, eμ2, h⟩ := bd_1 h
  refine s_mu eμ2 ?_
  refine s_aload_n (pc := 5) d_X7_enter_5 rfl rfl ?_
  refine s_iload_n (pc := 6) d_X7_enter_6 rfl rfl ?_
  obtain ⟨r3, μ4, er3, h⟩ := ca2_1 h
  refine s_callV (pc := 7) (as := [vi v1]) (st := []) (vo := [vi r3]) (t_X7_noOne er3) cl_7 g1 d_X7_enter_7 y_X7_noOne w_813 w_815 w_s19 ⟨by decide, by decide⟩ ⟨Nat.le_of_ble_eq_true rfl, Nat.le_of_ble_eq_true rfl⟩ (Nat.le_of_ble_eq_true rfl) rfl rfl rfl ?_
  refine s_as (kc' := 0) (js' := 0) (pc' := 10) (st' := [vi r3]) ⟨rfl, rfl, rfl, rfl⟩ ?_
  refine s_if_ne (pc := 10) (tgt := 21) d_X7_enter_10 (by decide) (fun c5 => ?_) (fun c5 => ?_)
  · have h := it_f c5 h
    refine s_iconst (pc := 21) (v := (-1)) d_X7_enter_21 (by decide) ?_
    obtain rfl := Option.some.inj h
    exact s_iret (pc := 22) d_X7_enter_22 rfl
  · have h := it_t c5 h
    refine s_aload_n (pc := 13) d_X7_enter_13 rfl rfl ?_
    refine s_iload_n (pc := 14) d_X7_enter_14 rfl rfl ?_
    obtain ⟨r6, μ7, er6, h⟩ := ca2_1 h
    refine s_callV (pc := 15) (as := [vi v2]) (st := []) (vo := [vi r6]) (t_X7_noBooth er6) cl_7 g1 d_X7_enter_15 y_X7_noBooth w_797 w_799 w_s16 ⟨by decide, by decide⟩ ⟨Nat.le_of_ble_eq_true rfl, Nat.le_of_ble_eq_true rfl⟩ (Nat.le_of_ble_eq_true rfl) rfl rfl rfl ?_
    refine s_as (kc' := 0) (js' := 0) (pc' := 18) (st' := [vi r6]) ⟨rfl, rfl, rfl, rfl⟩ ?_
    refine s_if_eq (pc := 18) (tgt := 23) d_X7_enter_18 (by decide) (fun c8 => ?_) (fun c8 => ?_)
    · have h := it_t c8 h
      refine s_aload_n (pc := 23) d_X7_enter_23 rfl rfl ?_
      refine s_getR (pc := 24) (k := 16) cl_7 d_X7_enter_24 g1 (by decide) w_676 (rt_arr _) ?_
      obtain ⟨a9, ea9, h⟩ := bd_1 h
      refine s_topR ea9 ?_
      refine s_iconst (pc := 27) (v := 5) d_X7_enter_27 (by decide) ?_
      refine s_iload_n (pc := 28) d_X7_enter_28 rfl rfl ?_
      refine s_iadd (pc := 29) d_X7_enter_29 ?_
      obtain ⟨g10, h⟩ := gd_1 h
      refine s_iald (pc := 30) d_X7_enter_30 g10 ?_
      obtain ⟨w11, ew11, h⟩ := bd_1 h
      refine s_topI ew11 ?_
      refine s_iconst (pc := 31) (v := 1) d_X7_enter_31 (by decide) ?_
      refine s_iload_n (pc := 32) d_X7_enter_32 rfl rfl ?_
      refine s_isub (pc := 33) d_X7_enter_33 ?_
      refine s_icmp_ne (pc := 34) (tgt := 66) d_X7_enter_34 (by decide) (fun c12 => ?_) (fun c12 => ?_)
      · have h := it_f c12 h
        exact t_X7_enter_b66 h
      · have h := it_t c12 h
        refine s_aload_n (pc := 37) d_X7_enter_37 rfl rfl ?_
        refine s_getR (pc := 38) (k := 16) cl_7 d_X7_enter_38 g1 (by decide) w_676 (rt_arr _) ?_
        obtain ⟨a13, ea13, h⟩ := bd_1 h
        refine s_topR ea13 ?_
        refine s_sipush (pc := 41) (v := 203) d_X7_enter_41 (by decide) ?_
        obtain ⟨g14, h⟩ := gd_1 h
        refine s_iald (pc := 44) d_X7_enter_44 g14 ?_
        obtain ⟨w15, ew15, h⟩ := bd_1 h
        refine s_topI ew15 ?_
        refine s_aload_n (pc := 45) d_X7_enter_45 rfl rfl ?_
        refine s_getR (pc := 46) (k := 16) cl_7 d_X7_enter_46 g1 (by decide) w_676 (rt_arr _) ?_
        obtain ⟨a16, ea16, h⟩ := bd_1 h
        refine s_topR ea16 ?_
        refine s_bipush (pc := 49) (v := 10) d_X7_enter_49 (by decide) ?_
        refine s_iload_n (pc := 51) d_X7_enter_51 rfl rfl ?_
        refine s_iadd (pc := 52) d_X7_enter_52 ?_
        obtain ⟨g17, h⟩ := gd_1 h
        refine s_iald (pc := 53) d_X7_enter_53 g17 ?_
        obtain ⟨w18, ew18, h⟩ := bd_1 h
        refine s_topI ew18 ?_
        refine s_isub (pc := 54) d_X7_enter_54 ?_
        refine s_aload_n (pc := 55) d_X7_enter_55 rfl rfl ?_
        refine s_getI (pc := 56) (k := 4) cl_7 d_X7_enter_56 g1 (by decide) w_664 rfl ?_
        refine s_icmp_ge (pc := 59) (tgt := 66) d_X7_enter_59 (by decide) (fun c19 => ?_) (fun c19 => ?_)
        · have h := it_t c19 h
          exact t_X7_enter_b66 h
        · have h := it_f c19 h
          refine s_iconst (pc := 62) (v := 1) d_X7_enter_62 (by decide) ?_
          refine s_goto (pc := 63) (tgt := 67) d_X7_enter_63 (by decide) ?_
          exact t_X7_enter_b67 h
    · have h := it_f c8 h
      refine s_iconst (pc := 21) (v := (-1)) d_X7_enter_21 (by decide) ?_
      obtain rfl := Option.some.inj h
      exact s_iret (pc := 22) d_X7_enter_22 rfl
/-! StripsOfFourModel.eyes -/
abbrev c_X7_eyes : Cf := (prog_9_method_54_code, 6, "StripsOfFourModel", "eyes", (some .int), { frames := 2, cells := 0, slots := 0, locals := 46 })
theorem d_X7_eyes_0 : decode prog_9_method_54_code 0 = .ok (.aload_n 0, 1) := by decide +kernel
theorem d_X7_eyes_1 : decode prog_9_method_54_code 1 = .ok (.iconst 0, 1) := by decide +kernel
theorem d_X7_eyes_2 : decode prog_9_method_54_code 2 = .ok (.putfield 66, 3) := by decide +kernel
theorem d_X7_eyes_5 : decode prog_9_method_54_code 5 = .ok (.aload_n 0, 1) := by decide +kernel
theorem d_X7_eyes_6 : decode prog_9_method_54_code 6 = .ok (.iload_n 1, 1) := by decide +kernel
theorem d_X7_eyes_7 : decode prog_9_method_54_code 7 = .ok (.invokevirtual 133, 3) := by decide +kernel
theorem d_X7_eyes_10 : decode prog_9_method_54_code 10 = .ok (.ifCond .eq 5, 3) := by decide +kernel
theorem d_X7_eyes_13 : decode prog_9_method_54_code 13 = .ok (.iconst (-1), 1) := by decide +kernel
theorem d_X7_eyes_14 : decode prog_9_method_54_code 14 = .ok (.ireturn, 1) := by decide +kernel
theorem d_X7_eyes_15 : decode prog_9_method_54_code 15 = .ok (.iload_n 2, 1) := by decide +kernel
theorem d_X7_eyes_16 : decode prog_9_method_54_code 16 = .ok (.i2l, 1) := by decide +kernel
theorem d_X7_eyes_17 : decode prog_9_method_54_code 17 = .ok (.lconst 0, 1) := by decide +kernel
theorem d_X7_eyes_18 : decode prog_9_method_54_code 18 = .ok (.lconst 1, 1) := by decide +kernel
theorem d_X7_eyes_19 : decode prog_9_method_54_code 19 = .ok (.invokestatic 73, 3) := by decide +kernel
theorem d_X7_eyes_22 : decode prog_9_method_54_code 22 = .ok (.ifCond .ne 6, 3) := by decide +kernel
theorem d_X7_eyes_25 : decode prog_9_method_54_code 25 = .ok (.bipush (-2), 2) := by decide +kernel
theorem d_X7_eyes_27 : decode prog_9_method_54_code 27 = .ok (.ireturn, 1) := by decide +kernel
theorem d_X7_eyes_28 : decode prog_9_method_54_code 28 = .ok (.iconst 0, 1) := by decide +kernel
theorem d_X7_eyes_29 : decode prog_9_method_54_code 29 = .ok (.istore_n 3, 1) := by decide +kernel
theorem d_X7_eyes_30 : decode prog_9_method_54_code 30 = .ok (.iconst 0, 1) := by decide +kernel
theorem d_X7_eyes_31 : decode prog_9_method_54_code 31 = .ok (.istore 4, 2) := by decide +kernel
theorem d_X7_eyes_33 : decode prog_9_method_54_code 33 = .ok (.iload 4, 2) := by decide +kernel
theorem d_X7_eyes_35 : decode prog_9_method_54_code 35 = .ok (.aload_n 0, 1) := by decide +kernel
theorem d_X7_eyes_36 : decode prog_9_method_54_code 36 = .ok (.getfield 31, 3) := by decide +kernel
theorem d_X7_eyes_39 : decode prog_9_method_54_code 39 = .ok (.sipush 202, 3) := by decide +kernel
theorem d_X7_eyes_42 : decode prog_9_method_54_code 42 = .ok (.iaload, 1) := by decide +kernel
theorem d_X7_eyes_43 : decode prog_9_method_54_code 43 = .ok (.if_icmp .ge 48, 3) := by decide +kernel
theorem d_X7_eyes_46 : decode prog_9_method_54_code 46 = .ok (.iconst 0, 1) := by decide +kernel
theorem d_X7_eyes_47 : decode prog_9_method_54_code 47 = .ok (.istore 5, 2) := by decide +kernel
theorem d_X7_eyes_49 : decode prog_9_method_54_code 49 = .ok (.iload 5, 2) := by decide +kernel
theorem d_X7_eyes_51 : decode prog_9_method_54_code 51 = .ok (.iconst 4, 1) := by decide +kernel
theorem d_X7_eyes_52 : decode prog_9_method_54_code 52 = .ok (.if_icmp .ge 33, 3) := by decide +kernel
theorem d_X7_eyes_55 : decode prog_9_method_54_code 55 = .ok (.iload_n 3, 1) := by decide +kernel
theorem d_X7_eyes_56 : decode prog_9_method_54_code 56 = .ok (.aload_n 0, 1) := by decide +kernel
theorem d_X7_eyes_57 : decode prog_9_method_54_code 57 = .ok (.iload 4, 2) := by decide +kernel
theorem d_X7_eyes_59 : decode prog_9_method_54_code 59 = .ok (.iload 5, 2) := by decide +kernel
theorem d_X7_eyes_61 : decode prog_9_method_54_code 61 = .ok (.iload_n 2, 1) := by decide +kernel
theorem d_X7_eyes_62 : decode prog_9_method_54_code 62 = .ok (.ifCond .ne 7, 3) := by decide +kernel
theorem d_X7_eyes_65 : decode prog_9_method_54_code 65 = .ok (.iconst 1, 1) := by decide +kernel
theorem d_X7_eyes_66 : decode prog_9_method_54_code 66 = .ok (.goto 4, 3) := by decide +kernel
theorem d_X7_eyes_69 : decode prog_9_method_54_code 69 = .ok (.iconst 3, 1) := by decide +kernel
theorem d_X7_eyes_70 : decode prog_9_method_54_code 70 = .ok (.invokevirtual 141, 3) := by decide +kernel
theorem d_X7_eyes_73 : decode prog_9_method_54_code 73 = .ok (.iload_n 1, 1) := by decide +kernel
theorem d_X7_eyes_74 : decode prog_9_method_54_code 74 = .ok (.ishr, 1) := by decide +kernel
theorem d_X7_eyes_75 : decode prog_9_method_54_code 75 = .ok (.iconst 1, 1) := by decide +kernel
theorem d_X7_eyes_76 : decode prog_9_method_54_code 76 = .ok (.iand, 1) := by decide +kernel
theorem d_X7_eyes_77 : decode prog_9_method_54_code 77 = .ok (.iadd, 1) := by decide +kernel
theorem d_X7_eyes_78 : decode prog_9_method_54_code 78 = .ok (.istore_n 3, 1) := by decide +kernel
theorem d_X7_eyes_79 : decode prog_9_method_54_code 79 = .ok (.iinc 5 1, 3) := by decide +kernel
theorem d_X7_eyes_82 : decode prog_9_method_54_code 82 = .ok (.goto (-33), 3) := by decide +kernel
theorem d_X7_eyes_85 : decode prog_9_method_54_code 85 = .ok (.iinc 4 1, 3) := by decide +kernel
theorem d_X7_eyes_88 : decode prog_9_method_54_code 88 = .ok (.goto (-55), 3) := by decide +kernel
theorem d_X7_eyes_91 : decode prog_9_method_54_code 91 = .ok (.iload_n 3, 1) := by decide +kernel
theorem d_X7_eyes_92 : decode prog_9_method_54_code 92 = .ok (.ireturn, 1) := by decide +kernel
def m_X7_eyes_b70 (sh : Sh) (k33 : Int32 → Int32 → Mu → Option (Int32 × Mu)) (k49 : Int32 → Int32 → Mu → Option (Int32 × Mu)) (v0 : Nat) (v1 : Int32) (v2 : Int32) (v4 : Int32) (v5 : Int32) (s0 : Int32) (s1 : Int32) (s2 : Int32) (s3 : Nat) (s4 : Int32) (μ : Mu) : Option (Int32 × Mu) :=
  gd (iz sh 7 s3) <|
  ca2 (m_X7_lookOf sh s3 s2 s1 s0 μ) fun r18 μ19 =>
  bd (s4 + ((r18 >>> (v1 &&& 31)) &&& 1)) fun w20 =>
  bd (v5 + 1) fun w21 =>
  k49 w20 w21 μ19
def m_X7_eyes_b85 (sh : Sh) (k33 : Int32 → Int32 → Mu → Option (Int32 × Mu)) (v0 : Nat) (v1 : Int32) (v2 : Int32) (v3 : Int32) (v4 : Int32) (μ : Mu) : Option (Int32 × Mu) :=
  bd (v4 + 1) fun w16 =>
  k33 v3 w16 μ
def m_X7_eyes_b49 (sh : Sh) (k33 : Int32 → Int32 → Mu → Option (Int32 × Mu)) (k49 : Int32 → Int32 → Mu → Option (Int32 × Mu)) (v0 : Nat) (v1 : Int32) (v2 : Int32) (v3 : Int32) (v4 : Int32) (v5 : Int32) (μ : Mu) : Option (Int32 × Mu) :=
  if 4 ≤ v5 then
    m_X7_eyes_b85 sh k33 v0 v1 v2 v3 v4 μ
  else
    if v2 = 0 then
      m_X7_eyes_b70 sh k33 k49 v0 v1 v2 v4 v5 1 v5 v4 v0 v3 μ
    else
      m_X7_eyes_b70 sh k33 k49 v0 v1 v2 v4 v5 3 v5 v4 v0 v3 μ
def m_X7_eyes_h49 (sh : Sh) (k33 : Int32 → Int32 → Mu → Option (Int32 × Mu)) (v0 : Nat) (v1 : Int32) (v2 : Int32) (v4 : Int32) : Nat → Int32 → Int32 → Mu → Option (Int32 × Mu)
  | 0 => fun _ _ _ => none
  | f + 1 => fun v3 v5 μ => m_X7_eyes_b49 sh k33 (m_X7_eyes_h49 sh k33 v0 v1 v2 v4 f) v0 v1 v2 v3 v4 v5 μ
def m_X7_eyes_b33 (sh : Sh) (k33 : Int32 → Int32 → Mu → Option (Int32 × Mu)) (v0 : Nat) (v1 : Int32) (v2 : Int32) (v3 : Int32) (v4 : Int32) (μ : Mu) : Option (Int32 × Mu) :=
  gd (iz sh 7 v0) <|
  bd (gR μ v0 16) fun a10 =>
  gd (ix sh 8 a10 202) <|
  bd (gI μ a10 (202 : Int32).toNatClampNeg) fun w12 =>
  if w12 ≤ v4 then
    some (v3, μ)
  else
    m_X7_eyes_h49 sh k33 v0 v1 v2 v4 FU v3 0 μ
def m_X7_eyes_h33 (sh : Sh) (v0 : Nat) (v1 : Int32) (v2 : Int32) : Nat → Int32 → Int32 → Mu → Option (Int32 × Mu)
  | 0 => fun _ _ _ => none
  | f + 1 => fun v3 v4 μ => m_X7_eyes_b33 sh (m_X7_eyes_h33 sh v0 v1 v2 f) v0 v1 v2 v3 v4 μ
def m_X7_eyes (sh : Sh) (v0 : Nat) (v1 : Int32) (v2 : Int32) (μ : Mu) : Option (Int32 × Mu) :=
  gd (iz sh 7 v0) <|
  bd (sI μ v0 0 0) fun μ2 =>
  ca2 (m_X7_noOne sh v0 v1 μ2) fun r3 μ4 =>
  if r3 = 0 then
    ca2 (m_X7_in sh (v2.toInt64) 0 1 μ4) fun r6 μ7 =>
    if r6 = 0 then
      some ((-2), μ7)
    else
      m_X7_eyes_h33 sh v0 v1 v2 FU 0 0 μ7
  else
    some ((-1), μ4)
set_option maxHeartbeats 4000000 in
set_option maxRecDepth 20000 in
theorem t_X7_eyes_b70 {l : Launch} {G : Gl} {n : Nat} {sh : Sh} {x : Int32 × Mu} {k33 : Int32 → Int32 → Mu → Option (Int32 × Mu)} {k49 : Int32 → Int32 → Mu → Option (Int32 × Mu)} {v0 : Nat} {v1 : Int32} {v2 : Int32} {v4 : Int32} {v5 : Int32} {s0 : Int32} {s1 : Int32} {s2 : Int32} {s3 : Nat} {s4 : Int32} {μ : Mu} (hk33 : ∀ (v3 : Int32) (v4 : Int32) (μ : Mu), k33 v3 v4 μ = some x → Sj l G (QI G n sh x) c_X7_eyes n sh 0 0 μ 33 [some (vr v0), some (vi v1), some (vi v2), some (vi v3), some (vi v4), none] []) (hk49 : ∀ (v3 : Int32) (v5 : Int32) (μ : Mu), k49 v3 v5 μ = some x → Sj l G (QI G n sh x) c_X7_eyes n sh 0 0 μ 49 [some (vr v0), some (vi v1), some (vi v2), some (vi v3), some (vi v4), some (vi v5)] []) (h : m_X7_eyes_b70 sh k33 k49 v0 v1 v2 v4 v5 s0 s1 s2 s3 s4 μ = some x) : Sj l G (QI G n sh x) c_X7_eyes n sh 0 0 μ 70 [some (vr v0), some (vi v1), some (vi v2), none, some (vi v4), some (vi v5)] [vi s0, vi s1, vi s2, vr s3, vi s4] := by
  unfold m_X7_eyes_b70 at h
  obtain ⟨g17, h⟩ := gd_1 h
  obtain ⟨r18, μ19, er18, h⟩ := ca2_1 h
  refine s_callV (pc := 70) (as := [vi s2, vi s1, vi s0]) (st := [vi s4]) (vo := [vi r18]) (t_X7_lookOf er18) cl_7 g17 d_X7_eyes_70 y_X7_lookOf w_826 w_828 w_s21 ⟨by decide, by decide⟩ ⟨Nat.le_of_ble_eq_true rfl, Nat.le_of_ble_eq_true rfl⟩ (Nat.le_of_ble_eq_true rfl) rfl rfl rfl ?_
  refine s_as (kc' := 0) (js' := 0) (pc' := 73) (st' := [vi r18, vi s4]) ⟨rfl, rfl, rfl, rfl⟩ ?_
  refine s_iload_n (pc := 73) d_X7_eyes_73 rfl rfl ?_
  refine s_ishr (pc := 74) d_X7_eyes_74 ?_
  refine s_iconst (pc := 75) (v := 1) d_X7_eyes_75 (by decide) ?_
  refine s_iand (pc := 76) d_X7_eyes_76 ?_
  refine s_iadd (pc := 77) d_X7_eyes_77 ?_
  obtain ⟨w20, ew20, h⟩ := bd_1 h
  refine s_topI ew20 ?_
  refine s_istore_n (pc := 78) (lc' := [some (vr v0), some (vi v1), some (vi v2), some (vi w20), some (vi v4), some (vi v5)]) d_X7_eyes_78 rfl (by decide) rfl ?_
  obtain ⟨w21, ew21, h⟩ := bd_1 h
  refine s_iinc (pc := 79) (v := w21) (lc' := [some (vr v0), some (vi v1), some (vi v2), some (vi w20), some (vi v4), some (vi w21)]) d_X7_eyes_79 rfl (by rw [ew21]; rfl) (by decide) rfl ?_
  refine s_goto (pc := 82) (tgt := 49) d_X7_eyes_82 (by decide) ?_
  exact hk49 _ _ _ h
set_option maxHeartbeats 4000000 in
set_option maxRecDepth 20000 in
theorem t_X7_eyes_b85 {l : Launch} {G : Gl} {n : Nat} {sh : Sh} {x : Int32 × Mu} {k33 : Int32 → Int32 → Mu → Option (Int32 × Mu)} {v0 : Nat} {v1 : Int32} {v2 : Int32} {v3 : Int32} {v4 : Int32} {μ : Mu} (hk33 : ∀ (v3 : Int32) (v4 : Int32) (μ : Mu), k33 v3 v4 μ = some x → Sj l G (QI G n sh x) c_X7_eyes n sh 0 0 μ 33 [some (vr v0), some (vi v1), some (vi v2), some (vi v3), some (vi v4), none] []) (h : m_X7_eyes_b85 sh k33 v0 v1 v2 v3 v4 μ = some x) : Sj l G (QI G n sh x) c_X7_eyes n sh 0 0 μ 85 [some (vr v0), some (vi v1), some (vi v2), some (vi v3), some (vi v4), none] [] := by
  unfold m_X7_eyes_b85 at h
  obtain ⟨w16, ew16, h⟩ := bd_1 h
  refine s_iinc (pc := 85) (v := w16) (lc' := [some (vr v0), some (vi v1), some (vi v2), some (vi v3), some (vi w16), none]) d_X7_eyes_85 rfl (by rw [ew16]; rfl) (by decide) rfl ?_
  refine s_goto (pc := 88) (tgt := 33) d_X7_eyes_88 (by decide) ?_
  exact hk33 _ _ _ h
set_option maxHeartbeats 4000000 in
set_option maxRecDepth 20000 in
theorem t_X7_eyes_b49 {l : Launch} {G : Gl} {n : Nat} {sh : Sh} {x : Int32 × Mu} {k33 : Int32 → Int32 → Mu → Option (Int32 × Mu)} {k49 : Int32 → Int32 → Mu → Option (Int32 × Mu)} {v0 : Nat} {v1 : Int32} {v2 : Int32} {v3 : Int32} {v4 : Int32} {v5 : Int32} {μ : Mu} (hk33 : ∀ (v3 : Int32) (v4 : Int32) (μ : Mu), k33 v3 v4 μ = some x → Sj l G (QI G n sh x) c_X7_eyes n sh 0 0 μ 33 [some (vr v0), some (vi v1), some (vi v2), some (vi v3), some (vi v4), none] []) (hk49 : ∀ (v3 : Int32) (v5 : Int32) (μ : Mu), k49 v3 v5 μ = some x → Sj l G (QI G n sh x) c_X7_eyes n sh 0 0 μ 49 [some (vr v0), some (vi v1), some (vi v2), some (vi v3), some (vi v4), some (vi v5)] []) (h : m_X7_eyes_b49 sh k33 k49 v0 v1 v2 v3 v4 v5 μ = some x) : Sj l G (QI G n sh x) c_X7_eyes n sh 0 0 μ 49 [some (vr v0), some (vi v1), some (vi v2), some (vi v3), some (vi v4), some (vi v5)] [] := by
  unfold m_X7_eyes_b49 at h
  refine s_iload (pc := 49) d_X7_eyes_49 rfl ?_
  refine s_iconst (pc := 51) (v := 4) d_X7_eyes_51 (by decide) ?_
  refine s_icmp_ge (pc := 52) (tgt := 85) d_X7_eyes_52 (by decide) (fun c14 => ?_) (fun c14 => ?_)
  · have h := it_t c14 h
    refine s_mask [true, true, true, true, true, false] rfl ?_
    exact t_X7_eyes_b85 hk33 h
  · have h := it_f c14 h
    refine s_iload_n (pc := 55) d_X7_eyes_55 rfl rfl ?_
    refine s_aload_n (pc := 56) d_X7_eyes_56 rfl rfl ?_
    refine s_iload (pc := 57) d_X7_eyes_57 rfl ?_
    refine s_iload (pc := 59) d_X7_eyes_59 rfl ?_
    refine s_iload_n (pc := 61) d_X7_eyes_61 rfl rfl ?_
    refine s_if_ne (pc := 62) (tgt := 69) d_X7_eyes_62 (by decide) (fun c15 => ?_) (fun c15 => ?_)
    · have h := it_f c15 h
      refine s_iconst (pc := 69) (v := 3) d_X7_eyes_69 (by decide) ?_
      refine s_mask [true, true, true, false, true, true] rfl ?_
      exact t_X7_eyes_b70 hk33 hk49 h
    · have h := it_t c15 h
      refine s_iconst (pc := 65) (v := 1) d_X7_eyes_65 (by decide) ?_
      refine s_goto (pc := 66) (tgt := 70) d_X7_eyes_66 (by decide) ?_
      refine s_mask [true, true, true, false, true, true] rfl ?_
      exact t_X7_eyes_b70 hk33 hk49 h
set_option maxHeartbeats 4000000 in
set_option maxRecDepth 20000 in
theorem t_X7_eyes_h49 {l : Launch} {G : Gl} {n : Nat} {sh : Sh} {x : Int32 × Mu} {k33 : Int32 → Int32 → Mu → Option (Int32 × Mu)} {v0 : Nat} {v1 : Int32} {v2 : Int32} {v4 : Int32} (hk33 : ∀ (v3 : Int32) (v4 : Int32) (μ : Mu), k33 v3 v4 μ = some x → Sj l G (QI G n sh x) c_X7_eyes n sh 0 0 μ 33 [some (vr v0), some (vi v1), some (vi v2), some (vi v3), some (vi v4), none] []) : ∀ (f : Nat) (v3 : Int32) (v5 : Int32) (μ : Mu), m_X7_eyes_h49 sh k33 v0 v1 v2 v4 f v3 v5 μ = some x → Sj l G (QI G n sh x) c_X7_eyes n sh 0 0 μ 49 [some (vr v0), some (vi v1), some (vi v2), some (vi v3), some (vi v4), some (vi v5)] [] := by
  intro f
  induction f with
  | zero =>
    intro v3 v5 μ h
    cases h
  | succ f ih =>
    intro v3 v5 μ h
    exact t_X7_eyes_b49 hk33 ih h
set_option maxHeartbeats 4000000 in
set_option maxRecDepth 20000 in
theorem t_X7_eyes_b33 {l : Launch} {G : Gl} {n : Nat} {sh : Sh} {x : Int32 × Mu} {k33 : Int32 → Int32 → Mu → Option (Int32 × Mu)} {v0 : Nat} {v1 : Int32} {v2 : Int32} {v3 : Int32} {v4 : Int32} {μ : Mu} (hk33 : ∀ (v3 : Int32) (v4 : Int32) (μ : Mu), k33 v3 v4 μ = some x → Sj l G (QI G n sh x) c_X7_eyes n sh 0 0 μ 33 [some (vr v0), some (vi v1), some (vi v2), some (vi v3), some (vi v4), none] []) (h : m_X7_eyes_b33 sh k33 v0 v1 v2 v3 v4 μ = some x) : Sj l G (QI G n sh x) c_X7_eyes n sh 0 0 μ 33 [some (vr v0), some (vi v1), some (vi v2), some (vi v3), some (vi v4), none] [] := by
  unfold m_X7_eyes_b33 at h
  refine s_iload (pc := 33) d_X7_eyes_33 rfl ?_
  refine s_aload_n (pc := 35) d_X7_eyes_35 rfl rfl ?_
  obtain ⟨g9, h⟩ := gd_1 h
  refine s_getR (pc := 36) (k := 16) cl_7 d_X7_eyes_36 g9 (by decide) w_676 (rt_arr _) ?_
  obtain ⟨a10, ea10, h⟩ := bd_1 h
  refine s_topR ea10 ?_
  refine s_sipush (pc := 39) (v := 202) d_X7_eyes_39 (by decide) ?_
  obtain ⟨g11, h⟩ := gd_1 h
  refine s_iald (pc := 42) d_X7_eyes_42 g11 ?_
  obtain ⟨w12, ew12, h⟩ := bd_1 h
  refine s_topI ew12 ?_
  refine s_icmp_ge (pc := 43) (tgt := 91) d_X7_eyes_43 (by decide) (fun c13 => ?_) (fun c13 => ?_)
  · have h := it_t c13 h
    refine s_iload_n (pc := 91) d_X7_eyes_91 rfl rfl ?_
    obtain rfl := Option.some.inj h
    exact s_iret (pc := 92) d_X7_eyes_92 rfl
  · have h := it_f c13 h
    refine s_iconst (pc := 46) (v := 0) d_X7_eyes_46 (by decide) ?_
    refine s_istore (pc := 47) (lc' := [some (vr v0), some (vi v1), some (vi v2), some (vi v3), some (vi v4), some (vi 0)]) d_X7_eyes_47 (by decide) rfl ?_
    exact t_X7_eyes_h49 hk33 FU _ _ _ h
set_option maxHeartbeats 4000000 in
set_option maxRecDepth 20000 in
theorem t_X7_eyes_h33 {l : Launch} {G : Gl} {n : Nat} {sh : Sh} {x : Int32 × Mu} {v0 : Nat} {v1 : Int32} {v2 : Int32} : ∀ (f : Nat) (v3 : Int32) (v4 : Int32) (μ : Mu), m_X7_eyes_h33 sh v0 v1 v2 f v3 v4 μ = some x → Sj l G (QI G n sh x) c_X7_eyes n sh 0 0 μ 33 [some (vr v0), some (vi v1), some (vi v2), some (vi v3), some (vi v4), none] [] := by
  intro f
  induction f with
  | zero =>
    intro v3 v4 μ h
    cases h
  | succ f ih =>
    intro v3 v4 μ h
    exact t_X7_eyes_b33 ih h
set_option maxHeartbeats 4000000 in
set_option maxRecDepth 20000 in
theorem t_X7_eyes {l : Launch} {G : Gl} {n : Nat} {sh : Sh} {x : Int32 × Mu} {v0 : Nat} {v1 : Int32} {v2 : Int32} {μ : Mu} (h : m_X7_eyes sh v0 v1 v2 μ = some x) : Ct l G ⟨"StripsOfFourModel", "eyes", "(II)I"⟩ prog_9_method_54_code 6 (some .int) { frames := 2, cells := 0, slots := 0, locals := 46 } n sh μ [vr v0, vi v1, vi v2] (some (.int x.1)) n sh x.2 := by
  refine Ct.of (lc := [some (vr v0), some (vi v1), some (vi v2), none, none, none]) (by decide +kernel) (Nat.le_of_ble_eq_true rfl) rfl ?_
  show Sj l G (QI G n sh x) c_X7_eyes n sh 0 0 μ 0 [some (vr v0), some (vi v1), some (vi v2), none, none, none] []
  unfold m_X7_eyes at h
  refine s_aload_n (pc := 0) d_X7_eyes_0 rfl rfl ?_
  refine s_iconst (pc := 1) (v := 0) d_X7_eyes_1 (by decide) ?_
  obtain ⟨g1, h⟩ := gd_1 h
  refine s_putI (pc := 2) (k := 0) cl_7 d_X7_eyes_2 g1 (by decide) w_660 rfl rfl ?_
  obtain ⟨μ2, eμ2, h⟩ := bd_1 h
  refine s_mu eμ2 ?_
  refine s_aload_n (pc := 5) d_X7_eyes_5 rfl rfl ?_
  refine s_iload_n (pc := 6) d_X7_eyes_6 rfl rfl ?_
  obtain ⟨r3, μ4, er3, h⟩ := ca2_1 h
  refine s_callV (pc := 7) (as := [vi v1]) (st := []) (vo := [vi r3]) (t_X7_noOne er3) cl_7 g1 d_X7_eyes_7 y_X7_noOne w_813 w_815 w_s19 ⟨by decide, by decide⟩ ⟨Nat.le_of_ble_eq_true rfl, Nat.le_of_ble_eq_true rfl⟩ (Nat.le_of_ble_eq_true rfl) rfl rfl rfl ?_
  refine s_as (kc' := 0) (js' := 0) (pc' := 10) (st' := [vi r3]) ⟨rfl, rfl, rfl, rfl⟩ ?_
  refine s_if_eq (pc := 10) (tgt := 15) d_X7_eyes_10 (by decide) (fun c5 => ?_) (fun c5 => ?_)
  · have h := it_t c5 h
    refine s_iload_n (pc := 15) d_X7_eyes_15 rfl rfl ?_
    refine s_i2l (pc := 16) d_X7_eyes_16 ?_
    refine s_lconst (pc := 17) (v := 0) d_X7_eyes_17 (by decide) ?_
    refine s_lconst (pc := 18) (v := 1) d_X7_eyes_18 (by decide) ?_
    obtain ⟨r6, μ7, er6, h⟩ := ca2_1 h
    refine s_callS (pc := 19) (as := [vl (v2.toInt64), vl 0, vl 1]) (st := []) (vo := [vi r6]) (t_X7_in er6) d_X7_eyes_19 y_X7_in w_754 w_755 ⟨by decide, by decide⟩ ⟨Nat.le_of_ble_eq_true rfl, Nat.le_of_ble_eq_true rfl⟩ (Nat.le_of_ble_eq_true rfl) rfl rfl rfl ?_
    refine s_as (kc' := 0) (js' := 0) (pc' := 22) (st' := [vi r6]) ⟨rfl, rfl, rfl, rfl⟩ ?_
    refine s_if_ne (pc := 22) (tgt := 28) d_X7_eyes_22 (by decide) (fun c8 => ?_) (fun c8 => ?_)
    · have h := it_f c8 h
      refine s_iconst (pc := 28) (v := 0) d_X7_eyes_28 (by decide) ?_
      refine s_istore_n (pc := 29) (lc' := [some (vr v0), some (vi v1), some (vi v2), some (vi 0), none, none]) d_X7_eyes_29 rfl (by decide) rfl ?_
      refine s_iconst (pc := 30) (v := 0) d_X7_eyes_30 (by decide) ?_
      refine s_istore (pc := 31) (lc' := [some (vr v0), some (vi v1), some (vi v2), some (vi 0), some (vi 0), none]) d_X7_eyes_31 (by decide) rfl ?_
      exact t_X7_eyes_h33 FU _ _ _ h
    · have h := it_t c8 h
      refine s_bipush (pc := 25) (v := (-2)) d_X7_eyes_25 (by decide) ?_
      obtain rfl := Option.some.inj h
      exact s_iret (pc := 27) d_X7_eyes_27 rfl
  · have h := it_f c5 h
    refine s_iconst (pc := 13) (v := (-1)) d_X7_eyes_13 (by decide) ?_
    obtain rfl := Option.some.inj h
    exact s_iret (pc := 14) d_X7_eyes_14 rfl

/-! StripsOfFour$Scene.tornOnes -/
abbrev c_X4_tornOnes : Cf := (prog_6_method_12_code, 3, "StripsOfFour$Scene", "tornOnes", (some .int), { frames := 0, cells := 0, slots := 0, locals := 0 })
theorem d_X4_tornOnes_0 : decode prog_6_method_12_code 0 = .ok (.iconst 0, 1) := by decide +kernel
theorem d_X4_tornOnes_1 : decode prog_6_method_12_code 1 = .ok (.istore_n 1, 1) := by decide +kernel
theorem d_X4_tornOnes_2 : decode prog_6_method_12_code 2 = .ok (.iconst 0, 1) := by decide +kernel
theorem d_X4_tornOnes_3 : decode prog_6_method_12_code 3 = .ok (.istore_n 2, 1) := by decide +kernel
theorem d_X4_tornOnes_4 : decode prog_6_method_12_code 4 = .ok (.iload_n 2, 1) := by decide +kernel
theorem d_X4_tornOnes_5 : decode prog_6_method_12_code 5 = .ok (.aload_n 0, 1) := by decide +kernel
theorem d_X4_tornOnes_6 : decode prog_6_method_12_code 6 = .ok (.getfield 25, 3) := by decide +kernel
theorem d_X4_tornOnes_9 : decode prog_6_method_12_code 9 = .ok (.if_icmp .ge 33, 3) := by decide +kernel
theorem d_X4_tornOnes_12 : decode prog_6_method_12_code 12 = .ok (.iload_n 2, 1) := by decide +kernel
theorem d_X4_tornOnes_13 : decode prog_6_method_12_code 13 = .ok (.bipush 8, 2) := by decide +kernel
theorem d_X4_tornOnes_15 : decode prog_6_method_12_code 15 = .ok (.if_icmp .ge 27, 3) := by decide +kernel
theorem d_X4_tornOnes_18 : decode prog_6_method_12_code 18 = .ok (.aload_n 0, 1) := by decide +kernel
theorem d_X4_tornOnes_19 : decode prog_6_method_12_code 19 = .ok (.getfield 30, 3) := by decide +kernel
theorem d_X4_tornOnes_22 : decode prog_6_method_12_code 22 = .ok (.iload_n 2, 1) := by decide +kernel
theorem d_X4_tornOnes_23 : decode prog_6_method_12_code 23 = .ok (.aaload, 1) := by decide +kernel
theorem d_X4_tornOnes_24 : decode prog_6_method_12_code 24 = .ok (.getfield 79, 3) := by decide +kernel
theorem d_X4_tornOnes_27 : decode prog_6_method_12_code 27 = .ok (.ifCond .eq 9, 3) := by decide +kernel
theorem d_X4_tornOnes_30 : decode prog_6_method_12_code 30 = .ok (.iload_n 1, 1) := by decide +kernel
theorem d_X4_tornOnes_31 : decode prog_6_method_12_code 31 = .ok (.iconst 1, 1) := by decide +kernel
theorem d_X4_tornOnes_32 : decode prog_6_method_12_code 32 = .ok (.iload_n 2, 1) := by decide +kernel
theorem d_X4_tornOnes_33 : decode prog_6_method_12_code 33 = .ok (.ishl, 1) := by decide +kernel
theorem d_X4_tornOnes_34 : decode prog_6_method_12_code 34 = .ok (.ior, 1) := by decide +kernel
theorem d_X4_tornOnes_35 : decode prog_6_method_12_code 35 = .ok (.istore_n 1, 1) := by decide +kernel
theorem d_X4_tornOnes_36 : decode prog_6_method_12_code 36 = .ok (.iinc 2 1, 3) := by decide +kernel
theorem d_X4_tornOnes_39 : decode prog_6_method_12_code 39 = .ok (.goto (-35), 3) := by decide +kernel
theorem d_X4_tornOnes_42 : decode prog_6_method_12_code 42 = .ok (.iload_n 1, 1) := by decide +kernel
theorem d_X4_tornOnes_43 : decode prog_6_method_12_code 43 = .ok (.ireturn, 1) := by decide +kernel
def m_X4_tornOnes_b36 (sh : Sh) (k4 : Int32 → Int32 → Mu → Option (Int32 × Mu)) (v0 : Nat) (v1 : Int32) (v2 : Int32) (μ : Mu) : Option (Int32 × Mu) :=
  bd (v2 + 1) fun w10 =>
  k4 v1 w10 μ
def m_X4_tornOnes_b4 (sh : Sh) (k4 : Int32 → Int32 → Mu → Option (Int32 × Mu)) (v0 : Nat) (v1 : Int32) (v2 : Int32) (μ : Mu) : Option (Int32 × Mu) :=
  gd (iz sh 4 v0) <|
  if (gI μ v0 4) ≤ v2 then
    some (v1, μ)
  else
    if 8 ≤ v2 then
      some (v1, μ)
    else
      bd (gR μ v0 5) fun a4 =>
      gd (ix sh 11 a4 v2) <|
      bd (gR μ a4 v2.toNatClampNeg) fun a6 =>
      gd (iz sh 5 a6) <|
      if (gI μ a6 2) = 0 then
        m_X4_tornOnes_b36 sh k4 v0 v1 v2 μ
      else
        bd (v1 ||| (1 <<< (v2 &&& 31))) fun w9 =>
        m_X4_tornOnes_b36 sh k4 v0 w9 v2 μ
def m_X4_tornOnes_h4 (sh : Sh) (v0 : Nat) : Nat → Int32 → Int32 → Mu → Option (Int32 × Mu)
  | 0 => fun _ _ _ => none
  | f + 1 => fun v1 v2 μ => m_X4_tornOnes_b4 sh (m_X4_tornOnes_h4 sh v0 f) v0 v1 v2 μ
def m_X4_tornOnes (sh : Sh) (v0 : Nat) (μ : Mu) : Option (Int32 × Mu) :=
  m_X4_tornOnes_h4 sh v0 FU 0 0 μ
set_option maxHeartbeats 4000000 in
set_option maxRecDepth 20000 in
theorem t_X4_tornOnes_b36 {l : Launch} {G : Gl} {n : Nat} {sh : Sh} {x : Int32 × Mu} {k4 : Int32 → Int32 → Mu → Option (Int32 × Mu)} {v0 : Nat} {v1 : Int32} {v2 : Int32} {μ : Mu} (hk4 : ∀ (v1 : Int32) (v2 : Int32) (μ : Mu), k4 v1 v2 μ = some x → Sj l G (QI G n sh x) c_X4_tornOnes n sh 0 0 μ 4 [some (vr v0), some (vi v1), some (vi v2)] []) (h : m_X4_tornOnes_b36 sh k4 v0 v1 v2 μ = some x) : Sj l G (QI G n sh x) c_X4_tornOnes n sh 0 0 μ 36 [some (vr v0), some (vi v1), some (vi v2)] [] := by
  unfold m_X4_tornOnes_b36 at h
  obtain ⟨w10, ew10, h⟩ := bd_1 h
  refine s_iinc (pc := 36) (v := w10) (lc' := [some (vr v0), some (vi v1), some (vi w10)]) d_X4_tornOnes_36 rfl (by rw [ew10]; rfl) (by decide) rfl ?_
  refine s_goto (pc := 39) (tgt := 4) d_X4_tornOnes_39 (by decide) ?_
  exact hk4 _ _ _ h
set_option maxHeartbeats 4000000 in
set_option maxRecDepth 20000 in
theorem t_X4_tornOnes_b4 {l : Launch} {G : Gl} {n : Nat} {sh : Sh} {x : Int32 × Mu} {k4 : Int32 → Int32 → Mu → Option (Int32 × Mu)} {v0 : Nat} {v1 : Int32} {v2 : Int32} {μ : Mu} (hk4 : ∀ (v1 : Int32) (v2 : Int32) (μ : Mu), k4 v1 v2 μ = some x → Sj l G (QI G n sh x) c_X4_tornOnes n sh 0 0 μ 4 [some (vr v0), some (vi v1), some (vi v2)] []) (h : m_X4_tornOnes_b4 sh k4 v0 v1 v2 μ = some x) : Sj l G (QI G n sh x) c_X4_tornOnes n sh 0 0 μ 4 [some (vr v0), some (vi v1), some (vi v2)] [] := by
  unfold m_X4_tornOnes_b4 at h
  refine s_iload_n (pc := 4) d_X4_tornOnes_4 rfl rfl ?_
  refine s_aload_n (pc := 5) d_X4_tornOnes_5 rfl rfl ?_
  obtain ⟨g1, h⟩ := gd_1 h
  refine s_getI (pc := 6) (k := 4) cl_4 d_X4_tornOnes_6 g1 (by decide) w_102 rfl ?_
  refine s_icmp_ge (pc := 9) (tgt := 42) d_X4_tornOnes_9 (by decide) (fun c2 => ?_) (fun c2 => ?_)
  · have h := it_t c2 h
    refine s_iload_n (pc := 42) d_X4_tornOnes_42 rfl rfl ?_
    obtain rfl := Option.some.inj h
    exact s_iret (pc := 43) d_X4_tornOnes_43 rfl
  · have h := it_f c2 h
    refine s_iload_n (pc := 12) d_X4_tornOnes_12 rfl rfl ?_
    refine s_bipush (pc := 13) (v := 8) d_X4_tornOnes_13 (by decide) ?_
    refine s_icmp_ge (pc := 15) (tgt := 42) d_X4_tornOnes_15 (by decide) (fun c3 => ?_) (fun c3 => ?_)
    · have h := it_t c3 h
      refine s_iload_n (pc := 42) d_X4_tornOnes_42 rfl rfl ?_
      obtain rfl := Option.some.inj h
      exact s_iret (pc := 43) d_X4_tornOnes_43 rfl
    · have h := it_f c3 h
      refine s_aload_n (pc := 18) d_X4_tornOnes_18 rfl rfl ?_
      refine s_getR (pc := 19) (k := 5) cl_4 d_X4_tornOnes_19 g1 (by decide) w_105 (rt_arr _) ?_
      obtain ⟨a4, ea4, h⟩ := bd_1 h
      refine s_topR ea4 ?_
      refine s_iload_n (pc := 22) d_X4_tornOnes_22 rfl rfl ?_
      obtain ⟨g5, h⟩ := gd_1 h
      refine s_aald11 (pc := 23) d_X4_tornOnes_23 g5 ?_
      obtain ⟨a6, ea6, h⟩ := bd_1 h
      refine s_topR ea6 ?_
      obtain ⟨g7, h⟩ := gd_1 h
      refine s_getI (pc := 24) (k := 2) cl_5 d_X4_tornOnes_24 g7 (by decide) w_70 rfl ?_
      refine s_if_eq (pc := 27) (tgt := 36) d_X4_tornOnes_27 (by decide) (fun c8 => ?_) (fun c8 => ?_)
      · have h := it_t c8 h
        exact t_X4_tornOnes_b36 hk4 h
      · have h := it_f c8 h
        refine s_iload_n (pc := 30) d_X4_tornOnes_30 rfl rfl ?_
        refine s_iconst (pc := 31) (v := 1) d_X4_tornOnes_31 (by decide) ?_
        refine s_iload_n (pc := 32) d_X4_tornOnes_32 rfl rfl ?_
        refine s_ishl (pc := 33) d_X4_tornOnes_33 ?_
        refine s_ior (pc := 34) d_X4_tornOnes_34 ?_
        obtain ⟨w9, ew9, h⟩ := bd_1 h
        refine s_topI ew9 ?_
        refine s_istore_n (pc := 35) (lc' := [some (vr v0), some (vi w9), some (vi v2)]) d_X4_tornOnes_35 rfl (by decide) rfl ?_
        exact t_X4_tornOnes_b36 hk4 h
set_option maxHeartbeats 4000000 in
set_option maxRecDepth 20000 in
theorem t_X4_tornOnes_h4 {l : Launch} {G : Gl} {n : Nat} {sh : Sh} {x : Int32 × Mu} {v0 : Nat} : ∀ (f : Nat) (v1 : Int32) (v2 : Int32) (μ : Mu), m_X4_tornOnes_h4 sh v0 f v1 v2 μ = some x → Sj l G (QI G n sh x) c_X4_tornOnes n sh 0 0 μ 4 [some (vr v0), some (vi v1), some (vi v2)] [] := by
  intro f
  induction f with
  | zero =>
    intro v1 v2 μ h
    cases h
  | succ f ih =>
    intro v1 v2 μ h
    exact t_X4_tornOnes_b4 ih h
set_option maxHeartbeats 4000000 in
set_option maxRecDepth 20000 in
theorem t_X4_tornOnes {l : Launch} {G : Gl} {n : Nat} {sh : Sh} {x : Int32 × Mu} {v0 : Nat} {μ : Mu} (h : m_X4_tornOnes sh v0 μ = some x) : Ct l G ⟨"StripsOfFour$Scene", "tornOnes", "()I"⟩ prog_6_method_12_code 3 (some .int) { frames := 0, cells := 0, slots := 0, locals := 0 } n sh μ [vr v0] (some (.int x.1)) n sh x.2 := by
  refine Ct.of (lc := [some (vr v0), none, none]) (by decide +kernel) (Nat.le_of_ble_eq_true rfl) rfl ?_
  show Sj l G (QI G n sh x) c_X4_tornOnes n sh 0 0 μ 0 [some (vr v0), none, none] []
  unfold m_X4_tornOnes at h
  refine s_iconst (pc := 0) (v := 0) d_X4_tornOnes_0 (by decide) ?_
  refine s_istore_n (pc := 1) (lc' := [some (vr v0), some (vi 0), none]) d_X4_tornOnes_1 rfl (by decide) rfl ?_
  refine s_iconst (pc := 2) (v := 0) d_X4_tornOnes_2 (by decide) ?_
  refine s_istore_n (pc := 3) (lc' := [some (vr v0), some (vi 0), some (vi 0)]) d_X4_tornOnes_3 rfl (by decide) rfl ?_
  exact t_X4_tornOnes_h4 FU _ _ _ h
/-! StripsOfFour$Past.forgetAll -/
abbrev c_X1_forgetAll : Cf := (prog_3_method_2_code, 1, "StripsOfFour$Past", "forgetAll", none, { frames := 0, cells := 0, slots := 0, locals := 0 })
theorem d_X1_forgetAll_0 : decode prog_3_method_2_code 0 = .ok (.aload_n 0, 1) := by decide +kernel
theorem d_X1_forgetAll_1 : decode prog_3_method_2_code 1 = .ok (.iconst 0, 1) := by decide +kernel
theorem d_X1_forgetAll_2 : decode prog_3_method_2_code 2 = .ok (.putfield 9, 3) := by decide +kernel
theorem d_X1_forgetAll_5 : decode prog_3_method_2_code 5 = .ok (.return_, 1) := by decide +kernel
def m_X1_forgetAll (sh : Sh) (v0 : Nat) (μ : Mu) : Option Mu :=
  gd (iz sh 1 v0) <|
  bd (sI μ v0 0 0) fun μ2 =>
  some μ2
set_option maxHeartbeats 4000000 in
set_option maxRecDepth 20000 in
theorem t_X1_forgetAll {l : Launch} {G : Gl} {n : Nat} {sh : Sh} {x : Mu} {v0 : Nat} {μ : Mu} (h : m_X1_forgetAll sh v0 μ = some x) : Ct l G ⟨"StripsOfFour$Past", "forgetAll", "()V"⟩ prog_3_method_2_code 1 none { frames := 0, cells := 0, slots := 0, locals := 0 } n sh μ [vr v0] none n sh x := by
  refine Ct.of (lc := [some (vr v0)]) (by decide +kernel) (Nat.le_of_ble_eq_true rfl) rfl ?_
  show Sj l G (QV G n sh x) c_X1_forgetAll n sh 0 0 μ 0 [some (vr v0)] []
  unfold m_X1_forgetAll at h
  refine s_aload_n (pc := 0) d_X1_forgetAll_0 rfl rfl ?_
  refine s_iconst (pc := 1) (v := 0) d_X1_forgetAll_1 (by decide) ?_
  obtain ⟨g1, h⟩ := gd_1 h
  refine s_putI (pc := 2) (k := 0) cl_1 d_X1_forgetAll_2 g1 (by decide) w_143 rfl rfl ?_
  obtain ⟨μ2, eμ2, h⟩ := bd_1 h
  refine s_mu eμ2 ?_
  obtain rfl := Option.some.inj h
  exact s_vret (pc := 5) d_X1_forgetAll_5 rfl
/-! StripsOfFour$Scene.copyFrom -/
abbrev c_X4_copyFrom : Cf := (prog_6_method_3_code, 3, "StripsOfFour$Scene", "copyFrom", none, { frames := 2, cells := 0, slots := 0, locals := 89 })
theorem d_X4_copyFrom_0 : decode prog_6_method_3_code 0 = .ok (.aload_n 0, 1) := by decide +kernel
theorem d_X4_copyFrom_1 : decode prog_6_method_3_code 1 = .ok (.aload_n 1, 1) := by decide +kernel
theorem d_X4_copyFrom_2 : decode prog_6_method_3_code 2 = .ok (.getfield 9, 3) := by decide +kernel
theorem d_X4_copyFrom_5 : decode prog_6_method_3_code 5 = .ok (.putfield 9, 3) := by decide +kernel
theorem d_X4_copyFrom_8 : decode prog_6_method_3_code 8 = .ok (.aload_n 0, 1) := by decide +kernel
theorem d_X4_copyFrom_9 : decode prog_6_method_3_code 9 = .ok (.aload_n 1, 1) := by decide +kernel
theorem d_X4_copyFrom_10 : decode prog_6_method_3_code 10 = .ok (.getfield 15, 3) := by decide +kernel
theorem d_X4_copyFrom_13 : decode prog_6_method_3_code 13 = .ok (.putfield 15, 3) := by decide +kernel
theorem d_X4_copyFrom_16 : decode prog_6_method_3_code 16 = .ok (.aload_n 0, 1) := by decide +kernel
theorem d_X4_copyFrom_17 : decode prog_6_method_3_code 17 = .ok (.aload_n 1, 1) := by decide +kernel
theorem d_X4_copyFrom_18 : decode prog_6_method_3_code 18 = .ok (.getfield 19, 3) := by decide +kernel
theorem d_X4_copyFrom_21 : decode prog_6_method_3_code 21 = .ok (.putfield 19, 3) := by decide +kernel
theorem d_X4_copyFrom_24 : decode prog_6_method_3_code 24 = .ok (.aload_n 0, 1) := by decide +kernel
theorem d_X4_copyFrom_25 : decode prog_6_method_3_code 25 = .ok (.aload_n 1, 1) := by decide +kernel
theorem d_X4_copyFrom_26 : decode prog_6_method_3_code 26 = .ok (.getfield 22, 3) := by decide +kernel
theorem d_X4_copyFrom_29 : decode prog_6_method_3_code 29 = .ok (.putfield 22, 3) := by decide +kernel
theorem d_X4_copyFrom_32 : decode prog_6_method_3_code 32 = .ok (.aload_n 0, 1) := by decide +kernel
theorem d_X4_copyFrom_33 : decode prog_6_method_3_code 33 = .ok (.aload_n 1, 1) := by decide +kernel
theorem d_X4_copyFrom_34 : decode prog_6_method_3_code 34 = .ok (.getfield 25, 3) := by decide +kernel
theorem d_X4_copyFrom_37 : decode prog_6_method_3_code 37 = .ok (.putfield 25, 3) := by decide +kernel
theorem d_X4_copyFrom_40 : decode prog_6_method_3_code 40 = .ok (.iconst 0, 1) := by decide +kernel
theorem d_X4_copyFrom_41 : decode prog_6_method_3_code 41 = .ok (.istore_n 2, 1) := by decide +kernel
theorem d_X4_copyFrom_42 : decode prog_6_method_3_code 42 = .ok (.iload_n 2, 1) := by decide +kernel
theorem d_X4_copyFrom_43 : decode prog_6_method_3_code 43 = .ok (.aload_n 0, 1) := by decide +kernel
theorem d_X4_copyFrom_44 : decode prog_6_method_3_code 44 = .ok (.getfield 25, 3) := by decide +kernel
theorem d_X4_copyFrom_47 : decode prog_6_method_3_code 47 = .ok (.if_icmp .ge 30, 3) := by decide +kernel
theorem d_X4_copyFrom_50 : decode prog_6_method_3_code 50 = .ok (.iload_n 2, 1) := by decide +kernel
theorem d_X4_copyFrom_51 : decode prog_6_method_3_code 51 = .ok (.bipush 8, 2) := by decide +kernel
theorem d_X4_copyFrom_53 : decode prog_6_method_3_code 53 = .ok (.if_icmp .ge 24, 3) := by decide +kernel
theorem d_X4_copyFrom_56 : decode prog_6_method_3_code 56 = .ok (.aload_n 0, 1) := by decide +kernel
theorem d_X4_copyFrom_57 : decode prog_6_method_3_code 57 = .ok (.getfield 30, 3) := by decide +kernel
theorem d_X4_copyFrom_60 : decode prog_6_method_3_code 60 = .ok (.iload_n 2, 1) := by decide +kernel
theorem d_X4_copyFrom_61 : decode prog_6_method_3_code 61 = .ok (.aaload, 1) := by decide +kernel
theorem d_X4_copyFrom_62 : decode prog_6_method_3_code 62 = .ok (.aload_n 1, 1) := by decide +kernel
theorem d_X4_copyFrom_63 : decode prog_6_method_3_code 63 = .ok (.getfield 30, 3) := by decide +kernel
theorem d_X4_copyFrom_66 : decode prog_6_method_3_code 66 = .ok (.iload_n 2, 1) := by decide +kernel
theorem d_X4_copyFrom_67 : decode prog_6_method_3_code 67 = .ok (.aaload, 1) := by decide +kernel
theorem d_X4_copyFrom_68 : decode prog_6_method_3_code 68 = .ok (.invokevirtual 55, 3) := by decide +kernel
theorem d_X4_copyFrom_71 : decode prog_6_method_3_code 71 = .ok (.iinc 2 1, 3) := by decide +kernel
theorem d_X4_copyFrom_74 : decode prog_6_method_3_code 74 = .ok (.goto (-32), 3) := by decide +kernel
theorem d_X4_copyFrom_77 : decode prog_6_method_3_code 77 = .ok (.iconst 0, 1) := by decide +kernel
theorem d_X4_copyFrom_78 : decode prog_6_method_3_code 78 = .ok (.istore_n 2, 1) := by decide +kernel
theorem d_X4_copyFrom_79 : decode prog_6_method_3_code 79 = .ok (.iload_n 2, 1) := by decide +kernel
theorem d_X4_copyFrom_80 : decode prog_6_method_3_code 80 = .ok (.iconst 2, 1) := by decide +kernel
theorem d_X4_copyFrom_81 : decode prog_6_method_3_code 81 = .ok (.if_icmp .ge 24, 3) := by decide +kernel
theorem d_X4_copyFrom_84 : decode prog_6_method_3_code 84 = .ok (.aload_n 0, 1) := by decide +kernel
theorem d_X4_copyFrom_85 : decode prog_6_method_3_code 85 = .ok (.getfield 34, 3) := by decide +kernel
theorem d_X4_copyFrom_88 : decode prog_6_method_3_code 88 = .ok (.iload_n 2, 1) := by decide +kernel
theorem d_X4_copyFrom_89 : decode prog_6_method_3_code 89 = .ok (.aaload, 1) := by decide +kernel
theorem d_X4_copyFrom_90 : decode prog_6_method_3_code 90 = .ok (.aload_n 1, 1) := by decide +kernel
theorem d_X4_copyFrom_91 : decode prog_6_method_3_code 91 = .ok (.getfield 34, 3) := by decide +kernel
theorem d_X4_copyFrom_94 : decode prog_6_method_3_code 94 = .ok (.iload_n 2, 1) := by decide +kernel
theorem d_X4_copyFrom_95 : decode prog_6_method_3_code 95 = .ok (.aaload, 1) := by decide +kernel
theorem d_X4_copyFrom_96 : decode prog_6_method_3_code 96 = .ok (.invokevirtual 55, 3) := by decide +kernel
theorem d_X4_copyFrom_99 : decode prog_6_method_3_code 99 = .ok (.iinc 2 1, 3) := by decide +kernel
theorem d_X4_copyFrom_102 : decode prog_6_method_3_code 102 = .ok (.goto (-23), 3) := by decide +kernel
theorem d_X4_copyFrom_105 : decode prog_6_method_3_code 105 = .ok (.aload_n 1, 1) := by decide +kernel
theorem d_X4_copyFrom_106 : decode prog_6_method_3_code 106 = .ok (.getfield 37, 3) := by decide +kernel
theorem d_X4_copyFrom_109 : decode prog_6_method_3_code 109 = .ok (.iconst 0, 1) := by decide +kernel
theorem d_X4_copyFrom_110 : decode prog_6_method_3_code 110 = .ok (.aload_n 0, 1) := by decide +kernel
theorem d_X4_copyFrom_111 : decode prog_6_method_3_code 111 = .ok (.getfield 37, 3) := by decide +kernel
theorem d_X4_copyFrom_114 : decode prog_6_method_3_code 114 = .ok (.iconst 0, 1) := by decide +kernel
theorem d_X4_copyFrom_115 : decode prog_6_method_3_code 115 = .ok (.iconst 5, 1) := by decide +kernel
theorem d_X4_copyFrom_116 : decode prog_6_method_3_code 116 = .ok (.invokestatic 59, 3) := by decide +kernel
theorem d_X4_copyFrom_119 : decode prog_6_method_3_code 119 = .ok (.aload_n 1, 1) := by decide +kernel
theorem d_X4_copyFrom_120 : decode prog_6_method_3_code 120 = .ok (.getfield 41, 3) := by decide +kernel
theorem d_X4_copyFrom_123 : decode prog_6_method_3_code 123 = .ok (.iconst 0, 1) := by decide +kernel
theorem d_X4_copyFrom_124 : decode prog_6_method_3_code 124 = .ok (.aload_n 0, 1) := by decide +kernel
theorem d_X4_copyFrom_125 : decode prog_6_method_3_code 125 = .ok (.getfield 41, 3) := by decide +kernel
theorem d_X4_copyFrom_128 : decode prog_6_method_3_code 128 = .ok (.iconst 0, 1) := by decide +kernel
theorem d_X4_copyFrom_129 : decode prog_6_method_3_code 129 = .ok (.iconst 5, 1) := by decide +kernel
theorem d_X4_copyFrom_130 : decode prog_6_method_3_code 130 = .ok (.invokestatic 59, 3) := by decide +kernel
theorem d_X4_copyFrom_133 : decode prog_6_method_3_code 133 = .ok (.aload_n 1, 1) := by decide +kernel
theorem d_X4_copyFrom_134 : decode prog_6_method_3_code 134 = .ok (.getfield 44, 3) := by decide +kernel
theorem d_X4_copyFrom_137 : decode prog_6_method_3_code 137 = .ok (.iconst 0, 1) := by decide +kernel
theorem d_X4_copyFrom_138 : decode prog_6_method_3_code 138 = .ok (.aload_n 0, 1) := by decide +kernel
theorem d_X4_copyFrom_139 : decode prog_6_method_3_code 139 = .ok (.getfield 44, 3) := by decide +kernel
theorem d_X4_copyFrom_142 : decode prog_6_method_3_code 142 = .ok (.iconst 0, 1) := by decide +kernel
theorem d_X4_copyFrom_143 : decode prog_6_method_3_code 143 = .ok (.iconst 5, 1) := by decide +kernel
theorem d_X4_copyFrom_144 : decode prog_6_method_3_code 144 = .ok (.invokestatic 59, 3) := by decide +kernel
theorem d_X4_copyFrom_147 : decode prog_6_method_3_code 147 = .ok (.return_, 1) := by decide +kernel
def m_X4_copyFrom_b105 (sh : Sh) (v0 : Nat) (v1 : Nat) (μ : Mu) : Option Mu :=
  gd (iz sh 4 v1) <|
  bd (gR μ v1 7) fun a34 =>
  gd (iz sh 4 v0) <|
  bd (gR μ v0 7) fun a36 =>
  gd (ixC sh a34 0 5) <|
  gd (ixC sh a36 0 5) <|
  bd (cpI μ a34 a36 (0 : Int32).toNatClampNeg (0 : Int32).toNatClampNeg (5 : Int32).toNatClampNeg) fun μ39 =>
  bd (gR μ39 v1 8) fun a40 =>
  bd (gR μ39 v0 8) fun a41 =>
  gd (ixC sh a40 0 5) <|
  gd (ixC sh a41 0 5) <|
  bd (cpI μ39 a40 a41 (0 : Int32).toNatClampNeg (0 : Int32).toNatClampNeg (5 : Int32).toNatClampNeg) fun μ44 =>
  bd (gR μ44 v1 9) fun a45 =>
  bd (gR μ44 v0 9) fun a46 =>
  gd (ixC sh a45 0 5) <|
  gd (ixC sh a46 0 5) <|
  bd (cpI μ44 a45 a46 (0 : Int32).toNatClampNeg (0 : Int32).toNatClampNeg (5 : Int32).toNatClampNeg) fun μ49 =>
  some μ49
def m_X4_copyFrom_b79 (sh : Sh) (k79 : Int32 → Mu → Option Mu) (v0 : Nat) (v1 : Nat) (v2 : Int32) (μ : Mu) : Option Mu :=
  if 2 ≤ v2 then
    m_X4_copyFrom_b105 sh v0 v1 μ
  else
    gd (iz sh 4 v0) <|
    bd (gR μ v0 6) fun a23 =>
    gd (ix sh 11 a23 v2) <|
    bd (gR μ a23 v2.toNatClampNeg) fun a25 =>
    gd (iz sh 4 v1) <|
    bd (gR μ v1 6) fun a27 =>
    gd (ix sh 11 a27 v2) <|
    bd (gR μ a27 v2.toNatClampNeg) fun a29 =>
    gd (iz sh 5 a25) <|
    ca (m_X5_copyFrom sh a25 a29 μ) fun μ31 =>
    bd (v2 + 1) fun w32 =>
    k79 w32 μ31
def m_X4_copyFrom_h79 (sh : Sh) (v0 : Nat) (v1 : Nat) : Nat → Int32 → Mu → Option Mu
  | 0 => fun _ _ => none
  | f + 1 => fun v2 μ => m_X4_copyFrom_b79 sh (m_X4_copyFrom_h79 sh v0 v1 f) v0 v1 v2 μ
def m_X4_copyFrom_b77 (sh : Sh) (v0 : Nat) (v1 : Nat) (μ : Mu) : Option Mu :=
  m_X4_copyFrom_h79 sh v0 v1 FU 0 μ
def m_X4_copyFrom_b42 (sh : Sh) (k42 : Int32 → Mu → Option Mu) (v0 : Nat) (v1 : Nat) (v2 : Int32) (μ : Mu) : Option Mu :=
  gd (iz sh 4 v0) <|
  if (gI μ v0 4) ≤ v2 then
    m_X4_copyFrom_b77 sh v0 v1 μ
  else
    if 8 ≤ v2 then
      m_X4_copyFrom_b77 sh v0 v1 μ
    else
      bd (gR μ v0 5) fun a11 =>
      gd (ix sh 11 a11 v2) <|
      bd (gR μ a11 v2.toNatClampNeg) fun a13 =>
      gd (iz sh 4 v1) <|
      bd (gR μ v1 5) fun a15 =>
      gd (ix sh 11 a15 v2) <|
      bd (gR μ a15 v2.toNatClampNeg) fun a17 =>
      gd (iz sh 5 a13) <|
      ca (m_X5_copyFrom sh a13 a17 μ) fun μ19 =>
      bd (v2 + 1) fun w20 =>
      k42 w20 μ19
def m_X4_copyFrom_h42 (sh : Sh) (v0 : Nat) (v1 : Nat) : Nat → Int32 → Mu → Option Mu
  | 0 => fun _ _ => none
  | f + 1 => fun v2 μ => m_X4_copyFrom_b42 sh (m_X4_copyFrom_h42 sh v0 v1 f) v0 v1 v2 μ
def m_X4_copyFrom (sh : Sh) (v0 : Nat) (v1 : Nat) (μ : Mu) : Option Mu :=
  gd (iz sh 4 v1) <|
  gd (iz sh 4 v0) <|
  bd (sJ μ v0 0 (gJ μ v1 0)) fun μ3 =>
  bd (sI μ3 v0 1 (gI μ3 v1 1)) fun μ4 =>
  bd (sI μ4 v0 2 (gI μ4 v1 2)) fun μ5 =>
  bd (sI μ5 v0 3 (gI μ5 v1 3)) fun μ6 =>
  bd (sI μ6 v0 4 (gI μ6 v1 4)) fun μ7 =>
  m_X4_copyFrom_h42 sh v0 v1 FU 0 μ7
set_option maxHeartbeats 4000000 in
set_option maxRecDepth 20000 in
theorem t_X4_copyFrom_b105 {l : Launch} {G : Gl} {n : Nat} {sh : Sh} {x : Mu} {v0 : Nat} {v1 : Nat} {μ : Mu} (h : m_X4_copyFrom_b105 sh v0 v1 μ = some x) : Sj l G (QV G n sh x) c_X4_copyFrom n sh 0 0 μ 105 [some (vr v0), some (vr v1), none] [] := by
  unfold m_X4_copyFrom_b105 at h
  refine s_aload_n (pc := 105) d_X4_copyFrom_105 rfl rfl ?_
  obtain ⟨g33, h⟩ := gd_1 h
  refine s_getR (pc := 106) (k := 7) cl_4 d_X4_copyFrom_106 g33 (by decide) w_110 (rt_arr _) ?_
  obtain ⟨a34, ea34, h⟩ := bd_1 h
  refine s_topR ea34 ?_
  refine s_iconst (pc := 109) (v := 0) d_X4_copyFrom_109 (by decide) ?_
  refine s_aload_n (pc := 110) d_X4_copyFrom_110 rfl rfl ?_
  obtain ⟨g35, h⟩ := gd_1 h
  refine s_getR (pc := 111) (k := 7) cl_4 d_X4_copyFrom_111 g35 (by decide) w_110 (rt_arr _) ?_
  obtain ⟨a36, ea36, h⟩ := bd_1 h
  refine s_topR ea36 ?_
  refine s_iconst (pc := 114) (v := 0) d_X4_copyFrom_114 (by decide) ?_
  refine s_iconst (pc := 115) (v := 5) d_X4_copyFrom_115 (by decide) ?_
  obtain ⟨g37, h⟩ := gd_1 h
  obtain ⟨g38, h⟩ := gd_1 h
  refine s_copyI (pc := 116) d_X4_copyFrom_116 g37 g38 w_394 w_393 w_392 w_11 (by decide) (Nat.le_of_ble_eq_true rfl) ?_
  obtain ⟨μ39, eμ39, h⟩ := bd_1 h
  refine s_mu eμ39 ?_
  refine s_aload_n (pc := 119) d_X4_copyFrom_119 rfl rfl ?_
  refine s_getR (pc := 120) (k := 8) cl_4 d_X4_copyFrom_120 g33 (by decide) w_111 (rt_arr _) ?_
  obtain ⟨a40, ea40, h⟩ := bd_1 h
  refine s_topR ea40 ?_
  refine s_iconst (pc := 123) (v := 0) d_X4_copyFrom_123 (by decide) ?_
  refine s_aload_n (pc := 124) d_X4_copyFrom_124 rfl rfl ?_
  refine s_getR (pc := 125) (k := 8) cl_4 d_X4_copyFrom_125 g35 (by decide) w_111 (rt_arr _) ?_
  obtain ⟨a41, ea41, h⟩ := bd_1 h
  refine s_topR ea41 ?_
  refine s_iconst (pc := 128) (v := 0) d_X4_copyFrom_128 (by decide) ?_
  refine s_iconst (pc := 129) (v := 5) d_X4_copyFrom_129 (by decide) ?_
  obtain ⟨g42, h⟩ := gd_1 h
  obtain ⟨g43, h⟩ := gd_1 h
  refine s_copyI (pc := 130) d_X4_copyFrom_130 g42 g43 w_394 w_393 w_392 w_11 (by decide) (Nat.le_of_ble_eq_true rfl) ?_
  obtain ⟨μ44, eμ44, h⟩ := bd_1 h
  refine s_mu eμ44 ?_
  refine s_aload_n (pc := 133) d_X4_copyFrom_133 rfl rfl ?_
  refine s_getR (pc := 134) (k := 9) cl_4 d_X4_copyFrom_134 g33 (by decide) w_112 (rt_arr _) ?_
  obtain ⟨a45, ea45, h⟩ := bd_1 h
  refine s_topR ea45 ?_
  refine s_iconst (pc := 137) (v := 0) d_X4_copyFrom_137 (by decide) ?_
  refine s_aload_n (pc := 138) d_X4_copyFrom_138 rfl rfl ?_
  refine s_getR (pc := 139) (k := 9) cl_4 d_X4_copyFrom_139 g35 (by decide) w_112 (rt_arr _) ?_
  obtain ⟨a46, ea46, h⟩ := bd_1 h
  refine s_topR ea46 ?_
  refine s_iconst (pc := 142) (v := 0) d_X4_copyFrom_142 (by decide) ?_
  refine s_iconst (pc := 143) (v := 5) d_X4_copyFrom_143 (by decide) ?_
  obtain ⟨g47, h⟩ := gd_1 h
  obtain ⟨g48, h⟩ := gd_1 h
  refine s_copyI (pc := 144) d_X4_copyFrom_144 g47 g48 w_394 w_393 w_392 w_11 (by decide) (Nat.le_of_ble_eq_true rfl) ?_
  obtain ⟨μ49, eμ49, h⟩ := bd_1 h
  refine s_mu eμ49 ?_
  obtain rfl := Option.some.inj h
  exact s_vret (pc := 147) d_X4_copyFrom_147 rfl
set_option maxHeartbeats 4000000 in
set_option maxRecDepth 20000 in
theorem t_X4_copyFrom_b79 {l : Launch} {G : Gl} {n : Nat} {sh : Sh} {x : Mu} {k79 : Int32 → Mu → Option Mu} {v0 : Nat} {v1 : Nat} {v2 : Int32} {μ : Mu} (hk79 : ∀ (v2 : Int32) (μ : Mu), k79 v2 μ = some x → Sj l G (QV G n sh x) c_X4_copyFrom n sh 0 0 μ 79 [some (vr v0), some (vr v1), some (vi v2)] []) (h : m_X4_copyFrom_b79 sh k79 v0 v1 v2 μ = some x) : Sj l G (QV G n sh x) c_X4_copyFrom n sh 0 0 μ 79 [some (vr v0), some (vr v1), some (vi v2)] [] := by
  unfold m_X4_copyFrom_b79 at h
  refine s_iload_n (pc := 79) d_X4_copyFrom_79 rfl rfl ?_
  refine s_iconst (pc := 80) (v := 2) d_X4_copyFrom_80 (by decide) ?_
  refine s_icmp_ge (pc := 81) (tgt := 105) d_X4_copyFrom_81 (by decide) (fun c21 => ?_) (fun c21 => ?_)
  · have h := it_t c21 h
    refine s_mask [true, true, false] rfl ?_
    exact t_X4_copyFrom_b105 h
  · have h := it_f c21 h
    refine s_aload_n (pc := 84) d_X4_copyFrom_84 rfl rfl ?_
    obtain ⟨g22, h⟩ := gd_1 h
    refine s_getR (pc := 85) (k := 6) cl_4 d_X4_copyFrom_85 g22 (by decide) w_109 (rt_arr _) ?_
    obtain ⟨a23, ea23, h⟩ := bd_1 h
    refine s_topR ea23 ?_
    refine s_iload_n (pc := 88) d_X4_copyFrom_88 rfl rfl ?_
    obtain ⟨g24, h⟩ := gd_1 h
    refine s_aald11 (pc := 89) d_X4_copyFrom_89 g24 ?_
    obtain ⟨a25, ea25, h⟩ := bd_1 h
    refine s_topR ea25 ?_
    refine s_aload_n (pc := 90) d_X4_copyFrom_90 rfl rfl ?_
    obtain ⟨g26, h⟩ := gd_1 h
    refine s_getR (pc := 91) (k := 6) cl_4 d_X4_copyFrom_91 g26 (by decide) w_109 (rt_arr _) ?_
    obtain ⟨a27, ea27, h⟩ := bd_1 h
    refine s_topR ea27 ?_
    refine s_iload_n (pc := 94) d_X4_copyFrom_94 rfl rfl ?_
    obtain ⟨g28, h⟩ := gd_1 h
    refine s_aald11 (pc := 95) d_X4_copyFrom_95 g28 ?_
    obtain ⟨a29, ea29, h⟩ := bd_1 h
    refine s_topR ea29 ?_
    obtain ⟨g30, h⟩ := gd_1 h
    obtain ⟨μ31, eμ31, h⟩ := ca_1 h
    refine s_callV (pc := 96) (as := [vr a29]) (st := []) (vo := []) (t_X5_copyFrom eμ31) cl_5 g30 d_X4_copyFrom_96 y_X5_copyFrom w_387 w_388 w_389 ⟨by decide, by decide⟩ ⟨Nat.le_of_ble_eq_true rfl, Nat.le_of_ble_eq_true rfl⟩ (Nat.le_of_ble_eq_true rfl) rfl rfl rfl ?_
    refine s_as (kc' := 0) (js' := 0) (pc' := 99) (st' := []) ⟨rfl, rfl, rfl, rfl⟩ ?_
    obtain ⟨w32, ew32, h⟩ := bd_1 h
    refine s_iinc (pc := 99) (v := w32) (lc' := [some (vr v0), some (vr v1), some (vi w32)]) d_X4_copyFrom_99 rfl (by rw [ew32]; rfl) (by decide) rfl ?_
    refine s_goto (pc := 102) (tgt := 79) d_X4_copyFrom_102 (by decide) ?_
    exact hk79 _ _ h
set_option maxHeartbeats 4000000 in
set_option maxRecDepth 20000 in
theorem t_X4_copyFrom_h79 {l : Launch} {G : Gl} {n : Nat} {sh : Sh} {x : Mu} {v0 : Nat} {v1 : Nat} : ∀ (f : Nat) (v2 : Int32) (μ : Mu), m_X4_copyFrom_h79 sh v0 v1 f v2 μ = some x → Sj l G (QV G n sh x) c_X4_copyFrom n sh 0 0 μ 79 [some (vr v0), some (vr v1), some (vi v2)] [] := by
  intro f
  induction f with
  | zero =>
    intro v2 μ h
    cases h
  | succ f ih =>
    intro v2 μ h
    exact t_X4_copyFrom_b79 ih h
set_option maxHeartbeats 4000000 in
set_option maxRecDepth 20000 in
theorem t_X4_copyFrom_b77 {l : Launch} {G : Gl} {n : Nat} {sh : Sh} {x : Mu} {v0 : Nat} {v1 : Nat} {μ : Mu} (h : m_X4_copyFrom_b77 sh v0 v1 μ = some x) : Sj l G (QV G n sh x) c_X4_copyFrom n sh 0 0 μ 77 [some (vr v0), some (vr v1), none] [] := by
  unfold m_X4_copyFrom_b77 at h
  refine s_iconst (pc := 77) (v := 0) d_X4_copyFrom_77 (by decide) ?_
  refine s_istore_n (pc := 78) (lc' := [some (vr v0), some (vr v1), some (vi 0)]) d_X4_copyFrom_78 rfl (by decide) rfl ?_
  exact t_X4_copyFrom_h79 FU _ _ h
set_option maxHeartbeats 4000000 in
set_option maxRecDepth 20000 in
theorem t_X4_copyFrom_b42 {l : Launch} {G : Gl} {n : Nat} {sh : Sh} {x : Mu} {k42 : Int32 → Mu → Option Mu} {v0 : Nat} {v1 : Nat} {v2 : Int32} {μ : Mu} (hk42 : ∀ (v2 : Int32) (μ : Mu), k42 v2 μ = some x → Sj l G (QV G n sh x) c_X4_copyFrom n sh 0 0 μ 42 [some (vr v0), some (vr v1), some (vi v2)] []) (h : m_X4_copyFrom_b42 sh k42 v0 v1 v2 μ = some x) : Sj l G (QV G n sh x) c_X4_copyFrom n sh 0 0 μ 42 [some (vr v0), some (vr v1), some (vi v2)] [] := by
  unfold m_X4_copyFrom_b42 at h
  refine s_iload_n (pc := 42) d_X4_copyFrom_42 rfl rfl ?_
  refine s_aload_n (pc := 43) d_X4_copyFrom_43 rfl rfl ?_
  obtain ⟨g8, h⟩ := gd_1 h
  refine s_getI (pc := 44) (k := 4) cl_4 d_X4_copyFrom_44 g8 (by decide) w_102 rfl ?_
  refine s_icmp_ge (pc := 47) (tgt := 77) d_X4_copyFrom_47 (by decide) (fun c9 => ?_) (fun c9 => ?_)
  · have h := it_t c9 h
    refine s_mask [true, true, false] rfl ?_
    exact t_X4_copyFrom_b77 h
  · have h := it_f c9 h
    refine s_iload_n (pc := 50) d_X4_copyFrom_50 rfl rfl ?_
    refine s_bipush (pc := 51) (v := 8) d_X4_copyFrom_51 (by decide) ?_
    refine s_icmp_ge (pc := 53) (tgt := 77) d_X4_copyFrom_53 (by decide) (fun c10 => ?_) (fun c10 => ?_)
    · have h := it_t c10 h
      refine s_mask [true, true, false] rfl ?_
      exact t_X4_copyFrom_b77 h
    · have h := it_f c10 h
      refine s_aload_n (pc := 56) d_X4_copyFrom_56 rfl rfl ?_
      refine s_getR (pc := 57) (k := 5) cl_4 d_X4_copyFrom_57 g8 (by decide) w_105 (rt_arr _) ?_
      obtain ⟨a11, ea11, h⟩ := bd_1 h
      refine s_topR ea11 ?_
      refine s_iload_n (pc := 60) d_X4_copyFrom_60 rfl rfl ?_
      obtain ⟨g12, h⟩ := gd_1 h
      refine s_aald11 (pc := 61) d_X4_copyFrom_61 g12 ?_
      obtain ⟨a13, ea13, h⟩ := bd_1 h
      refine s_topR ea13 ?_
      refine s_aload_n (pc := 62) d_X4_copyFrom_62 rfl rfl ?_
      obtain ⟨g14, h⟩ := gd_1 h
      refine s_getR (pc := 63) (k := 5) cl_4 d_X4_copyFrom_63 g14 (by decide) w_105 (rt_arr _) ?_
      obtain ⟨a15, ea15, h⟩ := bd_1 h
      refine s_topR ea15 ?_
      refine s_iload_n (pc := 66) d_X4_copyFrom_66 rfl rfl ?_
      obtain ⟨g16, h⟩ := gd_1 h
      refine s_aald11 (pc := 67) d_X4_copyFrom_67 g16 ?_
      obtain ⟨a17, ea17, h⟩ := bd_1 h
      refine s_topR ea17 ?_
      obtain ⟨g18, h⟩ := gd_1 h
      obtain ⟨μ19, eμ19, h⟩ := ca_1 h
      refine s_callV (pc := 68) (as := [vr a17]) (st := []) (vo := []) (t_X5_copyFrom eμ19) cl_5 g18 d_X4_copyFrom_68 y_X5_copyFrom w_387 w_388 w_389 ⟨by decide, by decide⟩ ⟨Nat.le_of_ble_eq_true rfl, Nat.le_of_ble_eq_true rfl⟩ (Nat.le_of_ble_eq_true rfl) rfl rfl rfl ?_
      refine s_as (kc' := 0) (js' := 0) (pc' := 71) (st' := []) ⟨rfl, rfl, rfl, rfl⟩ ?_
      obtain ⟨w20, ew20, h⟩ := bd_1 h
      refine s_iinc (pc := 71) (v := w20) (lc' := [some (vr v0), some (vr v1), some (vi w20)]) d_X4_copyFrom_71 rfl (by rw [ew20]; rfl) (by decide) rfl ?_
      refine s_goto (pc := 74) (tgt := 42) d_X4_copyFrom_74 (by decide) ?_
      exact hk42 _ _ h
set_option maxHeartbeats 4000000 in
set_option maxRecDepth 20000 in
theorem t_X4_copyFrom_h42 {l : Launch} {G : Gl} {n : Nat} {sh : Sh} {x : Mu} {v0 : Nat} {v1 : Nat} : ∀ (f : Nat) (v2 : Int32) (μ : Mu), m_X4_copyFrom_h42 sh v0 v1 f v2 μ = some x → Sj l G (QV G n sh x) c_X4_copyFrom n sh 0 0 μ 42 [some (vr v0), some (vr v1), some (vi v2)] [] := by
  intro f
  induction f with
  | zero =>
    intro v2 μ h
    cases h
  | succ f ih =>
    intro v2 μ h
    exact t_X4_copyFrom_b42 ih h
set_option maxHeartbeats 4000000 in
set_option maxRecDepth 20000 in
theorem t_X4_copyFrom {l : Launch} {G : Gl} {n : Nat} {sh : Sh} {x : Mu} {v0 : Nat} {v1 : Nat} {μ : Mu} (h : m_X4_copyFrom sh v0 v1 μ = some x) : Ct l G ⟨"StripsOfFour$Scene", "copyFrom", "(LStripsOfFour$Scene;)V"⟩ prog_6_method_3_code 3 none { frames := 2, cells := 0, slots := 0, locals := 89 } n sh μ [vr v0, vr v1] none n sh x := by
  refine Ct.of (lc := [some (vr v0), some (vr v1), none]) (by decide +kernel) (Nat.le_of_ble_eq_true rfl) rfl ?_
  show Sj l G (QV G n sh x) c_X4_copyFrom n sh 0 0 μ 0 [some (vr v0), some (vr v1), none] []
  unfold m_X4_copyFrom at h
  refine s_aload_n (pc := 0) d_X4_copyFrom_0 rfl rfl ?_
  refine s_aload_n (pc := 1) d_X4_copyFrom_1 rfl rfl ?_
  obtain ⟨g1, h⟩ := gd_1 h
  refine s_getJ (pc := 2) (k := 0) cl_4 d_X4_copyFrom_2 g1 (by decide) w_94 rfl ?_
  obtain ⟨g2, h⟩ := gd_1 h
  refine s_putJ (pc := 5) (k := 0) cl_4 d_X4_copyFrom_5 g2 (by decide) w_94 rfl rfl ?_
  obtain ⟨μ3, eμ3, h⟩ := bd_1 h
  refine s_mu eμ3 ?_
  refine s_aload_n (pc := 8) d_X4_copyFrom_8 rfl rfl ?_
  refine s_aload_n (pc := 9) d_X4_copyFrom_9 rfl rfl ?_
  refine s_getI (pc := 10) (k := 1) cl_4 d_X4_copyFrom_10 g1 (by decide) w_96 rfl ?_
  refine s_putI (pc := 13) (k := 1) cl_4 d_X4_copyFrom_13 g2 (by decide) w_96 rfl rfl ?_
  obtain ⟨μ4, eμ4, h⟩ := bd_1 h
  refine s_mu eμ4 ?_
  refine s_aload_n (pc := 16) d_X4_copyFrom_16 rfl rfl ?_
  refine s_aload_n (pc := 17) d_X4_copyFrom_17 rfl rfl ?_
  refine s_getI (pc := 18) (k := 2) cl_4 d_X4_copyFrom_18 g1 (by decide) w_98 rfl ?_
  refine s_putI (pc := 21) (k := 2) cl_4 d_X4_copyFrom_21 g2 (by decide) w_98 rfl rfl ?_
  obtain ⟨μ5, eμ5, h⟩ := bd_1 h
  refine s_mu eμ5 ?_
  refine s_aload_n (pc := 24) d_X4_copyFrom_24 rfl rfl ?_
  refine s_aload_n (pc := 25) d_X4_copyFrom_25 rfl rfl ?_
  refine s_getI (pc := 26) (k := 3) cl_4 d_X4_copyFrom_26 g1 (by decide) w_100 rfl ?_
  refine s_putI (pc := 29) (k := 3) cl_4 d_X4_copyFrom_29 g2 (by decide) w_100 rfl rfl ?_
  obtain ⟨μ6, eμ6, h⟩ := bd_1 h
  refine s_mu eμ6 ?_
  refine s_aload_n (pc := 32) d_X4_copyFrom_32 rfl rfl ?_
  refine s_aload_n (pc := 33) d_X4_copyFrom_33 rfl rfl ?_
  refine s_getI (pc := 34) (k := 4) cl_4 d_X4_copyFrom_34 g1 (by decide) w_102 rfl ?_
  refine s_putI (pc := 37) (k := 4) cl_4 d_X4_copyFrom_37 g2 (by decide) w_102 rfl rfl ?_
  obtain ⟨μ7, eμ7, h⟩ := bd_1 h
  refine s_mu eμ7 ?_
  refine s_iconst (pc := 40) (v := 0) d_X4_copyFrom_40 (by decide) ?_
  refine s_istore_n (pc := 41) (lc' := [some (vr v0), some (vr v1), some (vi 0)]) d_X4_copyFrom_41 rfl (by decide) rfl ?_
  exact t_X4_copyFrom_h42 FU _ _ h
/-! StripsOfFour$Scene.seenNear -/
abbrev c_X4_seenNear : Cf := (prog_6_method_20_code, 7, "StripsOfFour$Scene", "seenNear", (some .int), { frames := 1, cells := 0, slots := 0, locals := 22 })
theorem d_X4_seenNear_0 : decode prog_6_method_20_code 0 = .ok (.iconst 0, 1) := by decide +kernel
theorem d_X4_seenNear_1 : decode prog_6_method_20_code 1 = .ok (.istore 4, 2) := by decide +kernel
theorem d_X4_seenNear_3 : decode prog_6_method_20_code 3 = .ok (.iconst 0, 1) := by decide +kernel
theorem d_X4_seenNear_4 : decode prog_6_method_20_code 4 = .ok (.istore 5, 2) := by decide +kernel
theorem d_X4_seenNear_6 : decode prog_6_method_20_code 6 = .ok (.iload 5, 2) := by decide +kernel
theorem d_X4_seenNear_8 : decode prog_6_method_20_code 8 = .ok (.aload_n 0, 1) := by decide +kernel
theorem d_X4_seenNear_9 : decode prog_6_method_20_code 9 = .ok (.getfield 25, 3) := by decide +kernel
theorem d_X4_seenNear_12 : decode prog_6_method_20_code 12 = .ok (.if_icmp .ge 89, 3) := by decide +kernel
theorem d_X4_seenNear_15 : decode prog_6_method_20_code 15 = .ok (.iload 5, 2) := by decide +kernel
theorem d_X4_seenNear_17 : decode prog_6_method_20_code 17 = .ok (.bipush 8, 2) := by decide +kernel
theorem d_X4_seenNear_19 : decode prog_6_method_20_code 19 = .ok (.if_icmp .ge 82, 3) := by decide +kernel
theorem d_X4_seenNear_22 : decode prog_6_method_20_code 22 = .ok (.iconst 0, 1) := by decide +kernel
theorem d_X4_seenNear_23 : decode prog_6_method_20_code 23 = .ok (.istore 6, 2) := by decide +kernel
theorem d_X4_seenNear_25 : decode prog_6_method_20_code 25 = .ok (.iload 6, 2) := by decide +kernel
theorem d_X4_seenNear_27 : decode prog_6_method_20_code 27 = .ok (.iconst 4, 1) := by decide +kernel
theorem d_X4_seenNear_28 : decode prog_6_method_20_code 28 = .ok (.if_icmp .ge 67, 3) := by decide +kernel
theorem d_X4_seenNear_31 : decode prog_6_method_20_code 31 = .ok (.aload_n 0, 1) := by decide +kernel
theorem d_X4_seenNear_32 : decode prog_6_method_20_code 32 = .ok (.getfield 30, 3) := by decide +kernel
theorem d_X4_seenNear_35 : decode prog_6_method_20_code 35 = .ok (.iload 5, 2) := by decide +kernel
theorem d_X4_seenNear_37 : decode prog_6_method_20_code 37 = .ok (.aaload, 1) := by decide +kernel
theorem d_X4_seenNear_38 : decode prog_6_method_20_code 38 = .ok (.getfield 111, 3) := by decide +kernel
theorem d_X4_seenNear_41 : decode prog_6_method_20_code 41 = .ok (.iload_n 1, 1) := by decide +kernel
theorem d_X4_seenNear_42 : decode prog_6_method_20_code 42 = .ok (.if_icmp .ne 47, 3) := by decide +kernel
theorem d_X4_seenNear_45 : decode prog_6_method_20_code 45 = .ok (.aload_n 0, 1) := by decide +kernel
theorem d_X4_seenNear_46 : decode prog_6_method_20_code 46 = .ok (.getfield 30, 3) := by decide +kernel
theorem d_X4_seenNear_49 : decode prog_6_method_20_code 49 = .ok (.iload 5, 2) := by decide +kernel
theorem d_X4_seenNear_51 : decode prog_6_method_20_code 51 = .ok (.aaload, 1) := by decide +kernel
theorem d_X4_seenNear_52 : decode prog_6_method_20_code 52 = .ok (.iload 6, 2) := by decide +kernel
theorem d_X4_seenNear_54 : decode prog_6_method_20_code 54 = .ok (.iconst 0, 1) := by decide +kernel
theorem d_X4_seenNear_55 : decode prog_6_method_20_code 55 = .ok (.invokevirtual 123, 3) := by decide +kernel
theorem d_X4_seenNear_58 : decode prog_6_method_20_code 58 = .ok (.iload_n 2, 1) := by decide +kernel
theorem d_X4_seenNear_59 : decode prog_6_method_20_code 59 = .ok (.isub, 1) := by decide +kernel
theorem d_X4_seenNear_60 : decode prog_6_method_20_code 60 = .ok (.invokestatic 126, 3) := by decide +kernel
theorem d_X4_seenNear_63 : decode prog_6_method_20_code 63 = .ok (.iconst 1, 1) := by decide +kernel
theorem d_X4_seenNear_64 : decode prog_6_method_20_code 64 = .ok (.iload_n 3, 1) := by decide +kernel
theorem d_X4_seenNear_65 : decode prog_6_method_20_code 65 = .ok (.invokestatic 129, 3) := by decide +kernel
theorem d_X4_seenNear_68 : decode prog_6_method_20_code 68 = .ok (.if_icmp .ge 21, 3) := by decide +kernel
theorem d_X4_seenNear_71 : decode prog_6_method_20_code 71 = .ok (.iload 4, 2) := by decide +kernel
theorem d_X4_seenNear_73 : decode prog_6_method_20_code 73 = .ok (.aload_n 0, 1) := by decide +kernel
theorem d_X4_seenNear_74 : decode prog_6_method_20_code 74 = .ok (.getfield 30, 3) := by decide +kernel
theorem d_X4_seenNear_77 : decode prog_6_method_20_code 77 = .ok (.iload 5, 2) := by decide +kernel
theorem d_X4_seenNear_79 : decode prog_6_method_20_code 79 = .ok (.aaload, 1) := by decide +kernel
theorem d_X4_seenNear_80 : decode prog_6_method_20_code 80 = .ok (.iload 6, 2) := by decide +kernel
theorem d_X4_seenNear_82 : decode prog_6_method_20_code 82 = .ok (.iconst 1, 1) := by decide +kernel
theorem d_X4_seenNear_83 : decode prog_6_method_20_code 83 = .ok (.invokevirtual 123, 3) := by decide +kernel
theorem d_X4_seenNear_86 : decode prog_6_method_20_code 86 = .ok (.ior, 1) := by decide +kernel
theorem d_X4_seenNear_87 : decode prog_6_method_20_code 87 = .ok (.istore 4, 2) := by decide +kernel
theorem d_X4_seenNear_89 : decode prog_6_method_20_code 89 = .ok (.iinc 6 1, 3) := by decide +kernel
theorem d_X4_seenNear_92 : decode prog_6_method_20_code 92 = .ok (.goto (-67), 3) := by decide +kernel
theorem d_X4_seenNear_95 : decode prog_6_method_20_code 95 = .ok (.iinc 5 1, 3) := by decide +kernel
theorem d_X4_seenNear_98 : decode prog_6_method_20_code 98 = .ok (.goto (-92), 3) := by decide +kernel
theorem d_X4_seenNear_101 : decode prog_6_method_20_code 101 = .ok (.iload 4, 2) := by decide +kernel
theorem d_X4_seenNear_103 : decode prog_6_method_20_code 103 = .ok (.ireturn, 1) := by decide +kernel
def m_X4_seenNear_b89 (sh : Sh) (k6 : Int32 → Int32 → Mu → Option (Int32 × Mu)) (k25 : Int32 → Int32 → Mu → Option (Int32 × Mu)) (v0 : Nat) (v1 : Int32) (v2 : Int32) (v3 : Int32) (v4 : Int32) (v5 : Int32) (v6 : Int32) (μ : Mu) : Option (Int32 × Mu) :=
  bd (v6 + 1) fun w30 =>
  k25 v4 w30 μ
def m_X4_seenNear_b95 (sh : Sh) (k6 : Int32 → Int32 → Mu → Option (Int32 × Mu)) (v0 : Nat) (v1 : Int32) (v2 : Int32) (v3 : Int32) (v4 : Int32) (v5 : Int32) (μ : Mu) : Option (Int32 × Mu) :=
  bd (v5 + 1) fun w29 =>
  k6 v4 w29 μ
def m_X4_seenNear_b25 (sh : Sh) (k6 : Int32 → Int32 → Mu → Option (Int32 × Mu)) (k25 : Int32 → Int32 → Mu → Option (Int32 × Mu)) (v0 : Nat) (v1 : Int32) (v2 : Int32) (v3 : Int32) (v4 : Int32) (v5 : Int32) (v6 : Int32) (μ : Mu) : Option (Int32 × Mu) :=
  if 4 ≤ v6 then
    m_X4_seenNear_b95 sh k6 v0 v1 v2 v3 v4 v5 μ
  else
    gd (iz sh 4 v0) <|
    bd (gR μ v0 5) fun a6 =>
    gd (ix sh 11 a6 v5) <|
    bd (gR μ a6 v5.toNatClampNeg) fun a8 =>
    gd (iz sh 5 a8) <|
    if (gI μ a8 0) = v1 then
      bd (gR μ v0 5) fun a11 =>
      gd (ix sh 11 a11 v5) <|
      bd (gR μ a11 v5.toNatClampNeg) fun a13 =>
      gd (iz sh 5 a13) <|
      ca2 (m_X5_cell sh a13 v6 0 μ) fun r15 μ16 =>
      ca2 (m_J9_abs_0f7a4 sh (r15 - v2) μ16) fun r17 μ18 =>
      ca2 (m_J9_max_7cf53 sh 1 v3 μ18) fun r19 μ20 =>
      if r19 ≤ r17 then
        m_X4_seenNear_b89 sh k6 k25 v0 v1 v2 v3 v4 v5 v6 μ20
      else
        bd (gR μ20 v0 5) fun a22 =>
        gd (ix sh 11 a22 v5) <|
        bd (gR μ20 a22 v5.toNatClampNeg) fun a24 =>
        gd (iz sh 5 a24) <|
        ca2 (m_X5_cell sh a24 v6 1 μ20) fun r26 μ27 =>
        bd (v4 ||| r26) fun w28 =>
        m_X4_seenNear_b89 sh k6 k25 v0 v1 v2 v3 w28 v5 v6 μ27
    else
      m_X4_seenNear_b89 sh k6 k25 v0 v1 v2 v3 v4 v5 v6 μ
def m_X4_seenNear_h25 (sh : Sh) (k6 : Int32 → Int32 → Mu → Option (Int32 × Mu)) (v0 : Nat) (v1 : Int32) (v2 : Int32) (v3 : Int32) (v5 : Int32) : Nat → Int32 → Int32 → Mu → Option (Int32 × Mu)
  | 0 => fun _ _ _ => none
  | f + 1 => fun v4 v6 μ => m_X4_seenNear_b25 sh k6 (m_X4_seenNear_h25 sh k6 v0 v1 v2 v3 v5 f) v0 v1 v2 v3 v4 v5 v6 μ
def m_X4_seenNear_b6 (sh : Sh) (k6 : Int32 → Int32 → Mu → Option (Int32 × Mu)) (v0 : Nat) (v1 : Int32) (v2 : Int32) (v3 : Int32) (v4 : Int32) (v5 : Int32) (μ : Mu) : Option (Int32 × Mu) :=
  gd (iz sh 4 v0) <|
  if (gI μ v0 4) ≤ v5 then
    some (v4, μ)
  else
    if 8 ≤ v5 then
      some (v4, μ)
    else
      m_X4_seenNear_h25 sh k6 v0 v1 v2 v3 v5 FU v4 0 μ
def m_X4_seenNear_h6 (sh : Sh) (v0 : Nat) (v1 : Int32) (v2 : Int32) (v3 : Int32) : Nat → Int32 → Int32 → Mu → Option (Int32 × Mu)
  | 0 => fun _ _ _ => none
  | f + 1 => fun v4 v5 μ => m_X4_seenNear_b6 sh (m_X4_seenNear_h6 sh v0 v1 v2 v3 f) v0 v1 v2 v3 v4 v5 μ
def m_X4_seenNear (sh : Sh) (v0 : Nat) (v1 : Int32) (v2 : Int32) (v3 : Int32) (μ : Mu) : Option (Int32 × Mu) :=
  m_X4_seenNear_h6 sh v0 v1 v2 v3 FU 0 0 μ
set_option maxHeartbeats 4000000 in
set_option maxRecDepth 20000 in
theorem t_X4_seenNear_b89 {l : Launch} {G : Gl} {n : Nat} {sh : Sh} {x : Int32 × Mu} {k6 : Int32 → Int32 → Mu → Option (Int32 × Mu)} {k25 : Int32 → Int32 → Mu → Option (Int32 × Mu)} {v0 : Nat} {v1 : Int32} {v2 : Int32} {v3 : Int32} {v4 : Int32} {v5 : Int32} {v6 : Int32} {μ : Mu} (hk6 : ∀ (v4 : Int32) (v5 : Int32) (μ : Mu), k6 v4 v5 μ = some x → Sj l G (QI G n sh x) c_X4_seenNear n sh 0 0 μ 6 [some (vr v0), some (vi v1), some (vi v2), some (vi v3), some (vi v4), some (vi v5), none] []) (hk25 : ∀ (v4 : Int32) (v6 : Int32) (μ : Mu), k25 v4 v6 μ = some x → Sj l G (QI G n sh x) c_X4_seenNear n sh 0 0 μ 25 [some (vr v0), some (vi v1), some (vi v2), some (vi v3), some (vi v4), some (vi v5), some (vi v6)] []) (h : m_X4_seenNear_b89 sh k6 k25 v0 v1 v2 v3 v4 v5 v6 μ = some x) : Sj l G (QI G n sh x) c_X4_seenNear n sh 0 0 μ 89 [some (vr v0), some (vi v1), some (vi v2), some (vi v3), some (vi v4), some (vi v5), some (vi v6)] [] := by
  unfold m_X4_seenNear_b89 at h
  obtain ⟨w30, ew30, h⟩ := bd_1 h
  refine s_iinc (pc := 89) (v := w30) (lc' := [some (vr v0), some (vi v1), some (vi v2), some (vi v3), some (vi v4), some (vi v5), some (vi w30)]) d_X4_seenNear_89 rfl (by rw [ew30]; rfl) (by decide) rfl ?_
  refine s_goto (pc := 92) (tgt := 25) d_X4_seenNear_92 (by decide) ?_
  exact hk25 _ _ _ h
set_option maxHeartbeats 4000000 in
set_option maxRecDepth 20000 in
theorem t_X4_seenNear_b95 {l : Launch} {G : Gl} {n : Nat} {sh : Sh} {x : Int32 × Mu} {k6 : Int32 → Int32 → Mu → Option (Int32 × Mu)} {v0 : Nat} {v1 : Int32} {v2 : Int32} {v3 : Int32} {v4 : Int32} {v5 : Int32} {μ : Mu} (hk6 : ∀ (v4 : Int32) (v5 : Int32) (μ : Mu), k6 v4 v5 μ = some x → Sj l G (QI G n sh x) c_X4_seenNear n sh 0 0 μ 6 [some (vr v0), some (vi v1), some (vi v2), some (vi v3), some (vi v4), some (vi v5), none] []) (h : m_X4_seenNear_b95 sh k6 v0 v1 v2 v3 v4 v5 μ = some x) : Sj l G (QI G n sh x) c_X4_seenNear n sh 0 0 μ 95 [some (vr v0), some (vi v1), some (vi v2), some (vi v3), some (vi v4), some (vi v5), none] [] := by
  unfold m_X4_seenNear_b95 at h
  obtain ⟨w29, ew29, h⟩ := bd_1 h
  refine s_iinc (pc := 95) (v := w29) (lc' := [some (vr v0), some (vi v1), some (vi v2), some (vi v3), some (vi v4), some (vi w29), none]) d_X4_seenNear_95 rfl (by rw [ew29]; rfl) (by decide) rfl ?_
  refine s_goto (pc := 98) (tgt := 6) d_X4_seenNear_98 (by decide) ?_
  exact hk6 _ _ _ h
set_option maxHeartbeats 4000000 in
set_option maxRecDepth 20000 in
theorem t_X4_seenNear_b25 {l : Launch} {G : Gl} {n : Nat} {sh : Sh} {x : Int32 × Mu} {k6 : Int32 → Int32 → Mu → Option (Int32 × Mu)} {k25 : Int32 → Int32 → Mu → Option (Int32 × Mu)} {v0 : Nat} {v1 : Int32} {v2 : Int32} {v3 : Int32} {v4 : Int32} {v5 : Int32} {v6 : Int32} {μ : Mu} (hk6 : ∀ (v4 : Int32) (v5 : Int32) (μ : Mu), k6 v4 v5 μ = some x → Sj l G (QI G n sh x) c_X4_seenNear n sh 0 0 μ 6 [some (vr v0), some (vi v1), some (vi v2), some (vi v3), some (vi v4), some (vi v5), none] []) (hk25 : ∀ (v4 : Int32) (v6 : Int32) (μ : Mu), k25 v4 v6 μ = some x → Sj l G (QI G n sh x) c_X4_seenNear n sh 0 0 μ 25 [some (vr v0), some (vi v1), some (vi v2), some (vi v3), some (vi v4), some (vi v5), some (vi v6)] []) (h : m_X4_seenNear_b25 sh k6 k25 v0 v1 v2 v3 v4 v5 v6 μ = some x) : Sj l G (QI G n sh x) c_X4_seenNear n sh 0 0 μ 25 [some (vr v0), some (vi v1), some (vi v2), some (vi v3), some (vi v4), some (vi v5), some (vi v6)] [] := by
  unfold m_X4_seenNear_b25 at h
  refine s_iload (pc := 25) d_X4_seenNear_25 rfl ?_
  refine s_iconst (pc := 27) (v := 4) d_X4_seenNear_27 (by decide) ?_
  refine s_icmp_ge (pc := 28) (tgt := 95) d_X4_seenNear_28 (by decide) (fun c4 => ?_) (fun c4 => ?_)
  · have h := it_t c4 h
    refine s_mask [true, true, true, true, true, true, false] rfl ?_
    exact t_X4_seenNear_b95 hk6 h
  · have h := it_f c4 h
    refine s_aload_n (pc := 31) d_X4_seenNear_31 rfl rfl ?_
    obtain ⟨g5, h⟩ := gd_1 h
    refine s_getR (pc := 32) (k := 5) cl_4 d_X4_seenNear_32 g5 (by decide) w_105 (rt_arr _) ?_
    obtain ⟨a6, ea6, h⟩ := bd_1 h
    refine s_topR ea6 ?_
    refine s_iload (pc := 35) d_X4_seenNear_35 rfl ?_
    obtain ⟨g7, h⟩ := gd_1 h
    refine s_aald11 (pc := 37) d_X4_seenNear_37 g7 ?_
    obtain ⟨a8, ea8, h⟩ := bd_1 h
    refine s_topR ea8 ?_
    obtain ⟨g9, h⟩ := gd_1 h
    refine s_getI (pc := 38) (k := 0) cl_5 d_X4_seenNear_38 g9 (by decide) w_64 rfl ?_
    refine s_iload_n (pc := 41) d_X4_seenNear_41 rfl rfl ?_
    refine s_icmp_ne (pc := 42) (tgt := 89) d_X4_seenNear_42 (by decide) (fun c10 => ?_) (fun c10 => ?_)
    · have h := it_f c10 h
      exact t_X4_seenNear_b89 hk6 hk25 h
    · have h := it_t c10 h
      refine s_aload_n (pc := 45) d_X4_seenNear_45 rfl rfl ?_
      refine s_getR (pc := 46) (k := 5) cl_4 d_X4_seenNear_46 g5 (by decide) w_105 (rt_arr _) ?_
      obtain ⟨a11, ea11, h⟩ := bd_1 h
      refine s_topR ea11 ?_
      refine s_iload (pc := 49) d_X4_seenNear_49 rfl ?_
      obtain ⟨g12, h⟩ := gd_1 h
      refine s_aald11 (pc := 51) d_X4_seenNear_51 g12 ?_
      obtain ⟨a13, ea13, h⟩ := bd_1 h
      refine s_topR ea13 ?_
      refine s_iload (pc := 52) d_X4_seenNear_52 rfl ?_
      refine s_iconst (pc := 54) (v := 0) d_X4_seenNear_54 (by decide) ?_
      obtain ⟨g14, h⟩ := gd_1 h
      obtain ⟨r15, μ16, er15, h⟩ := ca2_1 h
      refine s_callV (pc := 55) (as := [vi v6, vi 0]) (st := []) (vo := [vi r15]) (t_X5_cell er15) cl_5 g14 d_X4_seenNear_55 y_X5_cell w_574 w_350 w_351 ⟨by decide, by decide⟩ ⟨Nat.le_of_ble_eq_true rfl, Nat.le_of_ble_eq_true rfl⟩ (Nat.le_of_ble_eq_true rfl) rfl rfl rfl ?_
      refine s_as (kc' := 0) (js' := 0) (pc' := 58) (st' := [vi r15]) ⟨rfl, rfl, rfl, rfl⟩ ?_
      refine s_iload_n (pc := 58) d_X4_seenNear_58 rfl rfl ?_
      refine s_isub (pc := 59) d_X4_seenNear_59 ?_
      obtain ⟨r17, μ18, er17, h⟩ := ca2_1 h
      refine s_callS (pc := 60) (as := [vi (r15 - v2)]) (st := []) (vo := [vi r17]) (t_J9_abs_0f7a4 er17) d_X4_seenNear_60 y_J9_abs_0f7a4 w_580 w_581 ⟨by decide, by decide⟩ ⟨Nat.le_of_ble_eq_true rfl, Nat.le_of_ble_eq_true rfl⟩ (Nat.le_of_ble_eq_true rfl) rfl rfl rfl ?_
      refine s_as (kc' := 0) (js' := 0) (pc' := 63) (st' := [vi r17]) ⟨rfl, rfl, rfl, rfl⟩ ?_
      refine s_iconst (pc := 63) (v := 1) d_X4_seenNear_63 (by decide) ?_
      refine s_iload_n (pc := 64) d_X4_seenNear_64 rfl rfl ?_
      obtain ⟨r19, μ20, er19, h⟩ := ca2_1 h
      refine s_callS (pc := 65) (as := [vi 1, vi v3]) (st := [vi r17]) (vo := [vi r19]) (t_J9_max_7cf53 er19) d_X4_seenNear_65 y_J9_max_7cf53 w_583 w_294 ⟨by decide, by decide⟩ ⟨Nat.le_of_ble_eq_true rfl, Nat.le_of_ble_eq_true rfl⟩ (Nat.le_of_ble_eq_true rfl) rfl rfl rfl ?_
      refine s_as (kc' := 0) (js' := 0) (pc' := 68) (st' := [vi r19, vi r17]) ⟨rfl, rfl, rfl, rfl⟩ ?_
      refine s_icmp_ge (pc := 68) (tgt := 89) d_X4_seenNear_68 (by decide) (fun c21 => ?_) (fun c21 => ?_)
      · have h := it_t c21 h
        exact t_X4_seenNear_b89 hk6 hk25 h
      · have h := it_f c21 h
        refine s_iload (pc := 71) d_X4_seenNear_71 rfl ?_
        refine s_aload_n (pc := 73) d_X4_seenNear_73 rfl rfl ?_
        refine s_getR (pc := 74) (k := 5) cl_4 d_X4_seenNear_74 g5 (by decide) w_105 (rt_arr _) ?_
        obtain ⟨a22, ea22, h⟩ := bd_1 h
        refine s_topR ea22 ?_
        refine s_iload (pc := 77) d_X4_seenNear_77 rfl ?_
        obtain ⟨g23, h⟩ := gd_1 h
        refine s_aald11 (pc := 79) d_X4_seenNear_79 g23 ?_
        obtain ⟨a24, ea24, h⟩ := bd_1 h
        refine s_topR ea24 ?_
        refine s_iload (pc := 80) d_X4_seenNear_80 rfl ?_
        refine s_iconst (pc := 82) (v := 1) d_X4_seenNear_82 (by decide) ?_
        obtain ⟨g25, h⟩ := gd_1 h
        obtain ⟨r26, μ27, er26, h⟩ := ca2_1 h
        refine s_callV (pc := 83) (as := [vi v6, vi 1]) (st := [vi v4]) (vo := [vi r26]) (t_X5_cell er26) cl_5 g25 d_X4_seenNear_83 y_X5_cell w_574 w_350 w_351 ⟨by decide, by decide⟩ ⟨Nat.le_of_ble_eq_true rfl, Nat.le_of_ble_eq_true rfl⟩ (Nat.le_of_ble_eq_true rfl) rfl rfl rfl ?_
        refine s_as (kc' := 0) (js' := 0) (pc' := 86) (st' := [vi r26, vi v4]) ⟨rfl, rfl, rfl, rfl⟩ ?_
        refine s_ior (pc := 86) d_X4_seenNear_86 ?_
        obtain ⟨w28, ew28, h⟩ := bd_1 h
        refine s_topI ew28 ?_
        refine s_istore (pc := 87) (lc' := [some (vr v0), some (vi v1), some (vi v2), some (vi v3), some (vi w28), some (vi v5), some (vi v6)]) d_X4_seenNear_87 (by decide) rfl ?_
        exact t_X4_seenNear_b89 hk6 hk25 h
set_option maxHeartbeats 4000000 in
set_option maxRecDepth 20000 in
theorem t_X4_seenNear_h25 {l : Launch} {G : Gl} {n : Nat} {sh : Sh} {x : Int32 × Mu} {k6 : Int32 → Int32 → Mu → Option (Int32 × Mu)} {v0 : Nat} {v1 : Int32} {v2 : Int32} {v3 : Int32} {v5 : Int32} (hk6 : ∀ (v4 : Int32) (v5 : Int32) (μ : Mu), k6 v4 v5 μ = some x → Sj l G (QI G n sh x) c_X4_seenNear n sh 0 0 μ 6 [some (vr v0), some (vi v1), some (vi v2), some (vi v3), some (vi v4), some (vi v5), none] []) : ∀ (f : Nat) (v4 : Int32) (v6 : Int32) (μ : Mu), m_X4_seenNear_h25 sh k6 v0 v1 v2 v3 v5 f v4 v6 μ = some x → Sj l G (QI G n sh x) c_X4_seenNear n sh 0 0 μ 25 [some (vr v0), some (vi v1), some (vi v2), some (vi v3), some (vi v4), some (vi v5), some (vi v6)] [] := by
  intro f
  induction f with
  | zero =>
    intro v4 v6 μ h
    cases h
  | succ f ih =>
    intro v4 v6 μ h
    exact t_X4_seenNear_b25 hk6 ih h
set_option maxHeartbeats 4000000 in
set_option maxRecDepth 20000 in
theorem t_X4_seenNear_b6 {l : Launch} {G : Gl} {n : Nat} {sh : Sh} {x : Int32 × Mu} {k6 : Int32 → Int32 → Mu → Option (Int32 × Mu)} {v0 : Nat} {v1 : Int32} {v2 : Int32} {v3 : Int32} {v4 : Int32} {v5 : Int32} {μ : Mu} (hk6 : ∀ (v4 : Int32) (v5 : Int32) (μ : Mu), k6 v4 v5 μ = some x → Sj l G (QI G n sh x) c_X4_seenNear n sh 0 0 μ 6 [some (vr v0), some (vi v1), some (vi v2), some (vi v3), some (vi v4), some (vi v5), none] []) (h : m_X4_seenNear_b6 sh k6 v0 v1 v2 v3 v4 v5 μ = some x) : Sj l G (QI G n sh x) c_X4_seenNear n sh 0 0 μ 6 [some (vr v0), some (vi v1), some (vi v2), some (vi v3), some (vi v4), some (vi v5), none] [] := by
  unfold m_X4_seenNear_b6 at h
  refine s_iload (pc := 6) d_X4_seenNear_6 rfl ?_
  refine s_aload_n (pc := 8) d_X4_seenNear_8 rfl rfl ?_
  obtain ⟨g1, h⟩ := gd_1 h
  refine s_getI (pc := 9) (k := 4) cl_4 d_X4_seenNear_9 g1 (by decide) w_102 rfl ?_
  refine s_icmp_ge (pc := 12) (tgt := 101) d_X4_seenNear_12 (by decide) (fun c2 => ?_) (fun c2 => ?_)
  · have h := it_t c2 h
    refine s_iload (pc := 101) d_X4_seenNear_101 rfl ?_
    obtain rfl := Option.some.inj h
    exact s_iret (pc := 103) d_X4_seenNear_103 rfl
  · have h := it_f c2 h
    refine s_iload (pc := 15) d_X4_seenNear_15 rfl ?_
    refine s_bipush (pc := 17) (v := 8) d_X4_seenNear_17 (by decide) ?_
    refine s_icmp_ge (pc := 19) (tgt := 101) d_X4_seenNear_19 (by decide) (fun c3 => ?_) (fun c3 => ?_)
    · have h := it_t c3 h
      refine s_iload (pc := 101) d_X4_seenNear_101 rfl ?_
      obtain rfl := Option.some.inj h
      exact s_iret (pc := 103) d_X4_seenNear_103 rfl
    · have h := it_f c3 h
      refine s_iconst (pc := 22) (v := 0) d_X4_seenNear_22 (by decide) ?_
      refine s_istore (pc := 23) (lc' := [some (vr v0), some (vi v1), some (vi v2), some (vi v3), some (vi v4), some (vi v5), some (vi 0)]) d_X4_seenNear_23 (by decide) rfl ?_
      exact t_X4_seenNear_h25 hk6 FU _ _ _ h
set_option maxHeartbeats 4000000 in
set_option maxRecDepth 20000 in
theorem t_X4_seenNear_h6 {l : Launch} {G : Gl} {n : Nat} {sh : Sh} {x : Int32 × Mu} {v0 : Nat} {v1 : Int32} {v2 : Int32} {v3 : Int32} : ∀ (f : Nat) (v4 : Int32) (v5 : Int32) (μ : Mu), m_X4_seenNear_h6 sh v0 v1 v2 v3 f v4 v5 μ = some x → Sj l G (QI G n sh x) c_X4_seenNear n sh 0 0 μ 6 [some (vr v0), some (vi v1), some (vi v2), some (vi v3), some (vi v4), some (vi v5), none] [] := by
  intro f
  induction f with
  | zero =>
    intro v4 v5 μ h
    cases h
  | succ f ih =>
    intro v4 v5 μ h
    exact t_X4_seenNear_b6 ih h
set_option maxHeartbeats 4000000 in
set_option maxRecDepth 20000 in
theorem t_X4_seenNear {l : Launch} {G : Gl} {n : Nat} {sh : Sh} {x : Int32 × Mu} {v0 : Nat} {v1 : Int32} {v2 : Int32} {v3 : Int32} {μ : Mu} (h : m_X4_seenNear sh v0 v1 v2 v3 μ = some x) : Ct l G ⟨"StripsOfFour$Scene", "seenNear", "(III)I"⟩ prog_6_method_20_code 7 (some .int) { frames := 1, cells := 0, slots := 0, locals := 22 } n sh μ [vr v0, vi v1, vi v2, vi v3] (some (.int x.1)) n sh x.2 := by
  refine Ct.of (lc := [some (vr v0), some (vi v1), some (vi v2), some (vi v3), none, none, none]) (by decide +kernel) (Nat.le_of_ble_eq_true rfl) rfl ?_
  show Sj l G (QI G n sh x) c_X4_seenNear n sh 0 0 μ 0 [some (vr v0), some (vi v1), some (vi v2), some (vi v3), none, none, none] []
  unfold m_X4_seenNear at h
  refine s_iconst (pc := 0) (v := 0) d_X4_seenNear_0 (by decide) ?_
  refine s_istore (pc := 1) (lc' := [some (vr v0), some (vi v1), some (vi v2), some (vi v3), some (vi 0), none, none]) d_X4_seenNear_1 (by decide) rfl ?_
  refine s_iconst (pc := 3) (v := 0) d_X4_seenNear_3 (by decide) ?_
  refine s_istore (pc := 4) (lc' := [some (vr v0), some (vi v1), some (vi v2), some (vi v3), some (vi 0), some (vi 0), none]) d_X4_seenNear_4 (by decide) rfl ?_
  exact t_X4_seenNear_h6 FU _ _ _ h
/-! StripsOfFour$Scene.shownAt -/
abbrev c_X4_shownAt : Cf := (prog_6_method_19_code, 5, "StripsOfFour$Scene", "shownAt", (some .int), { frames := 1, cells := 0, slots := 0, locals := 22 })
theorem d_X4_shownAt_0 : decode prog_6_method_19_code 0 = .ok (.iconst 0, 1) := by decide +kernel
theorem d_X4_shownAt_1 : decode prog_6_method_19_code 1 = .ok (.istore_n 3, 1) := by decide +kernel
theorem d_X4_shownAt_2 : decode prog_6_method_19_code 2 = .ok (.iload_n 3, 1) := by decide +kernel
theorem d_X4_shownAt_3 : decode prog_6_method_19_code 3 = .ok (.aload_n 0, 1) := by decide +kernel
theorem d_X4_shownAt_4 : decode prog_6_method_19_code 4 = .ok (.getfield 25, 3) := by decide +kernel
theorem d_X4_shownAt_7 : decode prog_6_method_19_code 7 = .ok (.if_icmp .ge 72, 3) := by decide +kernel
theorem d_X4_shownAt_10 : decode prog_6_method_19_code 10 = .ok (.iload_n 3, 1) := by decide +kernel
theorem d_X4_shownAt_11 : decode prog_6_method_19_code 11 = .ok (.bipush 8, 2) := by decide +kernel
theorem d_X4_shownAt_13 : decode prog_6_method_19_code 13 = .ok (.if_icmp .ge 66, 3) := by decide +kernel
theorem d_X4_shownAt_16 : decode prog_6_method_19_code 16 = .ok (.iconst 0, 1) := by decide +kernel
theorem d_X4_shownAt_17 : decode prog_6_method_19_code 17 = .ok (.istore 4, 2) := by decide +kernel
theorem d_X4_shownAt_19 : decode prog_6_method_19_code 19 = .ok (.iload 4, 2) := by decide +kernel
theorem d_X4_shownAt_21 : decode prog_6_method_19_code 21 = .ok (.iconst 4, 1) := by decide +kernel
theorem d_X4_shownAt_22 : decode prog_6_method_19_code 22 = .ok (.if_icmp .ge 51, 3) := by decide +kernel
theorem d_X4_shownAt_25 : decode prog_6_method_19_code 25 = .ok (.aload_n 0, 1) := by decide +kernel
theorem d_X4_shownAt_26 : decode prog_6_method_19_code 26 = .ok (.getfield 30, 3) := by decide +kernel
theorem d_X4_shownAt_29 : decode prog_6_method_19_code 29 = .ok (.iload_n 3, 1) := by decide +kernel
theorem d_X4_shownAt_30 : decode prog_6_method_19_code 30 = .ok (.aaload, 1) := by decide +kernel
theorem d_X4_shownAt_31 : decode prog_6_method_19_code 31 = .ok (.getfield 111, 3) := by decide +kernel
theorem d_X4_shownAt_34 : decode prog_6_method_19_code 34 = .ok (.iload_n 1, 1) := by decide +kernel
theorem d_X4_shownAt_35 : decode prog_6_method_19_code 35 = .ok (.if_icmp .ne 32, 3) := by decide +kernel
theorem d_X4_shownAt_38 : decode prog_6_method_19_code 38 = .ok (.aload_n 0, 1) := by decide +kernel
theorem d_X4_shownAt_39 : decode prog_6_method_19_code 39 = .ok (.getfield 30, 3) := by decide +kernel
theorem d_X4_shownAt_42 : decode prog_6_method_19_code 42 = .ok (.iload_n 3, 1) := by decide +kernel
theorem d_X4_shownAt_43 : decode prog_6_method_19_code 43 = .ok (.aaload, 1) := by decide +kernel
theorem d_X4_shownAt_44 : decode prog_6_method_19_code 44 = .ok (.iload 4, 2) := by decide +kernel
theorem d_X4_shownAt_46 : decode prog_6_method_19_code 46 = .ok (.iconst 0, 1) := by decide +kernel
theorem d_X4_shownAt_47 : decode prog_6_method_19_code 47 = .ok (.invokevirtual 123, 3) := by decide +kernel
theorem d_X4_shownAt_50 : decode prog_6_method_19_code 50 = .ok (.iload_n 2, 1) := by decide +kernel
theorem d_X4_shownAt_51 : decode prog_6_method_19_code 51 = .ok (.if_icmp .ne 16, 3) := by decide +kernel
theorem d_X4_shownAt_54 : decode prog_6_method_19_code 54 = .ok (.aload_n 0, 1) := by decide +kernel
theorem d_X4_shownAt_55 : decode prog_6_method_19_code 55 = .ok (.getfield 30, 3) := by decide +kernel
theorem d_X4_shownAt_58 : decode prog_6_method_19_code 58 = .ok (.iload_n 3, 1) := by decide +kernel
theorem d_X4_shownAt_59 : decode prog_6_method_19_code 59 = .ok (.aaload, 1) := by decide +kernel
theorem d_X4_shownAt_60 : decode prog_6_method_19_code 60 = .ok (.iload 4, 2) := by decide +kernel
theorem d_X4_shownAt_62 : decode prog_6_method_19_code 62 = .ok (.iconst 1, 1) := by decide +kernel
theorem d_X4_shownAt_63 : decode prog_6_method_19_code 63 = .ok (.invokevirtual 123, 3) := by decide +kernel
theorem d_X4_shownAt_66 : decode prog_6_method_19_code 66 = .ok (.ireturn, 1) := by decide +kernel
theorem d_X4_shownAt_67 : decode prog_6_method_19_code 67 = .ok (.iinc 4 1, 3) := by decide +kernel
theorem d_X4_shownAt_70 : decode prog_6_method_19_code 70 = .ok (.goto (-51), 3) := by decide +kernel
theorem d_X4_shownAt_73 : decode prog_6_method_19_code 73 = .ok (.iinc 3 1, 3) := by decide +kernel
theorem d_X4_shownAt_76 : decode prog_6_method_19_code 76 = .ok (.goto (-74), 3) := by decide +kernel
theorem d_X4_shownAt_79 : decode prog_6_method_19_code 79 = .ok (.bipush (-9), 2) := by decide +kernel
theorem d_X4_shownAt_81 : decode prog_6_method_19_code 81 = .ok (.ireturn, 1) := by decide +kernel
def m_X4_shownAt_b54 (sh : Sh) (v0 : Nat) (v3 : Int32) (v4 : Int32) (μ : Mu) : Option (Int32 × Mu) :=
  gd (iz sh 4 v0) <|
  bd (gR μ v0 5) fun a21 =>
  gd (ix sh 11 a21 v3) <|
  bd (gR μ a21 v3.toNatClampNeg) fun a23 =>
  gd (iz sh 5 a23) <|
  ca2 (m_X5_cell sh a23 v4 1 μ) fun r25 μ26 =>
  some (r25, μ26)
def m_X4_shownAt_b67 (sh : Sh) (k2 : Int32 → Mu → Option (Int32 × Mu)) (k19 : Int32 → Mu → Option (Int32 × Mu)) (v0 : Nat) (v1 : Int32) (v2 : Int32) (v3 : Int32) (v4 : Int32) (μ : Mu) : Option (Int32 × Mu) :=
  bd (v4 + 1) fun w19 =>
  k19 w19 μ
def m_X4_shownAt_b73 (sh : Sh) (k2 : Int32 → Mu → Option (Int32 × Mu)) (v0 : Nat) (v1 : Int32) (v2 : Int32) (v3 : Int32) (μ : Mu) : Option (Int32 × Mu) :=
  bd (v3 + 1) fun w18 =>
  k2 w18 μ
def m_X4_shownAt_b19 (sh : Sh) (k2 : Int32 → Mu → Option (Int32 × Mu)) (k19 : Int32 → Mu → Option (Int32 × Mu)) (v0 : Nat) (v1 : Int32) (v2 : Int32) (v3 : Int32) (v4 : Int32) (μ : Mu) : Option (Int32 × Mu) :=
  if 4 ≤ v4 then
    m_X4_shownAt_b73 sh k2 v0 v1 v2 v3 μ
  else
    gd (iz sh 4 v0) <|
    bd (gR μ v0 5) fun a6 =>
    gd (ix sh 11 a6 v3) <|
    bd (gR μ a6 v3.toNatClampNeg) fun a8 =>
    gd (iz sh 5 a8) <|
    if (gI μ a8 0) = v1 then
      bd (gR μ v0 5) fun a11 =>
      gd (ix sh 11 a11 v3) <|
      bd (gR μ a11 v3.toNatClampNeg) fun a13 =>
      gd (iz sh 5 a13) <|
      ca2 (m_X5_cell sh a13 v4 0 μ) fun r15 μ16 =>
      if r15 = v2 then
        m_X4_shownAt_b54 sh v0 v3 v4 μ16
      else
        m_X4_shownAt_b67 sh k2 k19 v0 v1 v2 v3 v4 μ16
    else
      m_X4_shownAt_b67 sh k2 k19 v0 v1 v2 v3 v4 μ
def m_X4_shownAt_h19 (sh : Sh) (k2 : Int32 → Mu → Option (Int32 × Mu)) (v0 : Nat) (v1 : Int32) (v2 : Int32) (v3 : Int32) : Nat → Int32 → Mu → Option (Int32 × Mu)
  | 0 => fun _ _ => none
  | f + 1 => fun v4 μ => m_X4_shownAt_b19 sh k2 (m_X4_shownAt_h19 sh k2 v0 v1 v2 v3 f) v0 v1 v2 v3 v4 μ
def m_X4_shownAt_b2 (sh : Sh) (k2 : Int32 → Mu → Option (Int32 × Mu)) (v0 : Nat) (v1 : Int32) (v2 : Int32) (v3 : Int32) (μ : Mu) : Option (Int32 × Mu) :=
  gd (iz sh 4 v0) <|
  if (gI μ v0 4) ≤ v3 then
    some ((-9), μ)
  else
    if 8 ≤ v3 then
      some ((-9), μ)
    else
      m_X4_shownAt_h19 sh k2 v0 v1 v2 v3 FU 0 μ
def m_X4_shownAt_h2 (sh : Sh) (v0 : Nat) (v1 : Int32) (v2 : Int32) : Nat → Int32 → Mu → Option (Int32 × Mu)
  | 0 => fun _ _ => none
  | f + 1 => fun v3 μ => m_X4_shownAt_b2 sh (m_X4_shownAt_h2 sh v0 v1 v2 f) v0 v1 v2 v3 μ
def m_X4_shownAt (sh : Sh) (v0 : Nat) (v1 : Int32) (v2 : Int32) (μ : Mu) : Option (Int32 × Mu) :=
  m_X4_shownAt_h2 sh v0 v1 v2 FU 0 μ
set_option maxHeartbeats 4000000 in
set_option maxRecDepth 20000 in
theorem t_X4_shownAt_b54 {l : Launch} {G : Gl} {n : Nat} {sh : Sh} {x : Int32 × Mu} {v0 : Nat} {v3 : Int32} {v4 : Int32} {μ : Mu} (h : m_X4_shownAt_b54 sh v0 v3 v4 μ = some x) : Sj l G (QI G n sh x) c_X4_shownAt n sh 0 0 μ 54 [some (vr v0), none, none, some (vi v3), some (vi v4)] [] := by
  unfold m_X4_shownAt_b54 at h
  refine s_aload_n (pc := 54) d_X4_shownAt_54 rfl rfl ?_
  obtain ⟨g20, h⟩ := gd_1 h
  refine s_getR (pc := 55) (k := 5) cl_4 d_X4_shownAt_55 g20 (by decide) w_105 (rt_arr _) ?_
  obtain ⟨a21, ea21, h⟩ := bd_1 h
  refine s_topR ea21 ?_
  refine s_iload_n (pc := 58) d_X4_shownAt_58 rfl rfl ?_
  obtain ⟨g22, h⟩ := gd_1 h
  refine s_aald11 (pc := 59) d_X4_shownAt_59 g22 ?_
  obtain ⟨a23, ea23, h⟩ := bd_1 h
  refine s_topR ea23 ?_
  refine s_iload (pc := 60) d_X4_shownAt_60 rfl ?_
  refine s_iconst (pc := 62) (v := 1) d_X4_shownAt_62 (by decide) ?_
  obtain ⟨g24, h⟩ := gd_1 h
  obtain ⟨r25, μ26, er25, h⟩ := ca2_1 h
  refine s_callV (pc := 63) (as := [vi v4, vi 1]) (st := []) (vo := [vi r25]) (t_X5_cell er25) cl_5 g24 d_X4_shownAt_63 y_X5_cell w_574 w_350 w_351 ⟨by decide, by decide⟩ ⟨Nat.le_of_ble_eq_true rfl, Nat.le_of_ble_eq_true rfl⟩ (Nat.le_of_ble_eq_true rfl) rfl rfl rfl ?_
  refine s_as (kc' := 0) (js' := 0) (pc' := 66) (st' := [vi r25]) ⟨rfl, rfl, rfl, rfl⟩ ?_
  obtain rfl := Option.some.inj h
  exact s_iret (pc := 66) d_X4_shownAt_66 rfl
set_option maxHeartbeats 4000000 in
set_option maxRecDepth 20000 in
theorem t_X4_shownAt_b67 {l : Launch} {G : Gl} {n : Nat} {sh : Sh} {x : Int32 × Mu} {k2 : Int32 → Mu → Option (Int32 × Mu)} {k19 : Int32 → Mu → Option (Int32 × Mu)} {v0 : Nat} {v1 : Int32} {v2 : Int32} {v3 : Int32} {v4 : Int32} {μ : Mu} (hk2 : ∀ (v3 : Int32) (μ : Mu), k2 v3 μ = some x → Sj l G (QI G n sh x) c_X4_shownAt n sh 0 0 μ 2 [some (vr v0), some (vi v1), some (vi v2), some (vi v3), none] []) (hk19 : ∀ (v4 : Int32) (μ : Mu), k19 v4 μ = some x → Sj l G (QI G n sh x) c_X4_shownAt n sh 0 0 μ 19 [some (vr v0), some (vi v1), some (vi v2), some (vi v3), some (vi v4)] []) (h : m_X4_shownAt_b67 sh k2 k19 v0 v1 v2 v3 v4 μ = some x) : Sj l G (QI G n sh x) c_X4_shownAt n sh 0 0 μ 67 [some (vr v0), some (vi v1), some (vi v2), some (vi v3), some (vi v4)] [] := by
  unfold m_X4_shownAt_b67 at h
  obtain ⟨w19, ew19, h⟩ := bd_1 h
  refine s_iinc (pc := 67) (v := w19) (lc' := [some (vr v0), some (vi v1), some (vi v2), some (vi v3), some (vi w19)]) d_X4_shownAt_67 rfl (by rw [ew19]; rfl) (by decide) rfl ?_
  refine s_goto (pc := 70) (tgt := 19) d_X4_shownAt_70 (by decide) ?_
  exact hk19 _ _ h
set_option maxHeartbeats 4000000 in
set_option maxRecDepth 20000 in
theorem t_X4_shownAt_b73 {l : Launch} {G : Gl} {n : Nat} {sh : Sh} {x : Int32 × Mu} {k2 : Int32 → Mu → Option (Int32 × Mu)} {v0 : Nat} {v1 : Int32} {v2 : Int32} {v3 : Int32} {μ : Mu} (hk2 : ∀ (v3 : Int32) (μ : Mu), k2 v3 μ = some x → Sj l G (QI G n sh x) c_X4_shownAt n sh 0 0 μ 2 [some (vr v0), some (vi v1), some (vi v2), some (vi v3), none] []) (h : m_X4_shownAt_b73 sh k2 v0 v1 v2 v3 μ = some x) : Sj l G (QI G n sh x) c_X4_shownAt n sh 0 0 μ 73 [some (vr v0), some (vi v1), some (vi v2), some (vi v3), none] [] := by
  unfold m_X4_shownAt_b73 at h
  obtain ⟨w18, ew18, h⟩ := bd_1 h
  refine s_iinc (pc := 73) (v := w18) (lc' := [some (vr v0), some (vi v1), some (vi v2), some (vi w18), none]) d_X4_shownAt_73 rfl (by rw [ew18]; rfl) (by decide) rfl ?_
  refine s_goto (pc := 76) (tgt := 2) d_X4_shownAt_76 (by decide) ?_
  exact hk2 _ _ h
set_option maxHeartbeats 4000000 in
set_option maxRecDepth 20000 in
theorem t_X4_shownAt_b19 {l : Launch} {G : Gl} {n : Nat} {sh : Sh} {x : Int32 × Mu} {k2 : Int32 → Mu → Option (Int32 × Mu)} {k19 : Int32 → Mu → Option (Int32 × Mu)} {v0 : Nat} {v1 : Int32} {v2 : Int32} {v3 : Int32} {v4 : Int32} {μ : Mu} (hk2 : ∀ (v3 : Int32) (μ : Mu), k2 v3 μ = some x → Sj l G (QI G n sh x) c_X4_shownAt n sh 0 0 μ 2 [some (vr v0), some (vi v1), some (vi v2), some (vi v3), none] []) (hk19 : ∀ (v4 : Int32) (μ : Mu), k19 v4 μ = some x → Sj l G (QI G n sh x) c_X4_shownAt n sh 0 0 μ 19 [some (vr v0), some (vi v1), some (vi v2), some (vi v3), some (vi v4)] []) (h : m_X4_shownAt_b19 sh k2 k19 v0 v1 v2 v3 v4 μ = some x) : Sj l G (QI G n sh x) c_X4_shownAt n sh 0 0 μ 19 [some (vr v0), some (vi v1), some (vi v2), some (vi v3), some (vi v4)] [] := by
  unfold m_X4_shownAt_b19 at h
  refine s_iload (pc := 19) d_X4_shownAt_19 rfl ?_
  refine s_iconst (pc := 21) (v := 4) d_X4_shownAt_21 (by decide) ?_
  refine s_icmp_ge (pc := 22) (tgt := 73) d_X4_shownAt_22 (by decide) (fun c4 => ?_) (fun c4 => ?_)
  · have h := it_t c4 h
    refine s_mask [true, true, true, true, false] rfl ?_
    exact t_X4_shownAt_b73 hk2 h
  · have h := it_f c4 h
    refine s_aload_n (pc := 25) d_X4_shownAt_25 rfl rfl ?_
    obtain ⟨g5, h⟩ := gd_1 h
    refine s_getR (pc := 26) (k := 5) cl_4 d_X4_shownAt_26 g5 (by decide) w_105 (rt_arr _) ?_
    obtain ⟨a6, ea6, h⟩ := bd_1 h
    refine s_topR ea6 ?_
    refine s_iload_n (pc := 29) d_X4_shownAt_29 rfl rfl ?_
    obtain ⟨g7, h⟩ := gd_1 h
    refine s_aald11 (pc := 30) d_X4_shownAt_30 g7 ?_
    obtain ⟨a8, ea8, h⟩ := bd_1 h
    refine s_topR ea8 ?_
    obtain ⟨g9, h⟩ := gd_1 h
    refine s_getI (pc := 31) (k := 0) cl_5 d_X4_shownAt_31 g9 (by decide) w_64 rfl ?_
    refine s_iload_n (pc := 34) d_X4_shownAt_34 rfl rfl ?_
    refine s_icmp_ne (pc := 35) (tgt := 67) d_X4_shownAt_35 (by decide) (fun c10 => ?_) (fun c10 => ?_)
    · have h := it_f c10 h
      exact t_X4_shownAt_b67 hk2 hk19 h
    · have h := it_t c10 h
      refine s_aload_n (pc := 38) d_X4_shownAt_38 rfl rfl ?_
      refine s_getR (pc := 39) (k := 5) cl_4 d_X4_shownAt_39 g5 (by decide) w_105 (rt_arr _) ?_
      obtain ⟨a11, ea11, h⟩ := bd_1 h
      refine s_topR ea11 ?_
      refine s_iload_n (pc := 42) d_X4_shownAt_42 rfl rfl ?_
      obtain ⟨g12, h⟩ := gd_1 h
      refine s_aald11 (pc := 43) d_X4_shownAt_43 g12 ?_
      obtain ⟨a13, ea13, h⟩ := bd_1 h
      refine s_topR ea13 ?_
      refine s_iload (pc := 44) d_X4_shownAt_44 rfl ?_
      refine s_iconst (pc := 46) (v := 0) d_X4_shownAt_46 (by decide) ?_
      obtain ⟨g14, h⟩ := gd_1 h
      obtain ⟨r15, μ16, er15, h⟩ := ca2_1 h
      refine s_callV (pc := 47) (as := [vi v4, vi 0]) (st := []) (vo := [vi r15]) (t_X5_cell er15) cl_5 g14 d_X4_shownAt_47 y_X5_cell w_574 w_350 w_351 ⟨by decide, by decide⟩ ⟨Nat.le_of_ble_eq_true rfl, Nat.le_of_ble_eq_true rfl⟩ (Nat.le_of_ble_eq_true rfl) rfl rfl rfl ?_
      refine s_as (kc' := 0) (js' := 0) (pc' := 50) (st' := [vi r15]) ⟨rfl, rfl, rfl, rfl⟩ ?_
      refine s_iload_n (pc := 50) d_X4_shownAt_50 rfl rfl ?_
      refine s_icmp_ne (pc := 51) (tgt := 67) d_X4_shownAt_51 (by decide) (fun c17 => ?_) (fun c17 => ?_)
      · have h := it_f c17 h
        exact t_X4_shownAt_b67 hk2 hk19 h
      · have h := it_t c17 h
        refine s_mask [true, false, false, true, true] rfl ?_
        exact t_X4_shownAt_b54 h
set_option maxHeartbeats 4000000 in
set_option maxRecDepth 20000 in
theorem t_X4_shownAt_h19 {l : Launch} {G : Gl} {n : Nat} {sh : Sh} {x : Int32 × Mu} {k2 : Int32 → Mu → Option (Int32 × Mu)} {v0 : Nat} {v1 : Int32} {v2 : Int32} {v3 : Int32} (hk2 : ∀ (v3 : Int32) (μ : Mu), k2 v3 μ = some x → Sj l G (QI G n sh x) c_X4_shownAt n sh 0 0 μ 2 [some (vr v0), some (vi v1), some (vi v2), some (vi v3), none] []) : ∀ (f : Nat) (v4 : Int32) (μ : Mu), m_X4_shownAt_h19 sh k2 v0 v1 v2 v3 f v4 μ = some x → Sj l G (QI G n sh x) c_X4_shownAt n sh 0 0 μ 19 [some (vr v0), some (vi v1), some (vi v2), some (vi v3), some (vi v4)] [] := by
  intro f
  induction f with
  | zero =>
    intro v4 μ h
    cases h
  | succ f ih =>
    intro v4 μ h
    exact t_X4_shownAt_b19 hk2 ih h
set_option maxHeartbeats 4000000 in
set_option maxRecDepth 20000 in
theorem t_X4_shownAt_b2 {l : Launch} {G : Gl} {n : Nat} {sh : Sh} {x : Int32 × Mu} {k2 : Int32 → Mu → Option (Int32 × Mu)} {v0 : Nat} {v1 : Int32} {v2 : Int32} {v3 : Int32} {μ : Mu} (hk2 : ∀ (v3 : Int32) (μ : Mu), k2 v3 μ = some x → Sj l G (QI G n sh x) c_X4_shownAt n sh 0 0 μ 2 [some (vr v0), some (vi v1), some (vi v2), some (vi v3), none] []) (h : m_X4_shownAt_b2 sh k2 v0 v1 v2 v3 μ = some x) : Sj l G (QI G n sh x) c_X4_shownAt n sh 0 0 μ 2 [some (vr v0), some (vi v1), some (vi v2), some (vi v3), none] [] := by
  unfold m_X4_shownAt_b2 at h
  refine s_iload_n (pc := 2) d_X4_shownAt_2 rfl rfl ?_
  refine s_aload_n (pc := 3) d_X4_shownAt_3 rfl rfl ?_
  obtain ⟨g1, h⟩ := gd_1 h
  refine s_getI (pc := 4) (k := 4) cl_4 d_X4_shownAt_4 g1 (by decide) w_102 rfl ?_
  refine s_icmp_ge (pc := 7) (tgt := 79) d_X4_shownAt_7 (by decide) (fun c2 => ?_) (fun c2 => ?_)
  · have h := it_t c2 h
    refine s_bipush (pc := 79) (v := (-9)) d_X4_shownAt_79 (by decide) ?_
    obtain rfl := Option.some.inj h
    exact s_iret (pc := 81) d_X4_shownAt_81 rfl
  · have h := it_f c2 h
    refine s_iload_n (pc := 10) d_X4_shownAt_10 rfl rfl ?_
    refine s_bipush (pc := 11) (v := 8) d_X4_shownAt_11 (by decide) ?_
    refine s_icmp_ge (pc := 13) (tgt := 79) d_X4_shownAt_13 (by decide) (fun c3 => ?_) (fun c3 => ?_)
    · have h := it_t c3 h
      refine s_bipush (pc := 79) (v := (-9)) d_X4_shownAt_79 (by decide) ?_
      obtain rfl := Option.some.inj h
      exact s_iret (pc := 81) d_X4_shownAt_81 rfl
    · have h := it_f c3 h
      refine s_iconst (pc := 16) (v := 0) d_X4_shownAt_16 (by decide) ?_
      refine s_istore (pc := 17) (lc' := [some (vr v0), some (vi v1), some (vi v2), some (vi v3), some (vi 0)]) d_X4_shownAt_17 (by decide) rfl ?_
      exact t_X4_shownAt_h19 hk2 FU _ _ h
set_option maxHeartbeats 4000000 in
set_option maxRecDepth 20000 in
theorem t_X4_shownAt_h2 {l : Launch} {G : Gl} {n : Nat} {sh : Sh} {x : Int32 × Mu} {v0 : Nat} {v1 : Int32} {v2 : Int32} : ∀ (f : Nat) (v3 : Int32) (μ : Mu), m_X4_shownAt_h2 sh v0 v1 v2 f v3 μ = some x → Sj l G (QI G n sh x) c_X4_shownAt n sh 0 0 μ 2 [some (vr v0), some (vi v1), some (vi v2), some (vi v3), none] [] := by
  intro f
  induction f with
  | zero =>
    intro v3 μ h
    cases h
  | succ f ih =>
    intro v3 μ h
    exact t_X4_shownAt_b2 ih h
set_option maxHeartbeats 4000000 in
set_option maxRecDepth 20000 in
theorem t_X4_shownAt {l : Launch} {G : Gl} {n : Nat} {sh : Sh} {x : Int32 × Mu} {v0 : Nat} {v1 : Int32} {v2 : Int32} {μ : Mu} (h : m_X4_shownAt sh v0 v1 v2 μ = some x) : Ct l G ⟨"StripsOfFour$Scene", "shownAt", "(II)I"⟩ prog_6_method_19_code 5 (some .int) { frames := 1, cells := 0, slots := 0, locals := 22 } n sh μ [vr v0, vi v1, vi v2] (some (.int x.1)) n sh x.2 := by
  refine Ct.of (lc := [some (vr v0), some (vi v1), some (vi v2), none, none]) (by decide +kernel) (Nat.le_of_ble_eq_true rfl) rfl ?_
  show Sj l G (QI G n sh x) c_X4_shownAt n sh 0 0 μ 0 [some (vr v0), some (vi v1), some (vi v2), none, none] []
  unfold m_X4_shownAt at h
  refine s_iconst (pc := 0) (v := 0) d_X4_shownAt_0 (by decide) ?_
  refine s_istore_n (pc := 1) (lc' := [some (vr v0), some (vi v1), some (vi v2), some (vi 0), none]) d_X4_shownAt_1 rfl (by decide) rfl ?_
  exact t_X4_shownAt_h2 FU _ _ h
/-! StripsOfFour$Scene.begunLooks -/
abbrev c_X4_begunLooks : Cf := (prog_6_method_11_code, 2, "StripsOfFour$Scene", "begunLooks", (some .int), { frames := 0, cells := 0, slots := 0, locals := 0 })
theorem d_X4_begunLooks_0 : decode prog_6_method_11_code 0 = .ok (.iload_n 1, 1) := by decide +kernel
theorem d_X4_begunLooks_1 : decode prog_6_method_11_code 1 = .ok (.ifCond .lt 20, 3) := by decide +kernel
theorem d_X4_begunLooks_4 : decode prog_6_method_11_code 4 = .ok (.iload_n 1, 1) := by decide +kernel
theorem d_X4_begunLooks_5 : decode prog_6_method_11_code 5 = .ok (.iconst 2, 1) := by decide +kernel
theorem d_X4_begunLooks_6 : decode prog_6_method_11_code 6 = .ok (.if_icmp .ge 15, 3) := by decide +kernel
theorem d_X4_begunLooks_9 : decode prog_6_method_11_code 9 = .ok (.aload_n 0, 1) := by decide +kernel
theorem d_X4_begunLooks_10 : decode prog_6_method_11_code 10 = .ok (.getfield 34, 3) := by decide +kernel
theorem d_X4_begunLooks_13 : decode prog_6_method_11_code 13 = .ok (.iload_n 1, 1) := by decide +kernel
theorem d_X4_begunLooks_14 : decode prog_6_method_11_code 14 = .ok (.aaload, 1) := by decide +kernel
theorem d_X4_begunLooks_15 : decode prog_6_method_11_code 15 = .ok (.getfield 76, 3) := by decide +kernel
theorem d_X4_begunLooks_18 : decode prog_6_method_11_code 18 = .ok (.goto 4, 3) := by decide +kernel
theorem d_X4_begunLooks_21 : decode prog_6_method_11_code 21 = .ok (.iconst 0, 1) := by decide +kernel
theorem d_X4_begunLooks_22 : decode prog_6_method_11_code 22 = .ok (.ireturn, 1) := by decide +kernel
def m_X4_begunLooks (sh : Sh) (v0 : Nat) (v1 : Int32) (μ : Mu) : Option (Int32 × Mu) :=
  if v1 < 0 then
    some (0, μ)
  else
    if 2 ≤ v1 then
      some (0, μ)
    else
      gd (iz sh 4 v0) <|
      bd (gR μ v0 6) fun a4 =>
      gd (ix sh 11 a4 v1) <|
      bd (gR μ a4 v1.toNatClampNeg) fun a6 =>
      gd (iz sh 5 a6) <|
      some (gI μ a6 1, μ)
set_option maxHeartbeats 4000000 in
set_option maxRecDepth 20000 in
theorem t_X4_begunLooks {l : Launch} {G : Gl} {n : Nat} {sh : Sh} {x : Int32 × Mu} {v0 : Nat} {v1 : Int32} {μ : Mu} (h : m_X4_begunLooks sh v0 v1 μ = some x) : Ct l G ⟨"StripsOfFour$Scene", "begunLooks", "(I)I"⟩ prog_6_method_11_code 2 (some .int) { frames := 0, cells := 0, slots := 0, locals := 0 } n sh μ [vr v0, vi v1] (some (.int x.1)) n sh x.2 := by
  refine Ct.of (lc := [some (vr v0), some (vi v1)]) (by decide +kernel) (Nat.le_of_ble_eq_true rfl) rfl ?_
  show Sj l G (QI G n sh x) c_X4_begunLooks n sh 0 0 μ 0 [some (vr v0), some (vi v1)] []
  unfold m_X4_begunLooks at h
  refine s_iload_n (pc := 0) d_X4_begunLooks_0 rfl rfl ?_
  refine s_if_lt (pc := 1) (tgt := 21) d_X4_begunLooks_1 (by decide) (fun c1 => ?_) (fun c1 => ?_)
  · have h := it_t c1 h
    refine s_iconst (pc := 21) (v := 0) d_X4_begunLooks_21 (by decide) ?_
    obtain rfl := Option.some.inj h
    exact s_iret (pc := 22) d_X4_begunLooks_22 rfl
  · have h := it_f c1 h
    refine s_iload_n (pc := 4) d_X4_begunLooks_4 rfl rfl ?_
    refine s_iconst (pc := 5) (v := 2) d_X4_begunLooks_5 (by decide) ?_
    refine s_icmp_ge (pc := 6) (tgt := 21) d_X4_begunLooks_6 (by decide) (fun c2 => ?_) (fun c2 => ?_)
    · have h := it_t c2 h
      refine s_iconst (pc := 21) (v := 0) d_X4_begunLooks_21 (by decide) ?_
      obtain rfl := Option.some.inj h
      exact s_iret (pc := 22) d_X4_begunLooks_22 rfl
    · have h := it_f c2 h
      refine s_aload_n (pc := 9) d_X4_begunLooks_9 rfl rfl ?_
      obtain ⟨g3, h⟩ := gd_1 h
      refine s_getR (pc := 10) (k := 6) cl_4 d_X4_begunLooks_10 g3 (by decide) w_109 (rt_arr _) ?_
      obtain ⟨a4, ea4, h⟩ := bd_1 h
      refine s_topR ea4 ?_
      refine s_iload_n (pc := 13) d_X4_begunLooks_13 rfl rfl ?_
      obtain ⟨g5, h⟩ := gd_1 h
      refine s_aald11 (pc := 14) d_X4_begunLooks_14 g5 ?_
      obtain ⟨a6, ea6, h⟩ := bd_1 h
      refine s_topR ea6 ?_
      obtain ⟨g7, h⟩ := gd_1 h
      refine s_getI (pc := 15) (k := 1) cl_5 d_X4_begunLooks_15 g7 (by decide) w_66 rfl ?_
      refine s_goto (pc := 18) (tgt := 22) d_X4_begunLooks_18 (by decide) ?_
      obtain rfl := Option.some.inj h
      exact s_iret (pc := 22) d_X4_begunLooks_22 rfl
/-! StripsOfFour$Scene.whoIsIn -/
abbrev c_X4_whoIsIn : Cf := (prog_6_method_10_code, 4, "StripsOfFour$Scene", "whoIsIn", (some .int), { frames := 0, cells := 0, slots := 0, locals := 0 })
theorem d_X4_whoIsIn_0 : decode prog_6_method_10_code 0 = .ok (.iconst 0, 1) := by decide +kernel
theorem d_X4_whoIsIn_1 : decode prog_6_method_10_code 1 = .ok (.istore_n 2, 1) := by decide +kernel
theorem d_X4_whoIsIn_2 : decode prog_6_method_10_code 2 = .ok (.iconst 0, 1) := by decide +kernel
theorem d_X4_whoIsIn_3 : decode prog_6_method_10_code 3 = .ok (.istore_n 3, 1) := by decide +kernel
theorem d_X4_whoIsIn_4 : decode prog_6_method_10_code 4 = .ok (.iload_n 3, 1) := by decide +kernel
theorem d_X4_whoIsIn_5 : decode prog_6_method_10_code 5 = .ok (.iconst 5, 1) := by decide +kernel
theorem d_X4_whoIsIn_6 : decode prog_6_method_10_code 6 = .ok (.if_icmp .ge 25, 3) := by decide +kernel
theorem d_X4_whoIsIn_9 : decode prog_6_method_10_code 9 = .ok (.aload_n 0, 1) := by decide +kernel
theorem d_X4_whoIsIn_10 : decode prog_6_method_10_code 10 = .ok (.getfield 37, 3) := by decide +kernel
theorem d_X4_whoIsIn_13 : decode prog_6_method_10_code 13 = .ok (.iload_n 3, 1) := by decide +kernel
theorem d_X4_whoIsIn_14 : decode prog_6_method_10_code 14 = .ok (.iaload, 1) := by decide +kernel
theorem d_X4_whoIsIn_15 : decode prog_6_method_10_code 15 = .ok (.iload_n 1, 1) := by decide +kernel
theorem d_X4_whoIsIn_16 : decode prog_6_method_10_code 16 = .ok (.if_icmp .ne 9, 3) := by decide +kernel
theorem d_X4_whoIsIn_19 : decode prog_6_method_10_code 19 = .ok (.iload_n 2, 1) := by decide +kernel
theorem d_X4_whoIsIn_20 : decode prog_6_method_10_code 20 = .ok (.iconst 1, 1) := by decide +kernel
theorem d_X4_whoIsIn_21 : decode prog_6_method_10_code 21 = .ok (.iload_n 3, 1) := by decide +kernel
theorem d_X4_whoIsIn_22 : decode prog_6_method_10_code 22 = .ok (.ishl, 1) := by decide +kernel
theorem d_X4_whoIsIn_23 : decode prog_6_method_10_code 23 = .ok (.ior, 1) := by decide +kernel
theorem d_X4_whoIsIn_24 : decode prog_6_method_10_code 24 = .ok (.istore_n 2, 1) := by decide +kernel
theorem d_X4_whoIsIn_25 : decode prog_6_method_10_code 25 = .ok (.iinc 3 1, 3) := by decide +kernel
theorem d_X4_whoIsIn_28 : decode prog_6_method_10_code 28 = .ok (.goto (-24), 3) := by decide +kernel
theorem d_X4_whoIsIn_31 : decode prog_6_method_10_code 31 = .ok (.iload_n 2, 1) := by decide +kernel
theorem d_X4_whoIsIn_32 : decode prog_6_method_10_code 32 = .ok (.ireturn, 1) := by decide +kernel
def m_X4_whoIsIn_b25 (sh : Sh) (k4 : Int32 → Int32 → Mu → Option (Int32 × Mu)) (v0 : Nat) (v1 : Int32) (v2 : Int32) (v3 : Int32) (μ : Mu) : Option (Int32 × Mu) :=
  bd (v3 + 1) fun w8 =>
  k4 v2 w8 μ
def m_X4_whoIsIn_b4 (sh : Sh) (k4 : Int32 → Int32 → Mu → Option (Int32 × Mu)) (v0 : Nat) (v1 : Int32) (v2 : Int32) (v3 : Int32) (μ : Mu) : Option (Int32 × Mu) :=
  if 5 ≤ v3 then
    some (v2, μ)
  else
    gd (iz sh 4 v0) <|
    bd (gR μ v0 7) fun a3 =>
    gd (ix sh 8 a3 v3) <|
    bd (gI μ a3 v3.toNatClampNeg) fun w5 =>
    if w5 = v1 then
      bd (v2 ||| (1 <<< (v3 &&& 31))) fun w7 =>
      m_X4_whoIsIn_b25 sh k4 v0 v1 w7 v3 μ
    else
      m_X4_whoIsIn_b25 sh k4 v0 v1 v2 v3 μ
def m_X4_whoIsIn_h4 (sh : Sh) (v0 : Nat) (v1 : Int32) : Nat → Int32 → Int32 → Mu → Option (Int32 × Mu)
  | 0 => fun _ _ _ => none
  | f + 1 => fun v2 v3 μ => m_X4_whoIsIn_b4 sh (m_X4_whoIsIn_h4 sh v0 v1 f) v0 v1 v2 v3 μ
def m_X4_whoIsIn (sh : Sh) (v0 : Nat) (v1 : Int32) (μ : Mu) : Option (Int32 × Mu) :=
  m_X4_whoIsIn_h4 sh v0 v1 FU 0 0 μ
set_option maxHeartbeats 4000000 in
set_option maxRecDepth 20000 in
theorem t_X4_whoIsIn_b25 {l : Launch} {G : Gl} {n : Nat} {sh : Sh} {x : Int32 × Mu} {k4 : Int32 → Int32 → Mu → Option (Int32 × Mu)} {v0 : Nat} {v1 : Int32} {v2 : Int32} {v3 : Int32} {μ : Mu} (hk4 : ∀ (v2 : Int32) (v3 : Int32) (μ : Mu), k4 v2 v3 μ = some x → Sj l G (QI G n sh x) c_X4_whoIsIn n sh 0 0 μ 4 [some (vr v0), some (vi v1), some (vi v2), some (vi v3)] []) (h : m_X4_whoIsIn_b25 sh k4 v0 v1 v2 v3 μ = some x) : Sj l G (QI G n sh x) c_X4_whoIsIn n sh 0 0 μ 25 [some (vr v0), some (vi v1), some (vi v2), some (vi v3)] [] := by
  unfold m_X4_whoIsIn_b25 at h
  obtain ⟨w8, ew8, h⟩ := bd_1 h
  refine s_iinc (pc := 25) (v := w8) (lc' := [some (vr v0), some (vi v1), some (vi v2), some (vi w8)]) d_X4_whoIsIn_25 rfl (by rw [ew8]; rfl) (by decide) rfl ?_
  refine s_goto (pc := 28) (tgt := 4) d_X4_whoIsIn_28 (by decide) ?_
  exact hk4 _ _ _ h
set_option maxHeartbeats 4000000 in
set_option maxRecDepth 20000 in
theorem t_X4_whoIsIn_b4 {l : Launch} {G : Gl} {n : Nat} {sh : Sh} {x : Int32 × Mu} {k4 : Int32 → Int32 → Mu → Option (Int32 × Mu)} {v0 : Nat} {v1 : Int32} {v2 : Int32} {v3 : Int32} {μ : Mu} (hk4 : ∀ (v2 : Int32) (v3 : Int32) (μ : Mu), k4 v2 v3 μ = some x → Sj l G (QI G n sh x) c_X4_whoIsIn n sh 0 0 μ 4 [some (vr v0), some (vi v1), some (vi v2), some (vi v3)] []) (h : m_X4_whoIsIn_b4 sh k4 v0 v1 v2 v3 μ = some x) : Sj l G (QI G n sh x) c_X4_whoIsIn n sh 0 0 μ 4 [some (vr v0), some (vi v1), some (vi v2), some (vi v3)] [] := by
  unfold m_X4_whoIsIn_b4 at h
  refine s_iload_n (pc := 4) d_X4_whoIsIn_4 rfl rfl ?_
  refine s_iconst (pc := 5) (v := 5) d_X4_whoIsIn_5 (by decide) ?_
  refine s_icmp_ge (pc := 6) (tgt := 31) d_X4_whoIsIn_6 (by decide) (fun c1 => ?_) (fun c1 => ?_)
  · have h := it_t c1 h
    refine s_iload_n (pc := 31) d_X4_whoIsIn_31 rfl rfl ?_
    obtain rfl := Option.some.inj h
    exact s_iret (pc := 32) d_X4_whoIsIn_32 rfl
  · have h := it_f c1 h
    refine s_aload_n (pc := 9) d_X4_whoIsIn_9 rfl rfl ?_
    obtain ⟨g2, h⟩ := gd_1 h
    refine s_getR (pc := 10) (k := 7) cl_4 d_X4_whoIsIn_10 g2 (by decide) w_110 (rt_arr _) ?_
    obtain ⟨a3, ea3, h⟩ := bd_1 h
    refine s_topR ea3 ?_
    refine s_iload_n (pc := 13) d_X4_whoIsIn_13 rfl rfl ?_
    obtain ⟨g4, h⟩ := gd_1 h
    refine s_iald (pc := 14) d_X4_whoIsIn_14 g4 ?_
    obtain ⟨w5, ew5, h⟩ := bd_1 h
    refine s_topI ew5 ?_
    refine s_iload_n (pc := 15) d_X4_whoIsIn_15 rfl rfl ?_
    refine s_icmp_ne (pc := 16) (tgt := 25) d_X4_whoIsIn_16 (by decide) (fun c6 => ?_) (fun c6 => ?_)
    · have h := it_f c6 h
      exact t_X4_whoIsIn_b25 hk4 h
    · have h := it_t c6 h
      refine s_iload_n (pc := 19) d_X4_whoIsIn_19 rfl rfl ?_
      refine s_iconst (pc := 20) (v := 1) d_X4_whoIsIn_20 (by decide) ?_
      refine s_iload_n (pc := 21) d_X4_whoIsIn_21 rfl rfl ?_
      refine s_ishl (pc := 22) d_X4_whoIsIn_22 ?_
      refine s_ior (pc := 23) d_X4_whoIsIn_23 ?_
      obtain ⟨w7, ew7, h⟩ := bd_1 h
      refine s_topI ew7 ?_
      refine s_istore_n (pc := 24) (lc' := [some (vr v0), some (vi v1), some (vi w7), some (vi v3)]) d_X4_whoIsIn_24 rfl (by decide) rfl ?_
      exact t_X4_whoIsIn_b25 hk4 h
set_option maxHeartbeats 4000000 in
set_option maxRecDepth 20000 in
theorem t_X4_whoIsIn_h4 {l : Launch} {G : Gl} {n : Nat} {sh : Sh} {x : Int32 × Mu} {v0 : Nat} {v1 : Int32} : ∀ (f : Nat) (v2 : Int32) (v3 : Int32) (μ : Mu), m_X4_whoIsIn_h4 sh v0 v1 f v2 v3 μ = some x → Sj l G (QI G n sh x) c_X4_whoIsIn n sh 0 0 μ 4 [some (vr v0), some (vi v1), some (vi v2), some (vi v3)] [] := by
  intro f
  induction f with
  | zero =>
    intro v2 v3 μ h
    cases h
  | succ f ih =>
    intro v2 v3 μ h
    exact t_X4_whoIsIn_b4 ih h
set_option maxHeartbeats 4000000 in
set_option maxRecDepth 20000 in
theorem t_X4_whoIsIn {l : Launch} {G : Gl} {n : Nat} {sh : Sh} {x : Int32 × Mu} {v0 : Nat} {v1 : Int32} {μ : Mu} (h : m_X4_whoIsIn sh v0 v1 μ = some x) : Ct l G ⟨"StripsOfFour$Scene", "whoIsIn", "(I)I"⟩ prog_6_method_10_code 4 (some .int) { frames := 0, cells := 0, slots := 0, locals := 0 } n sh μ [vr v0, vi v1] (some (.int x.1)) n sh x.2 := by
  refine Ct.of (lc := [some (vr v0), some (vi v1), none, none]) (by decide +kernel) (Nat.le_of_ble_eq_true rfl) rfl ?_
  show Sj l G (QI G n sh x) c_X4_whoIsIn n sh 0 0 μ 0 [some (vr v0), some (vi v1), none, none] []
  unfold m_X4_whoIsIn at h
  refine s_iconst (pc := 0) (v := 0) d_X4_whoIsIn_0 (by decide) ?_
  refine s_istore_n (pc := 1) (lc' := [some (vr v0), some (vi v1), some (vi 0), none]) d_X4_whoIsIn_1 rfl (by decide) rfl ?_
  refine s_iconst (pc := 2) (v := 0) d_X4_whoIsIn_2 (by decide) ?_
  refine s_istore_n (pc := 3) (lc' := [some (vr v0), some (vi v1), some (vi 0), some (vi 0)]) d_X4_whoIsIn_3 rfl (by decide) rfl ?_
  exact t_X4_whoIsIn_h4 FU _ _ _ h
/-! StripsOfFour$Past.remember -/
abbrev c_X1_remember : Cf := (prog_3_method_3_code, 2, "StripsOfFour$Past", "remember", none, { frames := 3, cells := 0, slots := 0, locals := 111 })
theorem d_X1_remember_0 : decode prog_3_method_3_code 0 = .ok (.aload_n 0, 1) := by decide +kernel
theorem d_X1_remember_1 : decode prog_3_method_3_code 1 = .ok (.getfield 9, 3) := by decide +kernel
theorem d_X1_remember_4 : decode prog_3_method_3_code 4 = .ok (.bipush 12, 2) := by decide +kernel
theorem d_X1_remember_6 : decode prog_3_method_3_code 6 = .ok (.if_icmp .lt 24, 3) := by decide +kernel
theorem d_X1_remember_9 : decode prog_3_method_3_code 9 = .ok (.aload_n 0, 1) := by decide +kernel
theorem d_X1_remember_10 : decode prog_3_method_3_code 10 = .ok (.aload_n 0, 1) := by decide +kernel
theorem d_X1_remember_11 : decode prog_3_method_3_code 11 = .ok (.getfield 15, 3) := by decide +kernel
theorem d_X1_remember_14 : decode prog_3_method_3_code 14 = .ok (.iconst 1, 1) := by decide +kernel
theorem d_X1_remember_15 : decode prog_3_method_3_code 15 = .ok (.iadd, 1) := by decide +kernel
theorem d_X1_remember_16 : decode prog_3_method_3_code 16 = .ok (.bipush 12, 2) := by decide +kernel
theorem d_X1_remember_18 : decode prog_3_method_3_code 18 = .ok (.invokestatic 25, 3) := by decide +kernel
theorem d_X1_remember_21 : decode prog_3_method_3_code 21 = .ok (.putfield 15, 3) := by decide +kernel
theorem d_X1_remember_24 : decode prog_3_method_3_code 24 = .ok (.aload_n 0, 1) := by decide +kernel
theorem d_X1_remember_25 : decode prog_3_method_3_code 25 = .ok (.bipush 11, 2) := by decide +kernel
theorem d_X1_remember_27 : decode prog_3_method_3_code 27 = .ok (.putfield 9, 3) := by decide +kernel
theorem d_X1_remember_30 : decode prog_3_method_3_code 30 = .ok (.aload_n 0, 1) := by decide +kernel
theorem d_X1_remember_31 : decode prog_3_method_3_code 31 = .ok (.getfield 20, 3) := by decide +kernel
theorem d_X1_remember_34 : decode prog_3_method_3_code 34 = .ok (.aload_n 0, 1) := by decide +kernel
theorem d_X1_remember_35 : decode prog_3_method_3_code 35 = .ok (.getfield 15, 3) := by decide +kernel
theorem d_X1_remember_38 : decode prog_3_method_3_code 38 = .ok (.aload_n 0, 1) := by decide +kernel
theorem d_X1_remember_39 : decode prog_3_method_3_code 39 = .ok (.getfield 9, 3) := by decide +kernel
theorem d_X1_remember_42 : decode prog_3_method_3_code 42 = .ok (.iadd, 1) := by decide +kernel
theorem d_X1_remember_43 : decode prog_3_method_3_code 43 = .ok (.bipush 12, 2) := by decide +kernel
theorem d_X1_remember_45 : decode prog_3_method_3_code 45 = .ok (.invokestatic 25, 3) := by decide +kernel
theorem d_X1_remember_48 : decode prog_3_method_3_code 48 = .ok (.aaload, 1) := by decide +kernel
theorem d_X1_remember_49 : decode prog_3_method_3_code 49 = .ok (.aload_n 1, 1) := by decide +kernel
theorem d_X1_remember_50 : decode prog_3_method_3_code 50 = .ok (.invokevirtual 31, 3) := by decide +kernel
theorem d_X1_remember_53 : decode prog_3_method_3_code 53 = .ok (.aload_n 0, 1) := by decide +kernel
theorem d_X1_remember_54 : decode prog_3_method_3_code 54 = .ok (.dup, 1) := by decide +kernel
theorem d_X1_remember_55 : decode prog_3_method_3_code 55 = .ok (.getfield 9, 3) := by decide +kernel
theorem d_X1_remember_58 : decode prog_3_method_3_code 58 = .ok (.iconst 1, 1) := by decide +kernel
theorem d_X1_remember_59 : decode prog_3_method_3_code 59 = .ok (.iadd, 1) := by decide +kernel
theorem d_X1_remember_60 : decode prog_3_method_3_code 60 = .ok (.putfield 9, 3) := by decide +kernel
theorem d_X1_remember_63 : decode prog_3_method_3_code 63 = .ok (.return_, 1) := by decide +kernel
def m_X1_remember_b30 (sh : Sh) (v0 : Nat) (v1 : Nat) (μ : Mu) : Option Mu :=
  gd (iz sh 1 v0) <|
  bd (gR μ v0 2) fun a8 =>
  ca2 (m_J9_floorMod_7cf53 sh ((gI μ v0 1) + (gI μ v0 0)) 12 μ) fun r9 μ10 =>
  gd (ix sh 12 a8 r9) <|
  bd (gR μ10 a8 r9.toNatClampNeg) fun a12 =>
  gd (iz sh 4 a12) <|
  ca (m_X4_copyFrom sh a12 v1 μ10) fun μ14 =>
  bd (sI μ14 v0 0 ((gI μ14 v0 0) + 1)) fun μ15 =>
  some μ15
def m_X1_remember (sh : Sh) (v0 : Nat) (v1 : Nat) (μ : Mu) : Option Mu :=
  gd (iz sh 1 v0) <|
  if (gI μ v0 0) < 12 then
    m_X1_remember_b30 sh v0 v1 μ
  else
    ca2 (m_J9_floorMod_7cf53 sh ((gI μ v0 1) + 1) 12 μ) fun r3 μ4 =>
    bd (sI μ4 v0 1 r3) fun μ5 =>
    bd (sI μ5 v0 0 11) fun μ6 =>
    m_X1_remember_b30 sh v0 v1 μ6
set_option maxHeartbeats 4000000 in
set_option maxRecDepth 20000 in
theorem t_X1_remember_b30 {l : Launch} {G : Gl} {n : Nat} {sh : Sh} {x : Mu} {v0 : Nat} {v1 : Nat} {μ : Mu} (h : m_X1_remember_b30 sh v0 v1 μ = some x) : Sj l G (QV G n sh x) c_X1_remember n sh 0 0 μ 30 [some (vr v0), some (vr v1)] [] := by
  unfold m_X1_remember_b30 at h
  refine s_aload_n (pc := 30) d_X1_remember_30 rfl rfl ?_
  obtain ⟨g7, h⟩ := gd_1 h
  refine s_getR (pc := 31) (k := 2) cl_1 d_X1_remember_31 g7 (by decide) w_146 (rt_arr _) ?_
  obtain ⟨a8, ea8, h⟩ := bd_1 h
  refine s_topR ea8 ?_
  refine s_aload_n (pc := 34) d_X1_remember_34 rfl rfl ?_
  refine s_getI (pc := 35) (k := 1) cl_1 d_X1_remember_35 g7 (by decide) w_145 rfl ?_
  refine s_aload_n (pc := 38) d_X1_remember_38 rfl rfl ?_
  refine s_getI (pc := 39) (k := 0) cl_1 d_X1_remember_39 g7 (by decide) w_143 rfl ?_
  refine s_iadd (pc := 42) d_X1_remember_42 ?_
  refine s_bipush (pc := 43) (v := 12) d_X1_remember_43 (by decide) ?_
  obtain ⟨r9, μ10, er9, h⟩ := ca2_1 h
  refine s_callS (pc := 45) (as := [vi ((gI μ v0 1) + (gI μ v0 0)), vi 12]) (st := [vr a8]) (vo := [vi r9]) (t_J9_floorMod_7cf53 er9) d_X1_remember_45 y_J9_floorMod_7cf53 w_382 w_311 ⟨by decide, by decide⟩ ⟨Nat.le_of_ble_eq_true rfl, Nat.le_of_ble_eq_true rfl⟩ (Nat.le_of_ble_eq_true rfl) rfl rfl rfl ?_
  refine s_as (kc' := 0) (js' := 0) (pc' := 48) (st' := [vi r9, vr a8]) ⟨rfl, rfl, rfl, rfl⟩ ?_
  obtain ⟨g11, h⟩ := gd_1 h
  refine s_aald12 (pc := 48) d_X1_remember_48 g11 ?_
  obtain ⟨a12, ea12, h⟩ := bd_1 h
  refine s_topR ea12 ?_
  refine s_aload_n (pc := 49) d_X1_remember_49 rfl rfl ?_
  obtain ⟨g13, h⟩ := gd_1 h
  obtain ⟨μ14, eμ14, h⟩ := ca_1 h
  refine s_callV (pc := 50) (as := [vr v1]) (st := []) (vo := []) (t_X4_copyFrom eμ14) cl_4 g13 d_X1_remember_50 y_X4_copyFrom w_383 w_384 w_385 ⟨by decide, by decide⟩ ⟨Nat.le_of_ble_eq_true rfl, Nat.le_of_ble_eq_true rfl⟩ (Nat.le_of_ble_eq_true rfl) rfl rfl rfl ?_
  refine s_as (kc' := 0) (js' := 0) (pc' := 53) (st' := []) ⟨rfl, rfl, rfl, rfl⟩ ?_
  refine s_aload_n (pc := 53) d_X1_remember_53 rfl rfl ?_
  refine s_dup (pc := 54) d_X1_remember_54 rfl ?_
  refine s_getI (pc := 55) (k := 0) cl_1 d_X1_remember_55 g7 (by decide) w_143 rfl ?_
  refine s_iconst (pc := 58) (v := 1) d_X1_remember_58 (by decide) ?_
  refine s_iadd (pc := 59) d_X1_remember_59 ?_
  refine s_putI (pc := 60) (k := 0) cl_1 d_X1_remember_60 g7 (by decide) w_143 rfl rfl ?_
  obtain ⟨μ15, eμ15, h⟩ := bd_1 h
  refine s_mu eμ15 ?_
  obtain rfl := Option.some.inj h
  exact s_vret (pc := 63) d_X1_remember_63 rfl
set_option maxHeartbeats 4000000 in
set_option maxRecDepth 20000 in
theorem t_X1_remember {l : Launch} {G : Gl} {n : Nat} {sh : Sh} {x : Mu} {v0 : Nat} {v1 : Nat} {μ : Mu} (h : m_X1_remember sh v0 v1 μ = some x) : Ct l G ⟨"StripsOfFour$Past", "remember", "(LStripsOfFour$Scene;)V"⟩ prog_3_method_3_code 2 none { frames := 3, cells := 0, slots := 0, locals := 111 } n sh μ [vr v0, vr v1] none n sh x := by
  refine Ct.of (lc := [some (vr v0), some (vr v1)]) (by decide +kernel) (Nat.le_of_ble_eq_true rfl) rfl ?_
  show Sj l G (QV G n sh x) c_X1_remember n sh 0 0 μ 0 [some (vr v0), some (vr v1)] []
  unfold m_X1_remember at h
  refine s_aload_n (pc := 0) d_X1_remember_0 rfl rfl ?_
  obtain ⟨g1, h⟩ := gd_1 h
  refine s_getI (pc := 1) (k := 0) cl_1 d_X1_remember_1 g1 (by decide) w_143 rfl ?_
  refine s_bipush (pc := 4) (v := 12) d_X1_remember_4 (by decide) ?_
  refine s_icmp_lt (pc := 6) (tgt := 30) d_X1_remember_6 (by decide) (fun c2 => ?_) (fun c2 => ?_)
  · have h := it_t c2 h
    exact t_X1_remember_b30 h
  · have h := it_f c2 h
    refine s_aload_n (pc := 9) d_X1_remember_9 rfl rfl ?_
    refine s_aload_n (pc := 10) d_X1_remember_10 rfl rfl ?_
    refine s_getI (pc := 11) (k := 1) cl_1 d_X1_remember_11 g1 (by decide) w_145 rfl ?_
    refine s_iconst (pc := 14) (v := 1) d_X1_remember_14 (by decide) ?_
    refine s_iadd (pc := 15) d_X1_remember_15 ?_
    refine s_bipush (pc := 16) (v := 12) d_X1_remember_16 (by decide) ?_
    obtain ⟨r3, μ4, er3, h⟩ := ca2_1 h
    refine s_callS (pc := 18) (as := [vi ((gI μ v0 1) + 1), vi 12]) (st := [vr v0]) (vo := [vi r3]) (t_J9_floorMod_7cf53 er3) d_X1_remember_18 y_J9_floorMod_7cf53 w_382 w_311 ⟨by decide, by decide⟩ ⟨Nat.le_of_ble_eq_true rfl, Nat.le_of_ble_eq_true rfl⟩ (Nat.le_of_ble_eq_true rfl) rfl rfl rfl ?_
    refine s_as (kc' := 0) (js' := 0) (pc' := 21) (st' := [vi r3, vr v0]) ⟨rfl, rfl, rfl, rfl⟩ ?_
    refine s_putI (pc := 21) (k := 1) cl_1 d_X1_remember_21 g1 (by decide) w_145 rfl rfl ?_
    obtain ⟨μ5, eμ5, h⟩ := bd_1 h
    refine s_mu eμ5 ?_
    refine s_aload_n (pc := 24) d_X1_remember_24 rfl rfl ?_
    refine s_bipush (pc := 25) (v := 11) d_X1_remember_25 (by decide) ?_
    refine s_putI (pc := 27) (k := 0) cl_1 d_X1_remember_27 g1 (by decide) w_143 rfl rfl ?_
    obtain ⟨μ6, eμ6, h⟩ := bd_1 h
    refine s_mu eμ6 ?_
    exact t_X1_remember_b30 h
/-! StripsOfFour$Scene.fadeByOne -/
abbrev c_X4_fadeByOne : Cf := (prog_6_method_18_code, 2, "StripsOfFour$Scene", "fadeByOne", none, { frames := 1, cells := 0, slots := 0, locals := 21 })
theorem d_X4_fadeByOne_0 : decode prog_6_method_18_code 0 = .ok (.iconst 0, 1) := by decide +kernel
theorem d_X4_fadeByOne_1 : decode prog_6_method_18_code 1 = .ok (.istore_n 1, 1) := by decide +kernel
theorem d_X4_fadeByOne_2 : decode prog_6_method_18_code 2 = .ok (.iload_n 1, 1) := by decide +kernel
theorem d_X4_fadeByOne_3 : decode prog_6_method_18_code 3 = .ok (.aload_n 0, 1) := by decide +kernel
theorem d_X4_fadeByOne_4 : decode prog_6_method_18_code 4 = .ok (.getfield 25, 3) := by decide +kernel
theorem d_X4_fadeByOne_7 : decode prog_6_method_18_code 7 = .ok (.if_icmp .ge 40, 3) := by decide +kernel
theorem d_X4_fadeByOne_10 : decode prog_6_method_18_code 10 = .ok (.iload_n 1, 1) := by decide +kernel
theorem d_X4_fadeByOne_11 : decode prog_6_method_18_code 11 = .ok (.bipush 8, 2) := by decide +kernel
theorem d_X4_fadeByOne_13 : decode prog_6_method_18_code 13 = .ok (.if_icmp .ge 34, 3) := by decide +kernel
theorem d_X4_fadeByOne_16 : decode prog_6_method_18_code 16 = .ok (.aload_n 0, 1) := by decide +kernel
theorem d_X4_fadeByOne_17 : decode prog_6_method_18_code 17 = .ok (.getfield 30, 3) := by decide +kernel
theorem d_X4_fadeByOne_20 : decode prog_6_method_18_code 20 = .ok (.iload_n 1, 1) := by decide +kernel
theorem d_X4_fadeByOne_21 : decode prog_6_method_18_code 21 = .ok (.aaload, 1) := by decide +kernel
theorem d_X4_fadeByOne_22 : decode prog_6_method_18_code 22 = .ok (.bipush 9, 2) := by decide +kernel
theorem d_X4_fadeByOne_24 : decode prog_6_method_18_code 24 = .ok (.aload_n 0, 1) := by decide +kernel
theorem d_X4_fadeByOne_25 : decode prog_6_method_18_code 25 = .ok (.getfield 30, 3) := by decide +kernel
theorem d_X4_fadeByOne_28 : decode prog_6_method_18_code 28 = .ok (.iload_n 1, 1) := by decide +kernel
theorem d_X4_fadeByOne_29 : decode prog_6_method_18_code 29 = .ok (.aaload, 1) := by decide +kernel
theorem d_X4_fadeByOne_30 : decode prog_6_method_18_code 30 = .ok (.getfield 114, 3) := by decide +kernel
theorem d_X4_fadeByOne_33 : decode prog_6_method_18_code 33 = .ok (.iconst 1, 1) := by decide +kernel
theorem d_X4_fadeByOne_34 : decode prog_6_method_18_code 34 = .ok (.iadd, 1) := by decide +kernel
theorem d_X4_fadeByOne_35 : decode prog_6_method_18_code 35 = .ok (.invokestatic 117, 3) := by decide +kernel
theorem d_X4_fadeByOne_38 : decode prog_6_method_18_code 38 = .ok (.putfield 114, 3) := by decide +kernel
theorem d_X4_fadeByOne_41 : decode prog_6_method_18_code 41 = .ok (.iinc 1 1, 3) := by decide +kernel
theorem d_X4_fadeByOne_44 : decode prog_6_method_18_code 44 = .ok (.goto (-42), 3) := by decide +kernel
theorem d_X4_fadeByOne_47 : decode prog_6_method_18_code 47 = .ok (.return_, 1) := by decide +kernel
def m_X4_fadeByOne_b2 (sh : Sh) (k2 : Int32 → Mu → Option Mu) (v0 : Nat) (v1 : Int32) (μ : Mu) : Option Mu :=
  gd (iz sh 4 v0) <|
  if (gI μ v0 4) ≤ v1 then
    some μ
  else
    if 8 ≤ v1 then
      some μ
    else
      bd (gR μ v0 5) fun a4 =>
      gd (ix sh 11 a4 v1) <|
      bd (gR μ a4 v1.toNatClampNeg) fun a6 =>
      bd (gR μ v0 5) fun a7 =>
      gd (ix sh 11 a7 v1) <|
      bd (gR μ a7 v1.toNatClampNeg) fun a9 =>
      gd (iz sh 5 a9) <|
      ca2 (m_J9_min_7cf53 sh 9 ((gI μ a9 3) + 1) μ) fun r11 μ12 =>
      gd (iz sh 5 a6) <|
      bd (sI μ12 a6 3 r11) fun μ14 =>
      bd (v1 + 1) fun w15 =>
      k2 w15 μ14
def m_X4_fadeByOne_h2 (sh : Sh) (v0 : Nat) : Nat → Int32 → Mu → Option Mu
  | 0 => fun _ _ => none
  | f + 1 => fun v1 μ => m_X4_fadeByOne_b2 sh (m_X4_fadeByOne_h2 sh v0 f) v0 v1 μ
def m_X4_fadeByOne (sh : Sh) (v0 : Nat) (μ : Mu) : Option Mu :=
  m_X4_fadeByOne_h2 sh v0 FU 0 μ
set_option maxHeartbeats 4000000 in
set_option maxRecDepth 20000 in
theorem t_X4_fadeByOne_b2 {l : Launch} {G : Gl} {n : Nat} {sh : Sh} {x : Mu} {k2 : Int32 → Mu → Option Mu} {v0 : Nat} {v1 : Int32} {μ : Mu} (hk2 : ∀ (v1 : Int32) (μ : Mu), k2 v1 μ = some x → Sj l G (QV G n sh x) c_X4_fadeByOne n sh 0 0 μ 2 [some (vr v0), some (vi v1)] []) (h : m_X4_fadeByOne_b2 sh k2 v0 v1 μ = some x) : Sj l G (QV G n sh x) c_X4_fadeByOne n sh 0 0 μ 2 [some (vr v0), some (vi v1)] [] := by
  unfold m_X4_fadeByOne_b2 at h
  refine s_iload_n (pc := 2) d_X4_fadeByOne_2 rfl rfl ?_
  refine s_aload_n (pc := 3) d_X4_fadeByOne_3 rfl rfl ?_
  obtain ⟨g1, h⟩ := gd_1 h
  refine s_getI (pc := 4) (k := 4) cl_4 d_X4_fadeByOne_4 g1 (by decide) w_102 rfl ?_
  refine s_icmp_ge (pc := 7) (tgt := 47) d_X4_fadeByOne_7 (by decide) (fun c2 => ?_) (fun c2 => ?_)
  · have h := it_t c2 h
    obtain rfl := Option.some.inj h
    exact s_vret (pc := 47) d_X4_fadeByOne_47 rfl
  · have h := it_f c2 h
    refine s_iload_n (pc := 10) d_X4_fadeByOne_10 rfl rfl ?_
    refine s_bipush (pc := 11) (v := 8) d_X4_fadeByOne_11 (by decide) ?_
    refine s_icmp_ge (pc := 13) (tgt := 47) d_X4_fadeByOne_13 (by decide) (fun c3 => ?_) (fun c3 => ?_)
    · have h := it_t c3 h
      obtain rfl := Option.some.inj h
      exact s_vret (pc := 47) d_X4_fadeByOne_47 rfl
    · have h := it_f c3 h
      refine s_aload_n (pc := 16) d_X4_fadeByOne_16 rfl rfl ?_
      refine s_getR (pc := 17) (k := 5) cl_4 d_X4_fadeByOne_17 g1 (by decide) w_105 (rt_arr _) ?_
      obtain ⟨a4, ea4, h⟩ := bd_1 h
      refine s_topR ea4 ?_
      refine s_iload_n (pc := 20) d_X4_fadeByOne_20 rfl rfl ?_
      obtain ⟨g5, h⟩ := gd_1 h
      refine s_aald11 (pc := 21) d_X4_fadeByOne_21 g5 ?_
      obtain ⟨a6, ea6, h⟩ := bd_1 h
      refine s_topR ea6 ?_
      refine s_bipush (pc := 22) (v := 9) d_X4_fadeByOne_22 (by decide) ?_
      refine s_aload_n (pc := 24) d_X4_fadeByOne_24 rfl rfl ?_
      refine s_getR (pc := 25) (k := 5) cl_4 d_X4_fadeByOne_25 g1 (by decide) w_105 (rt_arr _) ?_
      obtain ⟨a7, ea7, h⟩ := bd_1 h
      refine s_topR ea7 ?_
      refine s_iload_n (pc := 28) d_X4_fadeByOne_28 rfl rfl ?_
      obtain ⟨g8, h⟩ := gd_1 h
      refine s_aald11 (pc := 29) d_X4_fadeByOne_29 g8 ?_
      obtain ⟨a9, ea9, h⟩ := bd_1 h
      refine s_topR ea9 ?_
      obtain ⟨g10, h⟩ := gd_1 h
      refine s_getI (pc := 30) (k := 3) cl_5 d_X4_fadeByOne_30 g10 (by decide) w_73 rfl ?_
      refine s_iconst (pc := 33) (v := 1) d_X4_fadeByOne_33 (by decide) ?_
      refine s_iadd (pc := 34) d_X4_fadeByOne_34 ?_
      obtain ⟨r11, μ12, er11, h⟩ := ca2_1 h
      refine s_callS (pc := 35) (as := [vi 9, vi ((gI μ a9 3) + 1)]) (st := [vr a6]) (vo := [vi r11]) (t_J9_min_7cf53 er11) d_X4_fadeByOne_35 y_J9_min_7cf53 w_460 w_461 ⟨by decide, by decide⟩ ⟨Nat.le_of_ble_eq_true rfl, Nat.le_of_ble_eq_true rfl⟩ (Nat.le_of_ble_eq_true rfl) rfl rfl rfl ?_
      refine s_as (kc' := 0) (js' := 0) (pc' := 38) (st' := [vi r11, vr a6]) ⟨rfl, rfl, rfl, rfl⟩ ?_
      obtain ⟨g13, h⟩ := gd_1 h
      refine s_putI (pc := 38) (k := 3) cl_5 d_X4_fadeByOne_38 g13 (by decide) w_73 rfl rfl ?_
      obtain ⟨μ14, eμ14, h⟩ := bd_1 h
      refine s_mu eμ14 ?_
      obtain ⟨w15, ew15, h⟩ := bd_1 h
      refine s_iinc (pc := 41) (v := w15) (lc' := [some (vr v0), some (vi w15)]) d_X4_fadeByOne_41 rfl (by rw [ew15]; rfl) (by decide) rfl ?_
      refine s_goto (pc := 44) (tgt := 2) d_X4_fadeByOne_44 (by decide) ?_
      exact hk2 _ _ h
set_option maxHeartbeats 4000000 in
set_option maxRecDepth 20000 in
theorem t_X4_fadeByOne_h2 {l : Launch} {G : Gl} {n : Nat} {sh : Sh} {x : Mu} {v0 : Nat} : ∀ (f : Nat) (v1 : Int32) (μ : Mu), m_X4_fadeByOne_h2 sh v0 f v1 μ = some x → Sj l G (QV G n sh x) c_X4_fadeByOne n sh 0 0 μ 2 [some (vr v0), some (vi v1)] [] := by
  intro f
  induction f with
  | zero =>
    intro v1 μ h
    cases h
  | succ f ih =>
    intro v1 μ h
    exact t_X4_fadeByOne_b2 ih h
set_option maxHeartbeats 4000000 in
set_option maxRecDepth 20000 in
theorem t_X4_fadeByOne {l : Launch} {G : Gl} {n : Nat} {sh : Sh} {x : Mu} {v0 : Nat} {μ : Mu} (h : m_X4_fadeByOne sh v0 μ = some x) : Ct l G ⟨"StripsOfFour$Scene", "fadeByOne", "()V"⟩ prog_6_method_18_code 2 none { frames := 1, cells := 0, slots := 0, locals := 21 } n sh μ [vr v0] none n sh x := by
  refine Ct.of (lc := [some (vr v0), none]) (by decide +kernel) (Nat.le_of_ble_eq_true rfl) rfl ?_
  show Sj l G (QV G n sh x) c_X4_fadeByOne n sh 0 0 μ 0 [some (vr v0), none] []
  unfold m_X4_fadeByOne at h
  refine s_iconst (pc := 0) (v := 0) d_X4_fadeByOne_0 (by decide) ?_
  refine s_istore_n (pc := 1) (lc' := [some (vr v0), some (vi 0)]) d_X4_fadeByOne_1 rfl (by decide) rfl ?_
  exact t_X4_fadeByOne_h2 FU _ _ h
/-! StripsOfFour$Scene.isOfPeople -/
abbrev c_X4_isOfPeople : Cf := (prog_6_method_5_code, 1, "StripsOfFour$Scene", "isOfPeople", (some .boolean), { frames := 0, cells := 0, slots := 0, locals := 0 })
theorem d_X4_isOfPeople_0 : decode prog_6_method_5_code 0 = .ok (.iload_n 0, 1) := by decide +kernel
theorem d_X4_isOfPeople_1 : decode prog_6_method_5_code 1 = .ok (.ifCond .lt 12, 3) := by decide +kernel
theorem d_X4_isOfPeople_4 : decode prog_6_method_5_code 4 = .ok (.iload_n 0, 1) := by decide +kernel
theorem d_X4_isOfPeople_5 : decode prog_6_method_5_code 5 = .ok (.iconst 5, 1) := by decide +kernel
theorem d_X4_isOfPeople_6 : decode prog_6_method_5_code 6 = .ok (.if_icmp .ge 7, 3) := by decide +kernel
theorem d_X4_isOfPeople_9 : decode prog_6_method_5_code 9 = .ok (.iconst 1, 1) := by decide +kernel
theorem d_X4_isOfPeople_10 : decode prog_6_method_5_code 10 = .ok (.goto 4, 3) := by decide +kernel
theorem d_X4_isOfPeople_13 : decode prog_6_method_5_code 13 = .ok (.iconst 0, 1) := by decide +kernel
theorem d_X4_isOfPeople_14 : decode prog_6_method_5_code 14 = .ok (.ireturn, 1) := by decide +kernel
def m_X4_isOfPeople (sh : Sh) (v0 : Int32) (μ : Mu) : Option (Int32 × Mu) :=
  if v0 < 0 then
    some (0, μ)
  else
    if 5 ≤ v0 then
      some (0, μ)
    else
      some (1, μ)
set_option maxHeartbeats 4000000 in
set_option maxRecDepth 20000 in
theorem t_X4_isOfPeople {l : Launch} {G : Gl} {n : Nat} {sh : Sh} {x : Int32 × Mu} {v0 : Int32} {μ : Mu} (h : m_X4_isOfPeople sh v0 μ = some x) : Ct l G ⟨"StripsOfFour$Scene", "isOfPeople", "(I)Z"⟩ prog_6_method_5_code 1 (some .boolean) { frames := 0, cells := 0, slots := 0, locals := 0 } n sh μ [vi v0] (some (.int x.1)) n sh x.2 := by
  refine Ct.of (lc := [some (vi v0)]) (by decide +kernel) (Nat.le_of_ble_eq_true rfl) rfl ?_
  show Sj l G (QI G n sh x) c_X4_isOfPeople n sh 0 0 μ 0 [some (vi v0)] []
  unfold m_X4_isOfPeople at h
  refine s_iload_n (pc := 0) d_X4_isOfPeople_0 rfl rfl ?_
  refine s_if_lt (pc := 1) (tgt := 13) d_X4_isOfPeople_1 (by decide) (fun c1 => ?_) (fun c1 => ?_)
  · have h := it_t c1 h
    refine s_iconst (pc := 13) (v := 0) d_X4_isOfPeople_13 (by decide) ?_
    obtain rfl := Option.some.inj h
    exact s_zret0 (pc := 14) rfl d_X4_isOfPeople_14 rfl
  · have h := it_f c1 h
    refine s_iload_n (pc := 4) d_X4_isOfPeople_4 rfl rfl ?_
    refine s_iconst (pc := 5) (v := 5) d_X4_isOfPeople_5 (by decide) ?_
    refine s_icmp_ge (pc := 6) (tgt := 13) d_X4_isOfPeople_6 (by decide) (fun c2 => ?_) (fun c2 => ?_)
    · have h := it_t c2 h
      refine s_iconst (pc := 13) (v := 0) d_X4_isOfPeople_13 (by decide) ?_
      obtain rfl := Option.some.inj h
      exact s_zret0 (pc := 14) rfl d_X4_isOfPeople_14 rfl
    · have h := it_f c2 h
      refine s_iconst (pc := 9) (v := 1) d_X4_isOfPeople_9 (by decide) ?_
      refine s_goto (pc := 10) (tgt := 14) d_X4_isOfPeople_10 (by decide) ?_
      obtain rfl := Option.some.inj h
      exact s_zret0 (pc := 14) rfl d_X4_isOfPeople_14 rfl
/-! StripsOfFour$Scene.leftAt -/
abbrev c_X4_leftAt : Cf := (prog_6_method_8_code, 2, "StripsOfFour$Scene", "leftAt", (some .int), { frames := 1, cells := 0, slots := 0, locals := 20 })
theorem d_X4_leftAt_0 : decode prog_6_method_8_code 0 = .ok (.iload_n 1, 1) := by decide +kernel
theorem d_X4_leftAt_1 : decode prog_6_method_8_code 1 = .ok (.invokestatic 65, 3) := by decide +kernel
theorem d_X4_leftAt_4 : decode prog_6_method_8_code 4 = .ok (.ifCond .eq 12, 3) := by decide +kernel
theorem d_X4_leftAt_7 : decode prog_6_method_8_code 7 = .ok (.aload_n 0, 1) := by decide +kernel
theorem d_X4_leftAt_8 : decode prog_6_method_8_code 8 = .ok (.getfield 44, 3) := by decide +kernel
theorem d_X4_leftAt_11 : decode prog_6_method_8_code 11 = .ok (.iload_n 1, 1) := by decide +kernel
theorem d_X4_leftAt_12 : decode prog_6_method_8_code 12 = .ok (.iaload, 1) := by decide +kernel
theorem d_X4_leftAt_13 : decode prog_6_method_8_code 13 = .ok (.goto 5, 3) := by decide +kernel
theorem d_X4_leftAt_16 : decode prog_6_method_8_code 16 = .ok (.bipush (-9), 2) := by decide +kernel
theorem d_X4_leftAt_18 : decode prog_6_method_8_code 18 = .ok (.ireturn, 1) := by decide +kernel
def m_X4_leftAt (sh : Sh) (v0 : Nat) (v1 : Int32) (μ : Mu) : Option (Int32 × Mu) :=
  ca2 (m_X4_isOfPeople sh v1 μ) fun r1 μ2 =>
  if r1 = 0 then
    some ((-9), μ2)
  else
    gd (iz sh 4 v0) <|
    bd (gR μ2 v0 9) fun a5 =>
    gd (ix sh 8 a5 v1) <|
    bd (gI μ2 a5 v1.toNatClampNeg) fun w7 =>
    some (w7, μ2)
set_option maxHeartbeats 4000000 in
set_option maxRecDepth 20000 in
theorem t_X4_leftAt {l : Launch} {G : Gl} {n : Nat} {sh : Sh} {x : Int32 × Mu} {v0 : Nat} {v1 : Int32} {μ : Mu} (h : m_X4_leftAt sh v0 v1 μ = some x) : Ct l G ⟨"StripsOfFour$Scene", "leftAt", "(I)I"⟩ prog_6_method_8_code 2 (some .int) { frames := 1, cells := 0, slots := 0, locals := 20 } n sh μ [vr v0, vi v1] (some (.int x.1)) n sh x.2 := by
  refine Ct.of (lc := [some (vr v0), some (vi v1)]) (by decide +kernel) (Nat.le_of_ble_eq_true rfl) rfl ?_
  show Sj l G (QI G n sh x) c_X4_leftAt n sh 0 0 μ 0 [some (vr v0), some (vi v1)] []
  unfold m_X4_leftAt at h
  refine s_iload_n (pc := 0) d_X4_leftAt_0 rfl rfl ?_
  obtain ⟨r1, μ2, er1, h⟩ := ca2_1 h
  refine s_callS (pc := 1) (as := [vi v1]) (st := []) (vo := [vi r1]) (t_X4_isOfPeople er1) d_X4_leftAt_1 y_X4_isOfPeople w_326 w_327 ⟨by decide, by decide⟩ ⟨Nat.le_of_ble_eq_true rfl, Nat.le_of_ble_eq_true rfl⟩ (Nat.le_of_ble_eq_true rfl) rfl rfl rfl ?_
  refine s_as (kc' := 0) (js' := 0) (pc' := 4) (st' := [vi r1]) ⟨rfl, rfl, rfl, rfl⟩ ?_
  refine s_if_eq (pc := 4) (tgt := 16) d_X4_leftAt_4 (by decide) (fun c3 => ?_) (fun c3 => ?_)
  · have h := it_t c3 h
    refine s_bipush (pc := 16) (v := (-9)) d_X4_leftAt_16 (by decide) ?_
    obtain rfl := Option.some.inj h
    exact s_iret (pc := 18) d_X4_leftAt_18 rfl
  · have h := it_f c3 h
    refine s_aload_n (pc := 7) d_X4_leftAt_7 rfl rfl ?_
    obtain ⟨g4, h⟩ := gd_1 h
    refine s_getR (pc := 8) (k := 9) cl_4 d_X4_leftAt_8 g4 (by decide) w_112 (rt_arr _) ?_
    obtain ⟨a5, ea5, h⟩ := bd_1 h
    refine s_topR ea5 ?_
    refine s_iload_n (pc := 11) d_X4_leftAt_11 rfl rfl ?_
    obtain ⟨g6, h⟩ := gd_1 h
    refine s_iald (pc := 12) d_X4_leftAt_12 g6 ?_
    obtain ⟨w7, ew7, h⟩ := bd_1 h
    refine s_topI ew7 ?_
    refine s_goto (pc := 13) (tgt := 18) d_X4_leftAt_13 (by decide) ?_
    obtain rfl := Option.some.inj h
    exact s_iret (pc := 18) d_X4_leftAt_18 rfl
/-! StripsOfFour$Scene.leftOf -/
abbrev c_X4_leftOf : Cf := (prog_6_method_7_code, 2, "StripsOfFour$Scene", "leftOf", (some .int), { frames := 1, cells := 0, slots := 0, locals := 20 })
theorem d_X4_leftOf_0 : decode prog_6_method_7_code 0 = .ok (.iload_n 1, 1) := by decide +kernel
theorem d_X4_leftOf_1 : decode prog_6_method_7_code 1 = .ok (.invokestatic 65, 3) := by decide +kernel
theorem d_X4_leftOf_4 : decode prog_6_method_7_code 4 = .ok (.ifCond .eq 12, 3) := by decide +kernel
theorem d_X4_leftOf_7 : decode prog_6_method_7_code 7 = .ok (.aload_n 0, 1) := by decide +kernel
theorem d_X4_leftOf_8 : decode prog_6_method_7_code 8 = .ok (.getfield 41, 3) := by decide +kernel
theorem d_X4_leftOf_11 : decode prog_6_method_7_code 11 = .ok (.iload_n 1, 1) := by decide +kernel
theorem d_X4_leftOf_12 : decode prog_6_method_7_code 12 = .ok (.iaload, 1) := by decide +kernel
theorem d_X4_leftOf_13 : decode prog_6_method_7_code 13 = .ok (.goto 5, 3) := by decide +kernel
theorem d_X4_leftOf_16 : decode prog_6_method_7_code 16 = .ok (.bipush (-9), 2) := by decide +kernel
theorem d_X4_leftOf_18 : decode prog_6_method_7_code 18 = .ok (.ireturn, 1) := by decide +kernel
def m_X4_leftOf (sh : Sh) (v0 : Nat) (v1 : Int32) (μ : Mu) : Option (Int32 × Mu) :=
  ca2 (m_X4_isOfPeople sh v1 μ) fun r1 μ2 =>
  if r1 = 0 then
    some ((-9), μ2)
  else
    gd (iz sh 4 v0) <|
    bd (gR μ2 v0 8) fun a5 =>
    gd (ix sh 8 a5 v1) <|
    bd (gI μ2 a5 v1.toNatClampNeg) fun w7 =>
    some (w7, μ2)
set_option maxHeartbeats 4000000 in
set_option maxRecDepth 20000 in
theorem t_X4_leftOf {l : Launch} {G : Gl} {n : Nat} {sh : Sh} {x : Int32 × Mu} {v0 : Nat} {v1 : Int32} {μ : Mu} (h : m_X4_leftOf sh v0 v1 μ = some x) : Ct l G ⟨"StripsOfFour$Scene", "leftOf", "(I)I"⟩ prog_6_method_7_code 2 (some .int) { frames := 1, cells := 0, slots := 0, locals := 20 } n sh μ [vr v0, vi v1] (some (.int x.1)) n sh x.2 := by
  refine Ct.of (lc := [some (vr v0), some (vi v1)]) (by decide +kernel) (Nat.le_of_ble_eq_true rfl) rfl ?_
  show Sj l G (QI G n sh x) c_X4_leftOf n sh 0 0 μ 0 [some (vr v0), some (vi v1)] []
  unfold m_X4_leftOf at h
  refine s_iload_n (pc := 0) d_X4_leftOf_0 rfl rfl ?_
  obtain ⟨r1, μ2, er1, h⟩ := ca2_1 h
  refine s_callS (pc := 1) (as := [vi v1]) (st := []) (vo := [vi r1]) (t_X4_isOfPeople er1) d_X4_leftOf_1 y_X4_isOfPeople w_326 w_327 ⟨by decide, by decide⟩ ⟨Nat.le_of_ble_eq_true rfl, Nat.le_of_ble_eq_true rfl⟩ (Nat.le_of_ble_eq_true rfl) rfl rfl rfl ?_
  refine s_as (kc' := 0) (js' := 0) (pc' := 4) (st' := [vi r1]) ⟨rfl, rfl, rfl, rfl⟩ ?_
  refine s_if_eq (pc := 4) (tgt := 16) d_X4_leftOf_4 (by decide) (fun c3 => ?_) (fun c3 => ?_)
  · have h := it_t c3 h
    refine s_bipush (pc := 16) (v := (-9)) d_X4_leftOf_16 (by decide) ?_
    obtain rfl := Option.some.inj h
    exact s_iret (pc := 18) d_X4_leftOf_18 rfl
  · have h := it_f c3 h
    refine s_aload_n (pc := 7) d_X4_leftOf_7 rfl rfl ?_
    obtain ⟨g4, h⟩ := gd_1 h
    refine s_getR (pc := 8) (k := 8) cl_4 d_X4_leftOf_8 g4 (by decide) w_111 (rt_arr _) ?_
    obtain ⟨a5, ea5, h⟩ := bd_1 h
    refine s_topR ea5 ?_
    refine s_iload_n (pc := 11) d_X4_leftOf_11 rfl rfl ?_
    obtain ⟨g6, h⟩ := gd_1 h
    refine s_iald (pc := 12) d_X4_leftOf_12 g6 ?_
    obtain ⟨w7, ew7, h⟩ := bd_1 h
    refine s_topI ew7 ?_
    refine s_goto (pc := 13) (tgt := 18) d_X4_leftOf_13 (by decide) ?_
    obtain rfl := Option.some.inj h
    exact s_iret (pc := 18) d_X4_leftOf_18 rfl
/-! StripsOfFour$Scene.comesTooSoon -/
abbrev c_X4_comesTooSoon : Cf := (prog_6_method_9_code, 5, "StripsOfFour$Scene", "comesTooSoon", (some .boolean), { frames := 2, cells := 0, slots := 0, locals := 41 })
theorem d_X4_comesTooSoon_0 : decode prog_6_method_9_code 0 = .ok (.aload_n 0, 1) := by decide +kernel
theorem d_X4_comesTooSoon_1 : decode prog_6_method_9_code 1 = .ok (.iload_n 1, 1) := by decide +kernel
theorem d_X4_comesTooSoon_2 : decode prog_6_method_9_code 2 = .ok (.invokevirtual 69, 3) := by decide +kernel
theorem d_X4_comesTooSoon_5 : decode prog_6_method_9_code 5 = .ok (.istore 4, 2) := by decide +kernel
theorem d_X4_comesTooSoon_7 : decode prog_6_method_9_code 7 = .ok (.iload 4, 2) := by decide +kernel
theorem d_X4_comesTooSoon_9 : decode prog_6_method_9_code 9 = .ok (.bipush (-9), 2) := by decide +kernel
theorem d_X4_comesTooSoon_11 : decode prog_6_method_9_code 11 = .ok (.if_icmp .eq 27, 3) := by decide +kernel
theorem d_X4_comesTooSoon_14 : decode prog_6_method_9_code 14 = .ok (.iload 4, 2) := by decide +kernel
theorem d_X4_comesTooSoon_16 : decode prog_6_method_9_code 16 = .ok (.iload_n 2, 1) := by decide +kernel
theorem d_X4_comesTooSoon_17 : decode prog_6_method_9_code 17 = .ok (.if_icmp .eq 21, 3) := by decide +kernel
theorem d_X4_comesTooSoon_20 : decode prog_6_method_9_code 20 = .ok (.aload_n 0, 1) := by decide +kernel
theorem d_X4_comesTooSoon_21 : decode prog_6_method_9_code 21 = .ok (.getfield 15, 3) := by decide +kernel
theorem d_X4_comesTooSoon_24 : decode prog_6_method_9_code 24 = .ok (.aload_n 0, 1) := by decide +kernel
theorem d_X4_comesTooSoon_25 : decode prog_6_method_9_code 25 = .ok (.iload_n 1, 1) := by decide +kernel
theorem d_X4_comesTooSoon_26 : decode prog_6_method_9_code 26 = .ok (.invokevirtual 73, 3) := by decide +kernel
theorem d_X4_comesTooSoon_29 : decode prog_6_method_9_code 29 = .ok (.isub, 1) := by decide +kernel
theorem d_X4_comesTooSoon_30 : decode prog_6_method_9_code 30 = .ok (.iload_n 3, 1) := by decide +kernel
theorem d_X4_comesTooSoon_31 : decode prog_6_method_9_code 31 = .ok (.if_icmp .ge 7, 3) := by decide +kernel
theorem d_X4_comesTooSoon_34 : decode prog_6_method_9_code 34 = .ok (.iconst 1, 1) := by decide +kernel
theorem d_X4_comesTooSoon_35 : decode prog_6_method_9_code 35 = .ok (.goto 4, 3) := by decide +kernel
theorem d_X4_comesTooSoon_38 : decode prog_6_method_9_code 38 = .ok (.iconst 0, 1) := by decide +kernel
theorem d_X4_comesTooSoon_39 : decode prog_6_method_9_code 39 = .ok (.ireturn, 1) := by decide +kernel
def m_X4_comesTooSoon (sh : Sh) (v0 : Nat) (v1 : Int32) (v2 : Int32) (v3 : Int32) (μ : Mu) : Option (Int32 × Mu) :=
  gd (iz sh 4 v0) <|
  ca2 (m_X4_leftOf sh v0 v1 μ) fun r2 μ3 =>
  if r2 = (-9) then
    some (0, μ3)
  else
    if r2 = v2 then
      some (0, μ3)
    else
      ca2 (m_X4_leftAt sh v0 v1 μ3) fun r6 μ7 =>
      if v3 ≤ ((gI μ3 v0 1) - r6) then
        some (0, μ7)
      else
        some (1, μ7)
set_option maxHeartbeats 4000000 in
set_option maxRecDepth 20000 in
theorem t_X4_comesTooSoon {l : Launch} {G : Gl} {n : Nat} {sh : Sh} {x : Int32 × Mu} {v0 : Nat} {v1 : Int32} {v2 : Int32} {v3 : Int32} {μ : Mu} (h : m_X4_comesTooSoon sh v0 v1 v2 v3 μ = some x) : Ct l G ⟨"StripsOfFour$Scene", "comesTooSoon", "(III)Z"⟩ prog_6_method_9_code 5 (some .boolean) { frames := 2, cells := 0, slots := 0, locals := 41 } n sh μ [vr v0, vi v1, vi v2, vi v3] (some (.int x.1)) n sh x.2 := by
  refine Ct.of (lc := [some (vr v0), some (vi v1), some (vi v2), some (vi v3), none]) (by decide +kernel) (Nat.le_of_ble_eq_true rfl) rfl ?_
  show Sj l G (QI G n sh x) c_X4_comesTooSoon n sh 0 0 μ 0 [some (vr v0), some (vi v1), some (vi v2), some (vi v3), none] []
  unfold m_X4_comesTooSoon at h
  refine s_aload_n (pc := 0) d_X4_comesTooSoon_0 rfl rfl ?_
  refine s_iload_n (pc := 1) d_X4_comesTooSoon_1 rfl rfl ?_
  obtain ⟨g1, h⟩ := gd_1 h
  obtain ⟨r2, μ3, er2, h⟩ := ca2_1 h
  refine s_callV (pc := 2) (as := [vi v1]) (st := []) (vo := [vi r2]) (t_X4_leftOf er2) cl_4 g1 d_X4_comesTooSoon_2 y_X4_leftOf w_370 w_330 w_331 ⟨by decide, by decide⟩ ⟨Nat.le_of_ble_eq_true rfl, Nat.le_of_ble_eq_true rfl⟩ (Nat.le_of_ble_eq_true rfl) rfl rfl rfl ?_
  refine s_as (kc' := 0) (js' := 0) (pc' := 5) (st' := [vi r2]) ⟨rfl, rfl, rfl, rfl⟩ ?_
  refine s_istore (pc := 5) (lc' := [some (vr v0), some (vi v1), some (vi v2), some (vi v3), some (vi r2)]) d_X4_comesTooSoon_5 (by decide) rfl ?_
  refine s_iload (pc := 7) d_X4_comesTooSoon_7 rfl ?_
  refine s_bipush (pc := 9) (v := (-9)) d_X4_comesTooSoon_9 (by decide) ?_
  refine s_icmp_eq (pc := 11) (tgt := 38) d_X4_comesTooSoon_11 (by decide) (fun c4 => ?_) (fun c4 => ?_)
  · have h := it_t c4 h
    refine s_iconst (pc := 38) (v := 0) d_X4_comesTooSoon_38 (by decide) ?_
    obtain rfl := Option.some.inj h
    exact s_zret0 (pc := 39) rfl d_X4_comesTooSoon_39 rfl
  · have h := it_f c4 h
    refine s_iload (pc := 14) d_X4_comesTooSoon_14 rfl ?_
    refine s_iload_n (pc := 16) d_X4_comesTooSoon_16 rfl rfl ?_
    refine s_icmp_eq (pc := 17) (tgt := 38) d_X4_comesTooSoon_17 (by decide) (fun c5 => ?_) (fun c5 => ?_)
    · have h := it_t c5 h
      refine s_iconst (pc := 38) (v := 0) d_X4_comesTooSoon_38 (by decide) ?_
      obtain rfl := Option.some.inj h
      exact s_zret0 (pc := 39) rfl d_X4_comesTooSoon_39 rfl
    · have h := it_f c5 h
      refine s_aload_n (pc := 20) d_X4_comesTooSoon_20 rfl rfl ?_
      refine s_getI (pc := 21) (k := 1) cl_4 d_X4_comesTooSoon_21 g1 (by decide) w_96 rfl ?_
      refine s_aload_n (pc := 24) d_X4_comesTooSoon_24 rfl rfl ?_
      refine s_iload_n (pc := 25) d_X4_comesTooSoon_25 rfl rfl ?_
      obtain ⟨r6, μ7, er6, h⟩ := ca2_1 h
      refine s_callV (pc := 26) (as := [vi v1]) (st := [vi (gI μ3 v0 1)]) (vo := [vi r6]) (t_X4_leftAt er6) cl_4 g1 d_X4_comesTooSoon_26 y_X4_leftAt w_371 w_334 w_335 ⟨by decide, by decide⟩ ⟨Nat.le_of_ble_eq_true rfl, Nat.le_of_ble_eq_true rfl⟩ (Nat.le_of_ble_eq_true rfl) rfl rfl rfl ?_
      refine s_as (kc' := 0) (js' := 0) (pc' := 29) (st' := [vi r6, vi (gI μ3 v0 1)]) ⟨rfl, rfl, rfl, rfl⟩ ?_
      refine s_isub (pc := 29) d_X4_comesTooSoon_29 ?_
      refine s_iload_n (pc := 30) d_X4_comesTooSoon_30 rfl rfl ?_
      refine s_icmp_ge (pc := 31) (tgt := 38) d_X4_comesTooSoon_31 (by decide) (fun c8 => ?_) (fun c8 => ?_)
      · have h := it_t c8 h
        refine s_iconst (pc := 38) (v := 0) d_X4_comesTooSoon_38 (by decide) ?_
        obtain rfl := Option.some.inj h
        exact s_zret0 (pc := 39) rfl d_X4_comesTooSoon_39 rfl
      · have h := it_f c8 h
        refine s_iconst (pc := 34) (v := 1) d_X4_comesTooSoon_34 (by decide) ?_
        refine s_goto (pc := 35) (tgt := 39) d_X4_comesTooSoon_35 (by decide) ?_
        obtain rfl := Option.some.inj h
        exact s_zret0 (pc := 39) rfl d_X4_comesTooSoon_39 rfl
/-! StripsOfFour$Scene.placeOf -/
abbrev c_X4_placeOf : Cf := (prog_6_method_6_code, 2, "StripsOfFour$Scene", "placeOf", (some .int), { frames := 1, cells := 0, slots := 0, locals := 20 })
theorem d_X4_placeOf_0 : decode prog_6_method_6_code 0 = .ok (.iload_n 1, 1) := by decide +kernel
theorem d_X4_placeOf_1 : decode prog_6_method_6_code 1 = .ok (.invokestatic 65, 3) := by decide +kernel
theorem d_X4_placeOf_4 : decode prog_6_method_6_code 4 = .ok (.ifCond .eq 12, 3) := by decide +kernel
theorem d_X4_placeOf_7 : decode prog_6_method_6_code 7 = .ok (.aload_n 0, 1) := by decide +kernel
theorem d_X4_placeOf_8 : decode prog_6_method_6_code 8 = .ok (.getfield 37, 3) := by decide +kernel
theorem d_X4_placeOf_11 : decode prog_6_method_6_code 11 = .ok (.iload_n 1, 1) := by decide +kernel
theorem d_X4_placeOf_12 : decode prog_6_method_6_code 12 = .ok (.iaload, 1) := by decide +kernel
theorem d_X4_placeOf_13 : decode prog_6_method_6_code 13 = .ok (.goto 5, 3) := by decide +kernel
theorem d_X4_placeOf_16 : decode prog_6_method_6_code 16 = .ok (.bipush (-9), 2) := by decide +kernel
theorem d_X4_placeOf_18 : decode prog_6_method_6_code 18 = .ok (.ireturn, 1) := by decide +kernel
def m_X4_placeOf (sh : Sh) (v0 : Nat) (v1 : Int32) (μ : Mu) : Option (Int32 × Mu) :=
  ca2 (m_X4_isOfPeople sh v1 μ) fun r1 μ2 =>
  if r1 = 0 then
    some ((-9), μ2)
  else
    gd (iz sh 4 v0) <|
    bd (gR μ2 v0 7) fun a5 =>
    gd (ix sh 8 a5 v1) <|
    bd (gI μ2 a5 v1.toNatClampNeg) fun w7 =>
    some (w7, μ2)
set_option maxHeartbeats 4000000 in
set_option maxRecDepth 20000 in
theorem t_X4_placeOf {l : Launch} {G : Gl} {n : Nat} {sh : Sh} {x : Int32 × Mu} {v0 : Nat} {v1 : Int32} {μ : Mu} (h : m_X4_placeOf sh v0 v1 μ = some x) : Ct l G ⟨"StripsOfFour$Scene", "placeOf", "(I)I"⟩ prog_6_method_6_code 2 (some .int) { frames := 1, cells := 0, slots := 0, locals := 20 } n sh μ [vr v0, vi v1] (some (.int x.1)) n sh x.2 := by
  refine Ct.of (lc := [some (vr v0), some (vi v1)]) (by decide +kernel) (Nat.le_of_ble_eq_true rfl) rfl ?_
  show Sj l G (QI G n sh x) c_X4_placeOf n sh 0 0 μ 0 [some (vr v0), some (vi v1)] []
  unfold m_X4_placeOf at h
  refine s_iload_n (pc := 0) d_X4_placeOf_0 rfl rfl ?_
  obtain ⟨r1, μ2, er1, h⟩ := ca2_1 h
  refine s_callS (pc := 1) (as := [vi v1]) (st := []) (vo := [vi r1]) (t_X4_isOfPeople er1) d_X4_placeOf_1 y_X4_isOfPeople w_326 w_327 ⟨by decide, by decide⟩ ⟨Nat.le_of_ble_eq_true rfl, Nat.le_of_ble_eq_true rfl⟩ (Nat.le_of_ble_eq_true rfl) rfl rfl rfl ?_
  refine s_as (kc' := 0) (js' := 0) (pc' := 4) (st' := [vi r1]) ⟨rfl, rfl, rfl, rfl⟩ ?_
  refine s_if_eq (pc := 4) (tgt := 16) d_X4_placeOf_4 (by decide) (fun c3 => ?_) (fun c3 => ?_)
  · have h := it_t c3 h
    refine s_bipush (pc := 16) (v := (-9)) d_X4_placeOf_16 (by decide) ?_
    obtain rfl := Option.some.inj h
    exact s_iret (pc := 18) d_X4_placeOf_18 rfl
  · have h := it_f c3 h
    refine s_aload_n (pc := 7) d_X4_placeOf_7 rfl rfl ?_
    obtain ⟨g4, h⟩ := gd_1 h
    refine s_getR (pc := 8) (k := 7) cl_4 d_X4_placeOf_8 g4 (by decide) w_110 (rt_arr _) ?_
    obtain ⟨a5, ea5, h⟩ := bd_1 h
    refine s_topR ea5 ?_
    refine s_iload_n (pc := 11) d_X4_placeOf_11 rfl rfl ?_
    obtain ⟨g6, h⟩ := gd_1 h
    refine s_iald (pc := 12) d_X4_placeOf_12 g6 ?_
    obtain ⟨w7, ew7, h⟩ := bd_1 h
    refine s_topI ew7 ?_
    refine s_goto (pc := 13) (tgt := 18) d_X4_placeOf_13 (by decide) ?_
    obtain rfl := Option.some.inj h
    exact s_iret (pc := 18) d_X4_placeOf_18 rfl
/-! StripsOfFour$Scene.stepIn -/
abbrev c_X4_stepIn : Cf := (prog_6_method_13_code, 3, "StripsOfFour$Scene", "stepIn", none, { frames := 1, cells := 0, slots := 0, locals := 20 })
theorem d_X4_stepIn_0 : decode prog_6_method_13_code 0 = .ok (.iload_n 1, 1) := by decide +kernel
theorem d_X4_stepIn_1 : decode prog_6_method_13_code 1 = .ok (.invokestatic 65, 3) := by decide +kernel
theorem d_X4_stepIn_4 : decode prog_6_method_13_code 4 = .ok (.ifCond .eq 10, 3) := by decide +kernel
theorem d_X4_stepIn_7 : decode prog_6_method_13_code 7 = .ok (.aload_n 0, 1) := by decide +kernel
theorem d_X4_stepIn_8 : decode prog_6_method_13_code 8 = .ok (.getfield 37, 3) := by decide +kernel
theorem d_X4_stepIn_11 : decode prog_6_method_13_code 11 = .ok (.iload_n 1, 1) := by decide +kernel
theorem d_X4_stepIn_12 : decode prog_6_method_13_code 12 = .ok (.iload_n 2, 1) := by decide +kernel
theorem d_X4_stepIn_13 : decode prog_6_method_13_code 13 = .ok (.iastore, 1) := by decide +kernel
theorem d_X4_stepIn_14 : decode prog_6_method_13_code 14 = .ok (.return_, 1) := by decide +kernel
def m_X4_stepIn (sh : Sh) (v0 : Nat) (v1 : Int32) (v2 : Int32) (μ : Mu) : Option Mu :=
  ca2 (m_X4_isOfPeople sh v1 μ) fun r1 μ2 =>
  if r1 = 0 then
    some μ2
  else
    gd (iz sh 4 v0) <|
    bd (gR μ2 v0 7) fun a5 =>
    gd (ix sh 8 a5 v1) <|
    bd (sI μ2 a5 v1.toNatClampNeg v2) fun μ7 =>
    some μ7
set_option maxHeartbeats 4000000 in
set_option maxRecDepth 20000 in
theorem t_X4_stepIn {l : Launch} {G : Gl} {n : Nat} {sh : Sh} {x : Mu} {v0 : Nat} {v1 : Int32} {v2 : Int32} {μ : Mu} (h : m_X4_stepIn sh v0 v1 v2 μ = some x) : Ct l G ⟨"StripsOfFour$Scene", "stepIn", "(II)V"⟩ prog_6_method_13_code 3 none { frames := 1, cells := 0, slots := 0, locals := 20 } n sh μ [vr v0, vi v1, vi v2] none n sh x := by
  refine Ct.of (lc := [some (vr v0), some (vi v1), some (vi v2)]) (by decide +kernel) (Nat.le_of_ble_eq_true rfl) rfl ?_
  show Sj l G (QV G n sh x) c_X4_stepIn n sh 0 0 μ 0 [some (vr v0), some (vi v1), some (vi v2)] []
  unfold m_X4_stepIn at h
  refine s_iload_n (pc := 0) d_X4_stepIn_0 rfl rfl ?_
  obtain ⟨r1, μ2, er1, h⟩ := ca2_1 h
  refine s_callS (pc := 1) (as := [vi v1]) (st := []) (vo := [vi r1]) (t_X4_isOfPeople er1) d_X4_stepIn_1 y_X4_isOfPeople w_326 w_327 ⟨by decide, by decide⟩ ⟨Nat.le_of_ble_eq_true rfl, Nat.le_of_ble_eq_true rfl⟩ (Nat.le_of_ble_eq_true rfl) rfl rfl rfl ?_
  refine s_as (kc' := 0) (js' := 0) (pc' := 4) (st' := [vi r1]) ⟨rfl, rfl, rfl, rfl⟩ ?_
  refine s_if_eq (pc := 4) (tgt := 14) d_X4_stepIn_4 (by decide) (fun c3 => ?_) (fun c3 => ?_)
  · have h := it_t c3 h
    obtain rfl := Option.some.inj h
    exact s_vret (pc := 14) d_X4_stepIn_14 rfl
  · have h := it_f c3 h
    refine s_aload_n (pc := 7) d_X4_stepIn_7 rfl rfl ?_
    obtain ⟨g4, h⟩ := gd_1 h
    refine s_getR (pc := 8) (k := 7) cl_4 d_X4_stepIn_8 g4 (by decide) w_110 (rt_arr _) ?_
    obtain ⟨a5, ea5, h⟩ := bd_1 h
    refine s_topR ea5 ?_
    refine s_iload_n (pc := 11) d_X4_stepIn_11 rfl rfl ?_
    refine s_iload_n (pc := 12) d_X4_stepIn_12 rfl rfl ?_
    obtain ⟨g6, h⟩ := gd_1 h
    refine s_iast (pc := 13) d_X4_stepIn_13 g6 ?_
    obtain ⟨μ7, eμ7, h⟩ := bd_1 h
    refine s_mu eμ7 ?_
    obtain rfl := Option.some.inj h
    exact s_vret (pc := 14) d_X4_stepIn_14 rfl
/-! StripsOfFour$Scene.looksWith -/
abbrev c_X4_looksWith : Cf := (prog_6_method_21_code, 6, "StripsOfFour$Scene", "looksWith", (some .int), { frames := 1, cells := 0, slots := 0, locals := 22 })
theorem d_X4_looksWith_0 : decode prog_6_method_21_code 0 = .ok (.iconst 0, 1) := by decide +kernel
theorem d_X4_looksWith_1 : decode prog_6_method_21_code 1 = .ok (.istore_n 3, 1) := by decide +kernel
theorem d_X4_looksWith_2 : decode prog_6_method_21_code 2 = .ok (.iconst 0, 1) := by decide +kernel
theorem d_X4_looksWith_3 : decode prog_6_method_21_code 3 = .ok (.istore 4, 2) := by decide +kernel
theorem d_X4_looksWith_5 : decode prog_6_method_21_code 5 = .ok (.iload 4, 2) := by decide +kernel
theorem d_X4_looksWith_7 : decode prog_6_method_21_code 7 = .ok (.aload_n 0, 1) := by decide +kernel
theorem d_X4_looksWith_8 : decode prog_6_method_21_code 8 = .ok (.getfield 25, 3) := by decide +kernel
theorem d_X4_looksWith_11 : decode prog_6_method_21_code 11 = .ok (.if_icmp .ge 54, 3) := by decide +kernel
theorem d_X4_looksWith_14 : decode prog_6_method_21_code 14 = .ok (.iload 4, 2) := by decide +kernel
theorem d_X4_looksWith_16 : decode prog_6_method_21_code 16 = .ok (.bipush 8, 2) := by decide +kernel
theorem d_X4_looksWith_18 : decode prog_6_method_21_code 18 = .ok (.if_icmp .ge 47, 3) := by decide +kernel
theorem d_X4_looksWith_21 : decode prog_6_method_21_code 21 = .ok (.iconst 0, 1) := by decide +kernel
theorem d_X4_looksWith_22 : decode prog_6_method_21_code 22 = .ok (.istore 5, 2) := by decide +kernel
theorem d_X4_looksWith_24 : decode prog_6_method_21_code 24 = .ok (.iload 5, 2) := by decide +kernel
theorem d_X4_looksWith_26 : decode prog_6_method_21_code 26 = .ok (.iconst 4, 1) := by decide +kernel
theorem d_X4_looksWith_27 : decode prog_6_method_21_code 27 = .ok (.if_icmp .ge 32, 3) := by decide +kernel
theorem d_X4_looksWith_30 : decode prog_6_method_21_code 30 = .ok (.aload_n 0, 1) := by decide +kernel
theorem d_X4_looksWith_31 : decode prog_6_method_21_code 31 = .ok (.getfield 30, 3) := by decide +kernel
theorem d_X4_looksWith_34 : decode prog_6_method_21_code 34 = .ok (.iload 4, 2) := by decide +kernel
theorem d_X4_looksWith_36 : decode prog_6_method_21_code 36 = .ok (.aaload, 1) := by decide +kernel
theorem d_X4_looksWith_37 : decode prog_6_method_21_code 37 = .ok (.iload 5, 2) := by decide +kernel
theorem d_X4_looksWith_39 : decode prog_6_method_21_code 39 = .ok (.iload_n 2, 1) := by decide +kernel
theorem d_X4_looksWith_40 : decode prog_6_method_21_code 40 = .ok (.invokevirtual 123, 3) := by decide +kernel
theorem d_X4_looksWith_43 : decode prog_6_method_21_code 43 = .ok (.iload_n 1, 1) := by decide +kernel
theorem d_X4_looksWith_44 : decode prog_6_method_21_code 44 = .ok (.invokestatic 91, 3) := by decide +kernel
theorem d_X4_looksWith_47 : decode prog_6_method_21_code 47 = .ok (.ifCond .eq 6, 3) := by decide +kernel
theorem d_X4_looksWith_50 : decode prog_6_method_21_code 50 = .ok (.iinc 3 1, 3) := by decide +kernel
theorem d_X4_looksWith_53 : decode prog_6_method_21_code 53 = .ok (.iinc 5 1, 3) := by decide +kernel
theorem d_X4_looksWith_56 : decode prog_6_method_21_code 56 = .ok (.goto (-32), 3) := by decide +kernel
theorem d_X4_looksWith_59 : decode prog_6_method_21_code 59 = .ok (.iinc 4 1, 3) := by decide +kernel
theorem d_X4_looksWith_62 : decode prog_6_method_21_code 62 = .ok (.goto (-57), 3) := by decide +kernel
theorem d_X4_looksWith_65 : decode prog_6_method_21_code 65 = .ok (.iload_n 3, 1) := by decide +kernel
theorem d_X4_looksWith_66 : decode prog_6_method_21_code 66 = .ok (.ireturn, 1) := by decide +kernel
def m_X4_looksWith_b53 (sh : Sh) (k5 : Int32 → Int32 → Mu → Option (Int32 × Mu)) (k24 : Int32 → Int32 → Mu → Option (Int32 × Mu)) (v0 : Nat) (v1 : Int32) (v2 : Int32) (v3 : Int32) (v4 : Int32) (v5 : Int32) (μ : Mu) : Option (Int32 × Mu) :=
  bd (v5 + 1) fun w17 =>
  k24 v3 w17 μ
def m_X4_looksWith_b59 (sh : Sh) (k5 : Int32 → Int32 → Mu → Option (Int32 × Mu)) (v0 : Nat) (v1 : Int32) (v2 : Int32) (v3 : Int32) (v4 : Int32) (μ : Mu) : Option (Int32 × Mu) :=
  bd (v4 + 1) fun w16 =>
  k5 v3 w16 μ
def m_X4_looksWith_b24 (sh : Sh) (k5 : Int32 → Int32 → Mu → Option (Int32 × Mu)) (k24 : Int32 → Int32 → Mu → Option (Int32 × Mu)) (v0 : Nat) (v1 : Int32) (v2 : Int32) (v3 : Int32) (v4 : Int32) (v5 : Int32) (μ : Mu) : Option (Int32 × Mu) :=
  if 4 ≤ v5 then
    m_X4_looksWith_b59 sh k5 v0 v1 v2 v3 v4 μ
  else
    gd (iz sh 4 v0) <|
    bd (gR μ v0 5) fun a6 =>
    gd (ix sh 11 a6 v4) <|
    bd (gR μ a6 v4.toNatClampNeg) fun a8 =>
    gd (iz sh 5 a8) <|
    ca2 (m_X5_cell sh a8 v5 v2 μ) fun r10 μ11 =>
    ca2 (m_X6_has sh r10 v1 μ11) fun r12 μ13 =>
    if r12 = 0 then
      m_X4_looksWith_b53 sh k5 k24 v0 v1 v2 v3 v4 v5 μ13
    else
      bd (v3 + 1) fun w15 =>
      m_X4_looksWith_b53 sh k5 k24 v0 v1 v2 w15 v4 v5 μ13
def m_X4_looksWith_h24 (sh : Sh) (k5 : Int32 → Int32 → Mu → Option (Int32 × Mu)) (v0 : Nat) (v1 : Int32) (v2 : Int32) (v4 : Int32) : Nat → Int32 → Int32 → Mu → Option (Int32 × Mu)
  | 0 => fun _ _ _ => none
  | f + 1 => fun v3 v5 μ => m_X4_looksWith_b24 sh k5 (m_X4_looksWith_h24 sh k5 v0 v1 v2 v4 f) v0 v1 v2 v3 v4 v5 μ
def m_X4_looksWith_b5 (sh : Sh) (k5 : Int32 → Int32 → Mu → Option (Int32 × Mu)) (v0 : Nat) (v1 : Int32) (v2 : Int32) (v3 : Int32) (v4 : Int32) (μ : Mu) : Option (Int32 × Mu) :=
  gd (iz sh 4 v0) <|
  if (gI μ v0 4) ≤ v4 then
    some (v3, μ)
  else
    if 8 ≤ v4 then
      some (v3, μ)
    else
      m_X4_looksWith_h24 sh k5 v0 v1 v2 v4 FU v3 0 μ
def m_X4_looksWith_h5 (sh : Sh) (v0 : Nat) (v1 : Int32) (v2 : Int32) : Nat → Int32 → Int32 → Mu → Option (Int32 × Mu)
  | 0 => fun _ _ _ => none
  | f + 1 => fun v3 v4 μ => m_X4_looksWith_b5 sh (m_X4_looksWith_h5 sh v0 v1 v2 f) v0 v1 v2 v3 v4 μ
def m_X4_looksWith (sh : Sh) (v0 : Nat) (v1 : Int32) (v2 : Int32) (μ : Mu) : Option (Int32 × Mu) :=
  m_X4_looksWith_h5 sh v0 v1 v2 FU 0 0 μ
set_option maxHeartbeats 4000000 in
set_option maxRecDepth 20000 in
theorem t_X4_looksWith_b53 {l : Launch} {G : Gl} {n : Nat} {sh : Sh} {x : Int32 × Mu} {k5 : Int32 → Int32 → Mu → Option (Int32 × Mu)} {k24 : Int32 → Int32 → Mu → Option (Int32 × Mu)} {v0 : Nat} {v1 : Int32} {v2 : Int32} {v3 : Int32} {v4 : Int32} {v5 : Int32} {μ : Mu} (hk5 : ∀ (v3 : Int32) (v4 : Int32) (μ : Mu), k5 v3 v4 μ = some x → Sj l G (QI G n sh x) c_X4_looksWith n sh 0 0 μ 5 [some (vr v0), some (vi v1), some (vi v2), some (vi v3), some (vi v4), none] []) (hk24 : ∀ (v3 : Int32) (v5 : Int32) (μ : Mu), k24 v3 v5 μ = some x → Sj l G (QI G n sh x) c_X4_looksWith n sh 0 0 μ 24 [some (vr v0), some (vi v1), some (vi v2), some (vi v3), some (vi v4), some (vi v5)] []) (h : m_X4_looksWith_b53 sh k5 k24 v0 v1 v2 v3 v4 v5 μ = some x) : Sj l G (QI G n sh x) c_X4_looksWith n sh 0 0 μ 53 [some (vr v0), some (vi v1), some (vi v2), some (vi v3), some (vi v4), some (vi v5)] [] := by
  unfold m_X4_looksWith_b53 at h
  obtain ⟨w17, ew17, h⟩ := bd_1 h
  refine s_iinc (pc := 53) (v := w17) (lc' := [some (vr v0), some (vi v1), some (vi v2), some (vi v3), some (vi v4), some (vi w17)]) d_X4_looksWith_53 rfl (by rw [ew17]; rfl) (by decide) rfl ?_
  refine s_goto (pc := 56) (tgt := 24) d_X4_looksWith_56 (by decide) ?_
  exact hk24 _ _ _ h
set_option maxHeartbeats 4000000 in
set_option maxRecDepth 20000 in
theorem t_X4_looksWith_b59 {l : Launch} {G : Gl} {n : Nat} {sh : Sh} {x : Int32 × Mu} {k5 : Int32 → Int32 → Mu → Option (Int32 × Mu)} {v0 : Nat} {v1 : Int32} {v2 : Int32} {v3 : Int32} {v4 : Int32} {μ : Mu} (hk5 : ∀ (v3 : Int32) (v4 : Int32) (μ : Mu), k5 v3 v4 μ = some x → Sj l G (QI G n sh x) c_X4_looksWith n sh 0 0 μ 5 [some (vr v0), some (vi v1), some (vi v2), some (vi v3), some (vi v4), none] []) (h : m_X4_looksWith_b59 sh k5 v0 v1 v2 v3 v4 μ = some x) : Sj l G (QI G n sh x) c_X4_looksWith n sh 0 0 μ 59 [some (vr v0), some (vi v1), some (vi v2), some (vi v3), some (vi v4), none] [] := by
  unfold m_X4_looksWith_b59 at h
  obtain ⟨w16, ew16, h⟩ := bd_1 h
  refine s_iinc (pc := 59) (v := w16) (lc' := [some (vr v0), some (vi v1), some (vi v2), some (vi v3), some (vi w16), none]) d_X4_looksWith_59 rfl (by rw [ew16]; rfl) (by decide) rfl ?_
  refine s_goto (pc := 62) (tgt := 5) d_X4_looksWith_62 (by decide) ?_
  exact hk5 _ _ _ h
set_option maxHeartbeats 4000000 in
set_option maxRecDepth 20000 in
theorem t_X4_looksWith_b24 {l : Launch} {G : Gl} {n : Nat} {sh : Sh} {x : Int32 × Mu} {k5 : Int32 → Int32 → Mu → Option (Int32 × Mu)} {k24 : Int32 → Int32 → Mu → Option (Int32 × Mu)} {v0 : Nat} {v1 : Int32} {v2 : Int32} {v3 : Int32} {v4 : Int32} {v5 : Int32} {μ : Mu} (hk5 : ∀ (v3 : Int32) (v4 : Int32) (μ : Mu), k5 v3 v4 μ = some x → Sj l G (QI G n sh x) c_X4_looksWith n sh 0 0 μ 5 [some (vr v0), some (vi v1), some (vi v2), some (vi v3), some (vi v4), none] []) (hk24 : ∀ (v3 : Int32) (v5 : Int32) (μ : Mu), k24 v3 v5 μ = some x → Sj l G (QI G n sh x) c_X4_looksWith n sh 0 0 μ 24 [some (vr v0), some (vi v1), some (vi v2), some (vi v3), some (vi v4), some (vi v5)] []) (h : m_X4_looksWith_b24 sh k5 k24 v0 v1 v2 v3 v4 v5 μ = some x) : Sj l G (QI G n sh x) c_X4_looksWith n sh 0 0 μ 24 [some (vr v0), some (vi v1), some (vi v2), some (vi v3), some (vi v4), some (vi v5)] [] := by
  unfold m_X4_looksWith_b24 at h
  refine s_iload (pc := 24) d_X4_looksWith_24 rfl ?_
  refine s_iconst (pc := 26) (v := 4) d_X4_looksWith_26 (by decide) ?_
  refine s_icmp_ge (pc := 27) (tgt := 59) d_X4_looksWith_27 (by decide) (fun c4 => ?_) (fun c4 => ?_)
  · have h := it_t c4 h
    refine s_mask [true, true, true, true, true, false] rfl ?_
    exact t_X4_looksWith_b59 hk5 h
  · have h := it_f c4 h
    refine s_aload_n (pc := 30) d_X4_looksWith_30 rfl rfl ?_
    obtain ⟨g5, h⟩ := gd_1 h
    refine s_getR (pc := 31) (k := 5) cl_4 d_X4_looksWith_31 g5 (by decide) w_105 (rt_arr _) ?_
    obtain ⟨a6, ea6, h⟩ := bd_1 h
    refine s_topR ea6 ?_
    refine s_iload (pc := 34) d_X4_looksWith_34 rfl ?_
    obtain ⟨g7, h⟩ := gd_1 h
    refine s_aald11 (pc := 36) d_X4_looksWith_36 g7 ?_
    obtain ⟨a8, ea8, h⟩ := bd_1 h
    refine s_topR ea8 ?_
    refine s_iload (pc := 37) d_X4_looksWith_37 rfl ?_
    refine s_iload_n (pc := 39) d_X4_looksWith_39 rfl rfl ?_
    obtain ⟨g9, h⟩ := gd_1 h
    obtain ⟨r10, μ11, er10, h⟩ := ca2_1 h
    refine s_callV (pc := 40) (as := [vi v5, vi v2]) (st := []) (vo := [vi r10]) (t_X5_cell er10) cl_5 g9 d_X4_looksWith_40 y_X5_cell w_574 w_350 w_351 ⟨by decide, by decide⟩ ⟨Nat.le_of_ble_eq_true rfl, Nat.le_of_ble_eq_true rfl⟩ (Nat.le_of_ble_eq_true rfl) rfl rfl rfl ?_
    refine s_as (kc' := 0) (js' := 0) (pc' := 43) (st' := [vi r10]) ⟨rfl, rfl, rfl, rfl⟩ ?_
    refine s_iload_n (pc := 43) d_X4_looksWith_43 rfl rfl ?_
    obtain ⟨r12, μ13, er12, h⟩ := ca2_1 h
    refine s_callSN (pc := 44) (as := [vi r10, vi v1]) (st := []) (vo := [vi r12]) (t_X6_has er12) d_X4_looksWith_44 y_X6_has w_n425 w_426 ⟨by decide, by decide⟩ ⟨Nat.le_of_ble_eq_true rfl, Nat.le_of_ble_eq_true rfl⟩ (Nat.le_of_ble_eq_true rfl) rfl rfl rfl ?_
    refine s_as (kc' := 0) (js' := 0) (pc' := 47) (st' := [vi r12]) ⟨rfl, rfl, rfl, rfl⟩ ?_
    refine s_if_eq (pc := 47) (tgt := 53) d_X4_looksWith_47 (by decide) (fun c14 => ?_) (fun c14 => ?_)
    · have h := it_t c14 h
      exact t_X4_looksWith_b53 hk5 hk24 h
    · have h := it_f c14 h
      obtain ⟨w15, ew15, h⟩ := bd_1 h
      refine s_iinc (pc := 50) (v := w15) (lc' := [some (vr v0), some (vi v1), some (vi v2), some (vi w15), some (vi v4), some (vi v5)]) d_X4_looksWith_50 rfl (by rw [ew15]; rfl) (by decide) rfl ?_
      exact t_X4_looksWith_b53 hk5 hk24 h
set_option maxHeartbeats 4000000 in
set_option maxRecDepth 20000 in
theorem t_X4_looksWith_h24 {l : Launch} {G : Gl} {n : Nat} {sh : Sh} {x : Int32 × Mu} {k5 : Int32 → Int32 → Mu → Option (Int32 × Mu)} {v0 : Nat} {v1 : Int32} {v2 : Int32} {v4 : Int32} (hk5 : ∀ (v3 : Int32) (v4 : Int32) (μ : Mu), k5 v3 v4 μ = some x → Sj l G (QI G n sh x) c_X4_looksWith n sh 0 0 μ 5 [some (vr v0), some (vi v1), some (vi v2), some (vi v3), some (vi v4), none] []) : ∀ (f : Nat) (v3 : Int32) (v5 : Int32) (μ : Mu), m_X4_looksWith_h24 sh k5 v0 v1 v2 v4 f v3 v5 μ = some x → Sj l G (QI G n sh x) c_X4_looksWith n sh 0 0 μ 24 [some (vr v0), some (vi v1), some (vi v2), some (vi v3), some (vi v4), some (vi v5)] [] := by
  intro f
  induction f with
  | zero =>
    intro v3 v5 μ h
    cases h
  | succ f ih =>
    intro v3 v5 μ h
    exact t_X4_looksWith_b24 hk5 ih h
set_option maxHeartbeats 4000000 in
set_option maxRecDepth 20000 in
theorem t_X4_looksWith_b5 {l : Launch} {G : Gl} {n : Nat} {sh : Sh} {x : Int32 × Mu} {k5 : Int32 → Int32 → Mu → Option (Int32 × Mu)} {v0 : Nat} {v1 : Int32} {v2 : Int32} {v3 : Int32} {v4 : Int32} {μ : Mu} (hk5 : ∀ (v3 : Int32) (v4 : Int32) (μ : Mu), k5 v3 v4 μ = some x → Sj l G (QI G n sh x) c_X4_looksWith n sh 0 0 μ 5 [some (vr v0), some (vi v1), some (vi v2), some (vi v3), some (vi v4), none] []) (h : m_X4_looksWith_b5 sh k5 v0 v1 v2 v3 v4 μ = some x) : Sj l G (QI G n sh x) c_X4_looksWith n sh 0 0 μ 5 [some (vr v0), some (vi v1), some (vi v2), some (vi v3), some (vi v4), none] [] := by
  unfold m_X4_looksWith_b5 at h
  refine s_iload (pc := 5) d_X4_looksWith_5 rfl ?_
  refine s_aload_n (pc := 7) d_X4_looksWith_7 rfl rfl ?_
  obtain ⟨g1, h⟩ := gd_1 h
  refine s_getI (pc := 8) (k := 4) cl_4 d_X4_looksWith_8 g1 (by decide) w_102 rfl ?_
  refine s_icmp_ge (pc := 11) (tgt := 65) d_X4_looksWith_11 (by decide) (fun c2 => ?_) (fun c2 => ?_)
  · have h := it_t c2 h
    refine s_iload_n (pc := 65) d_X4_looksWith_65 rfl rfl ?_
    obtain rfl := Option.some.inj h
    exact s_iret (pc := 66) d_X4_looksWith_66 rfl
  · have h := it_f c2 h
    refine s_iload (pc := 14) d_X4_looksWith_14 rfl ?_
    refine s_bipush (pc := 16) (v := 8) d_X4_looksWith_16 (by decide) ?_
    refine s_icmp_ge (pc := 18) (tgt := 65) d_X4_looksWith_18 (by decide) (fun c3 => ?_) (fun c3 => ?_)
    · have h := it_t c3 h
      refine s_iload_n (pc := 65) d_X4_looksWith_65 rfl rfl ?_
      obtain rfl := Option.some.inj h
      exact s_iret (pc := 66) d_X4_looksWith_66 rfl
    · have h := it_f c3 h
      refine s_iconst (pc := 21) (v := 0) d_X4_looksWith_21 (by decide) ?_
      refine s_istore (pc := 22) (lc' := [some (vr v0), some (vi v1), some (vi v2), some (vi v3), some (vi v4), some (vi 0)]) d_X4_looksWith_22 (by decide) rfl ?_
      exact t_X4_looksWith_h24 hk5 FU _ _ _ h
set_option maxHeartbeats 4000000 in
set_option maxRecDepth 20000 in
theorem t_X4_looksWith_h5 {l : Launch} {G : Gl} {n : Nat} {sh : Sh} {x : Int32 × Mu} {v0 : Nat} {v1 : Int32} {v2 : Int32} : ∀ (f : Nat) (v3 : Int32) (v4 : Int32) (μ : Mu), m_X4_looksWith_h5 sh v0 v1 v2 f v3 v4 μ = some x → Sj l G (QI G n sh x) c_X4_looksWith n sh 0 0 μ 5 [some (vr v0), some (vi v1), some (vi v2), some (vi v3), some (vi v4), none] [] := by
  intro f
  induction f with
  | zero =>
    intro v3 v4 μ h
    cases h
  | succ f ih =>
    intro v3 v4 μ h
    exact t_X4_looksWith_b5 ih h
set_option maxHeartbeats 4000000 in
set_option maxRecDepth 20000 in
theorem t_X4_looksWith {l : Launch} {G : Gl} {n : Nat} {sh : Sh} {x : Int32 × Mu} {v0 : Nat} {v1 : Int32} {v2 : Int32} {μ : Mu} (h : m_X4_looksWith sh v0 v1 v2 μ = some x) : Ct l G ⟨"StripsOfFour$Scene", "looksWith", "(II)I"⟩ prog_6_method_21_code 6 (some .int) { frames := 1, cells := 0, slots := 0, locals := 22 } n sh μ [vr v0, vi v1, vi v2] (some (.int x.1)) n sh x.2 := by
  refine Ct.of (lc := [some (vr v0), some (vi v1), some (vi v2), none, none, none]) (by decide +kernel) (Nat.le_of_ble_eq_true rfl) rfl ?_
  show Sj l G (QI G n sh x) c_X4_looksWith n sh 0 0 μ 0 [some (vr v0), some (vi v1), some (vi v2), none, none, none] []
  unfold m_X4_looksWith at h
  refine s_iconst (pc := 0) (v := 0) d_X4_looksWith_0 (by decide) ?_
  refine s_istore_n (pc := 1) (lc' := [some (vr v0), some (vi v1), some (vi v2), some (vi 0), none, none]) d_X4_looksWith_1 rfl (by decide) rfl ?_
  refine s_iconst (pc := 2) (v := 0) d_X4_looksWith_2 (by decide) ?_
  refine s_istore (pc := 3) (lc' := [some (vr v0), some (vi v1), some (vi v2), some (vi 0), some (vi 0), none]) d_X4_looksWith_3 (by decide) rfl ?_
  exact t_X4_looksWith_h5 FU _ _ _ h
/-! StripsOfFour$Scene.startAnew -/
abbrev c_X4_startAnew : Cf := (prog_6_method_2_code, 2, "StripsOfFour$Scene", "startAnew", none, { frames := 1, cells := 0, slots := 0, locals := 21 })
theorem d_X4_startAnew_0 : decode prog_6_method_2_code 0 = .ok (.aload_n 0, 1) := by decide +kernel
theorem d_X4_startAnew_1 : decode prog_6_method_2_code 1 = .ok (.iconst 0, 1) := by decide +kernel
theorem d_X4_startAnew_2 : decode prog_6_method_2_code 2 = .ok (.putfield 15, 3) := by decide +kernel
theorem d_X4_startAnew_5 : decode prog_6_method_2_code 5 = .ok (.aload_n 0, 1) := by decide +kernel
theorem d_X4_startAnew_6 : decode prog_6_method_2_code 6 = .ok (.iconst 0, 1) := by decide +kernel
theorem d_X4_startAnew_7 : decode prog_6_method_2_code 7 = .ok (.putfield 19, 3) := by decide +kernel
theorem d_X4_startAnew_10 : decode prog_6_method_2_code 10 = .ok (.aload_n 0, 1) := by decide +kernel
theorem d_X4_startAnew_11 : decode prog_6_method_2_code 11 = .ok (.bipush (-9), 2) := by decide +kernel
theorem d_X4_startAnew_13 : decode prog_6_method_2_code 13 = .ok (.putfield 22, 3) := by decide +kernel
theorem d_X4_startAnew_16 : decode prog_6_method_2_code 16 = .ok (.aload_n 0, 1) := by decide +kernel
theorem d_X4_startAnew_17 : decode prog_6_method_2_code 17 = .ok (.iconst 0, 1) := by decide +kernel
theorem d_X4_startAnew_18 : decode prog_6_method_2_code 18 = .ok (.putfield 25, 3) := by decide +kernel
theorem d_X4_startAnew_21 : decode prog_6_method_2_code 21 = .ok (.iconst 0, 1) := by decide +kernel
theorem d_X4_startAnew_22 : decode prog_6_method_2_code 22 = .ok (.istore_n 1, 1) := by decide +kernel
theorem d_X4_startAnew_23 : decode prog_6_method_2_code 23 = .ok (.iload_n 1, 1) := by decide +kernel
theorem d_X4_startAnew_24 : decode prog_6_method_2_code 24 = .ok (.iconst 2, 1) := by decide +kernel
theorem d_X4_startAnew_25 : decode prog_6_method_2_code 25 = .ok (.if_icmp .ge 19, 3) := by decide +kernel
theorem d_X4_startAnew_28 : decode prog_6_method_2_code 28 = .ok (.aload_n 0, 1) := by decide +kernel
theorem d_X4_startAnew_29 : decode prog_6_method_2_code 29 = .ok (.getfield 34, 3) := by decide +kernel
theorem d_X4_startAnew_32 : decode prog_6_method_2_code 32 = .ok (.iload_n 1, 1) := by decide +kernel
theorem d_X4_startAnew_33 : decode prog_6_method_2_code 33 = .ok (.aaload, 1) := by decide +kernel
theorem d_X4_startAnew_34 : decode prog_6_method_2_code 34 = .ok (.iload_n 1, 1) := by decide +kernel
theorem d_X4_startAnew_35 : decode prog_6_method_2_code 35 = .ok (.invokevirtual 51, 3) := by decide +kernel
theorem d_X4_startAnew_38 : decode prog_6_method_2_code 38 = .ok (.iinc 1 1, 3) := by decide +kernel
theorem d_X4_startAnew_41 : decode prog_6_method_2_code 41 = .ok (.goto (-18), 3) := by decide +kernel
theorem d_X4_startAnew_44 : decode prog_6_method_2_code 44 = .ok (.iconst 0, 1) := by decide +kernel
theorem d_X4_startAnew_45 : decode prog_6_method_2_code 45 = .ok (.istore_n 1, 1) := by decide +kernel
theorem d_X4_startAnew_46 : decode prog_6_method_2_code 46 = .ok (.iload_n 1, 1) := by decide +kernel
theorem d_X4_startAnew_47 : decode prog_6_method_2_code 47 = .ok (.iconst 5, 1) := by decide +kernel
theorem d_X4_startAnew_48 : decode prog_6_method_2_code 48 = .ok (.if_icmp .ge 33, 3) := by decide +kernel
theorem d_X4_startAnew_51 : decode prog_6_method_2_code 51 = .ok (.aload_n 0, 1) := by decide +kernel
theorem d_X4_startAnew_52 : decode prog_6_method_2_code 52 = .ok (.getfield 37, 3) := by decide +kernel
theorem d_X4_startAnew_55 : decode prog_6_method_2_code 55 = .ok (.iload_n 1, 1) := by decide +kernel
theorem d_X4_startAnew_56 : decode prog_6_method_2_code 56 = .ok (.bipush (-9), 2) := by decide +kernel
theorem d_X4_startAnew_58 : decode prog_6_method_2_code 58 = .ok (.iastore, 1) := by decide +kernel
theorem d_X4_startAnew_59 : decode prog_6_method_2_code 59 = .ok (.aload_n 0, 1) := by decide +kernel
theorem d_X4_startAnew_60 : decode prog_6_method_2_code 60 = .ok (.getfield 41, 3) := by decide +kernel
theorem d_X4_startAnew_63 : decode prog_6_method_2_code 63 = .ok (.iload_n 1, 1) := by decide +kernel
theorem d_X4_startAnew_64 : decode prog_6_method_2_code 64 = .ok (.bipush (-9), 2) := by decide +kernel
theorem d_X4_startAnew_66 : decode prog_6_method_2_code 66 = .ok (.iastore, 1) := by decide +kernel
theorem d_X4_startAnew_67 : decode prog_6_method_2_code 67 = .ok (.aload_n 0, 1) := by decide +kernel
theorem d_X4_startAnew_68 : decode prog_6_method_2_code 68 = .ok (.getfield 44, 3) := by decide +kernel
theorem d_X4_startAnew_71 : decode prog_6_method_2_code 71 = .ok (.iload_n 1, 1) := by decide +kernel
theorem d_X4_startAnew_72 : decode prog_6_method_2_code 72 = .ok (.bipush (-9), 2) := by decide +kernel
theorem d_X4_startAnew_74 : decode prog_6_method_2_code 74 = .ok (.iastore, 1) := by decide +kernel
theorem d_X4_startAnew_75 : decode prog_6_method_2_code 75 = .ok (.iinc 1 1, 3) := by decide +kernel
theorem d_X4_startAnew_78 : decode prog_6_method_2_code 78 = .ok (.goto (-32), 3) := by decide +kernel
theorem d_X4_startAnew_81 : decode prog_6_method_2_code 81 = .ok (.return_, 1) := by decide +kernel
def m_X4_startAnew_b46 (sh : Sh) (k46 : Int32 → Mu → Option Mu) (v0 : Nat) (v1 : Int32) (μ : Mu) : Option Mu :=
  if 5 ≤ v1 then
    some μ
  else
    gd (iz sh 4 v0) <|
    bd (gR μ v0 7) fun a16 =>
    gd (ix sh 8 a16 v1) <|
    bd (sI μ a16 v1.toNatClampNeg (-9)) fun μ18 =>
    bd (gR μ18 v0 8) fun a19 =>
    gd (ix sh 8 a19 v1) <|
    bd (sI μ18 a19 v1.toNatClampNeg (-9)) fun μ21 =>
    bd (gR μ21 v0 9) fun a22 =>
    gd (ix sh 8 a22 v1) <|
    bd (sI μ21 a22 v1.toNatClampNeg (-9)) fun μ24 =>
    bd (v1 + 1) fun w25 =>
    k46 w25 μ24
def m_X4_startAnew_h46 (sh : Sh) (v0 : Nat) : Nat → Int32 → Mu → Option Mu
  | 0 => fun _ _ => none
  | f + 1 => fun v1 μ => m_X4_startAnew_b46 sh (m_X4_startAnew_h46 sh v0 f) v0 v1 μ
def m_X4_startAnew_b44 (sh : Sh) (v0 : Nat) (μ : Mu) : Option Mu :=
  m_X4_startAnew_h46 sh v0 FU 0 μ
def m_X4_startAnew_b23 (sh : Sh) (k23 : Int32 → Mu → Option Mu) (v0 : Nat) (v1 : Int32) (μ : Mu) : Option Mu :=
  if 2 ≤ v1 then
    m_X4_startAnew_b44 sh v0 μ
  else
    gd (iz sh 4 v0) <|
    bd (gR μ v0 6) fun a8 =>
    gd (ix sh 11 a8 v1) <|
    bd (gR μ a8 v1.toNatClampNeg) fun a10 =>
    gd (iz sh 5 a10) <|
    ca (m_X5_begin sh a10 v1 μ) fun μ12 =>
    bd (v1 + 1) fun w13 =>
    k23 w13 μ12
def m_X4_startAnew_h23 (sh : Sh) (v0 : Nat) : Nat → Int32 → Mu → Option Mu
  | 0 => fun _ _ => none
  | f + 1 => fun v1 μ => m_X4_startAnew_b23 sh (m_X4_startAnew_h23 sh v0 f) v0 v1 μ
def m_X4_startAnew (sh : Sh) (v0 : Nat) (μ : Mu) : Option Mu :=
  gd (iz sh 4 v0) <|
  bd (sI μ v0 1 0) fun μ2 =>
  bd (sI μ2 v0 2 0) fun μ3 =>
  bd (sI μ3 v0 3 (-9)) fun μ4 =>
  bd (sI μ4 v0 4 0) fun μ5 =>
  m_X4_startAnew_h23 sh v0 FU 0 μ5
set_option maxHeartbeats 4000000 in
set_option maxRecDepth 20000 in
theorem t_X4_startAnew_b46 {l : Launch} {G : Gl} {n : Nat} {sh : Sh} {x : Mu} {k46 : Int32 → Mu → Option Mu} {v0 : Nat} {v1 : Int32} {μ : Mu} (hk46 : ∀ (v1 : Int32) (μ : Mu), k46 v1 μ = some x → Sj l G (QV G n sh x) c_X4_startAnew n sh 0 0 μ 46 [some (vr v0), some (vi v1)] []) (h : m_X4_startAnew_b46 sh k46 v0 v1 μ = some x) : Sj l G (QV G n sh x) c_X4_startAnew n sh 0 0 μ 46 [some (vr v0), some (vi v1)] [] := by
  unfold m_X4_startAnew_b46 at h
  refine s_iload_n (pc := 46) d_X4_startAnew_46 rfl rfl ?_
  refine s_iconst (pc := 47) (v := 5) d_X4_startAnew_47 (by decide) ?_
  refine s_icmp_ge (pc := 48) (tgt := 81) d_X4_startAnew_48 (by decide) (fun c14 => ?_) (fun c14 => ?_)
  · have h := it_t c14 h
    obtain rfl := Option.some.inj h
    exact s_vret (pc := 81) d_X4_startAnew_81 rfl
  · have h := it_f c14 h
    refine s_aload_n (pc := 51) d_X4_startAnew_51 rfl rfl ?_
    obtain ⟨g15, h⟩ := gd_1 h
    refine s_getR (pc := 52) (k := 7) cl_4 d_X4_startAnew_52 g15 (by decide) w_110 (rt_arr _) ?_
    obtain ⟨a16, ea16, h⟩ := bd_1 h
    refine s_topR ea16 ?_
    refine s_iload_n (pc := 55) d_X4_startAnew_55 rfl rfl ?_
    refine s_bipush (pc := 56) (v := (-9)) d_X4_startAnew_56 (by decide) ?_
    obtain ⟨g17, h⟩ := gd_1 h
    refine s_iast (pc := 58) d_X4_startAnew_58 g17 ?_
    obtain ⟨μ18, eμ18, h⟩ := bd_1 h
    refine s_mu eμ18 ?_
    refine s_aload_n (pc := 59) d_X4_startAnew_59 rfl rfl ?_
    refine s_getR (pc := 60) (k := 8) cl_4 d_X4_startAnew_60 g15 (by decide) w_111 (rt_arr _) ?_
    obtain ⟨a19, ea19, h⟩ := bd_1 h
    refine s_topR ea19 ?_
    refine s_iload_n (pc := 63) d_X4_startAnew_63 rfl rfl ?_
    refine s_bipush (pc := 64) (v := (-9)) d_X4_startAnew_64 (by decide) ?_
    obtain ⟨g20, h⟩ := gd_1 h
    refine s_iast (pc := 66) d_X4_startAnew_66 g20 ?_
    obtain ⟨μ21, eμ21, h⟩ := bd_1 h
    refine s_mu eμ21 ?_
    refine s_aload_n (pc := 67) d_X4_startAnew_67 rfl rfl ?_
    refine s_getR (pc := 68) (k := 9) cl_4 d_X4_startAnew_68 g15 (by decide) w_112 (rt_arr _) ?_
    obtain ⟨a22, ea22, h⟩ := bd_1 h
    refine s_topR ea22 ?_
    refine s_iload_n (pc := 71) d_X4_startAnew_71 rfl rfl ?_
    refine s_bipush (pc := 72) (v := (-9)) d_X4_startAnew_72 (by decide) ?_
    obtain ⟨g23, h⟩ := gd_1 h
    refine s_iast (pc := 74) d_X4_startAnew_74 g23 ?_
    obtain ⟨μ24, eμ24, h⟩ := bd_1 h
    refine s_mu eμ24 ?_
    obtain ⟨w25, ew25, h⟩ := bd_1 h
    refine s_iinc (pc := 75) (v := w25) (lc' := [some (vr v0), some (vi w25)]) d_X4_startAnew_75 rfl (by rw [ew25]; rfl) (by decide) rfl ?_
    refine s_goto (pc := 78) (tgt := 46) d_X4_startAnew_78 (by decide) ?_
    exact hk46 _ _ h
set_option maxHeartbeats 4000000 in
set_option maxRecDepth 20000 in
theorem t_X4_startAnew_h46 {l : Launch} {G : Gl} {n : Nat} {sh : Sh} {x : Mu} {v0 : Nat} : ∀ (f : Nat) (v1 : Int32) (μ : Mu), m_X4_startAnew_h46 sh v0 f v1 μ = some x → Sj l G (QV G n sh x) c_X4_startAnew n sh 0 0 μ 46 [some (vr v0), some (vi v1)] [] := by
  intro f
  induction f with
  | zero =>
    intro v1 μ h
    cases h
  | succ f ih =>
    intro v1 μ h
    exact t_X4_startAnew_b46 ih h
set_option maxHeartbeats 4000000 in
set_option maxRecDepth 20000 in
theorem t_X4_startAnew_b44 {l : Launch} {G : Gl} {n : Nat} {sh : Sh} {x : Mu} {v0 : Nat} {μ : Mu} (h : m_X4_startAnew_b44 sh v0 μ = some x) : Sj l G (QV G n sh x) c_X4_startAnew n sh 0 0 μ 44 [some (vr v0), none] [] := by
  unfold m_X4_startAnew_b44 at h
  refine s_iconst (pc := 44) (v := 0) d_X4_startAnew_44 (by decide) ?_
  refine s_istore_n (pc := 45) (lc' := [some (vr v0), some (vi 0)]) d_X4_startAnew_45 rfl (by decide) rfl ?_
  exact t_X4_startAnew_h46 FU _ _ h
set_option maxHeartbeats 4000000 in
set_option maxRecDepth 20000 in
theorem t_X4_startAnew_b23 {l : Launch} {G : Gl} {n : Nat} {sh : Sh} {x : Mu} {k23 : Int32 → Mu → Option Mu} {v0 : Nat} {v1 : Int32} {μ : Mu} (hk23 : ∀ (v1 : Int32) (μ : Mu), k23 v1 μ = some x → Sj l G (QV G n sh x) c_X4_startAnew n sh 0 0 μ 23 [some (vr v0), some (vi v1)] []) (h : m_X4_startAnew_b23 sh k23 v0 v1 μ = some x) : Sj l G (QV G n sh x) c_X4_startAnew n sh 0 0 μ 23 [some (vr v0), some (vi v1)] [] := by
  unfold m_X4_startAnew_b23 at h
  refine s_iload_n (pc := 23) d_X4_startAnew_23 rfl rfl ?_
  refine s_iconst (pc := 24) (v := 2) d_X4_startAnew_24 (by decide) ?_
  refine s_icmp_ge (pc := 25) (tgt := 44) d_X4_startAnew_25 (by decide) (fun c6 => ?_) (fun c6 => ?_)
  · have h := it_t c6 h
    refine s_mask [true, false] rfl ?_
    exact t_X4_startAnew_b44 h
  · have h := it_f c6 h
    refine s_aload_n (pc := 28) d_X4_startAnew_28 rfl rfl ?_
    obtain ⟨g7, h⟩ := gd_1 h
    refine s_getR (pc := 29) (k := 6) cl_4 d_X4_startAnew_29 g7 (by decide) w_109 (rt_arr _) ?_
    obtain ⟨a8, ea8, h⟩ := bd_1 h
    refine s_topR ea8 ?_
    refine s_iload_n (pc := 32) d_X4_startAnew_32 rfl rfl ?_
    obtain ⟨g9, h⟩ := gd_1 h
    refine s_aald11 (pc := 33) d_X4_startAnew_33 g9 ?_
    obtain ⟨a10, ea10, h⟩ := bd_1 h
    refine s_topR ea10 ?_
    refine s_iload_n (pc := 34) d_X4_startAnew_34 rfl rfl ?_
    obtain ⟨g11, h⟩ := gd_1 h
    obtain ⟨μ12, eμ12, h⟩ := ca_1 h
    refine s_callV (pc := 35) (as := [vi v1]) (st := []) (vo := []) (t_X5_begin eμ12) cl_5 g11 d_X4_startAnew_35 y_X5_begin w_90 w_91 w_92 ⟨by decide, by decide⟩ ⟨Nat.le_of_ble_eq_true rfl, Nat.le_of_ble_eq_true rfl⟩ (Nat.le_of_ble_eq_true rfl) rfl rfl rfl ?_
    refine s_as (kc' := 0) (js' := 0) (pc' := 38) (st' := []) ⟨rfl, rfl, rfl, rfl⟩ ?_
    obtain ⟨w13, ew13, h⟩ := bd_1 h
    refine s_iinc (pc := 38) (v := w13) (lc' := [some (vr v0), some (vi w13)]) d_X4_startAnew_38 rfl (by rw [ew13]; rfl) (by decide) rfl ?_
    refine s_goto (pc := 41) (tgt := 23) d_X4_startAnew_41 (by decide) ?_
    exact hk23 _ _ h
set_option maxHeartbeats 4000000 in
set_option maxRecDepth 20000 in
theorem t_X4_startAnew_h23 {l : Launch} {G : Gl} {n : Nat} {sh : Sh} {x : Mu} {v0 : Nat} : ∀ (f : Nat) (v1 : Int32) (μ : Mu), m_X4_startAnew_h23 sh v0 f v1 μ = some x → Sj l G (QV G n sh x) c_X4_startAnew n sh 0 0 μ 23 [some (vr v0), some (vi v1)] [] := by
  intro f
  induction f with
  | zero =>
    intro v1 μ h
    cases h
  | succ f ih =>
    intro v1 μ h
    exact t_X4_startAnew_b23 ih h
set_option maxHeartbeats 4000000 in
set_option maxRecDepth 20000 in
theorem t_X4_startAnew {l : Launch} {G : Gl} {n : Nat} {sh : Sh} {x : Mu} {v0 : Nat} {μ : Mu} (h : m_X4_startAnew sh v0 μ = some x) : Ct l G ⟨"StripsOfFour$Scene", "startAnew", "()V"⟩ prog_6_method_2_code 2 none { frames := 1, cells := 0, slots := 0, locals := 21 } n sh μ [vr v0] none n sh x := by
  refine Ct.of (lc := [some (vr v0), none]) (by decide +kernel) (Nat.le_of_ble_eq_true rfl) rfl ?_
  show Sj l G (QV G n sh x) c_X4_startAnew n sh 0 0 μ 0 [some (vr v0), none] []
  unfold m_X4_startAnew at h
  refine s_aload_n (pc := 0) d_X4_startAnew_0 rfl rfl ?_
  refine s_iconst (pc := 1) (v := 0) d_X4_startAnew_1 (by decide) ?_
  obtain ⟨g1, h⟩ := gd_1 h
  refine s_putI (pc := 2) (k := 1) cl_4 d_X4_startAnew_2 g1 (by decide) w_96 rfl rfl ?_
  obtain ⟨μ2, eμ2, h⟩ := bd_1 h
  refine s_mu eμ2 ?_
  refine s_aload_n (pc := 5) d_X4_startAnew_5 rfl rfl ?_
  refine s_iconst (pc := 6) (v := 0) d_X4_startAnew_6 (by decide) ?_
  refine s_putI (pc := 7) (k := 2) cl_4 d_X4_startAnew_7 g1 (by decide) w_98 rfl rfl ?_
  obtain ⟨μ3, eμ3, h⟩ := bd_1 h
  refine s_mu eμ3 ?_
  refine s_aload_n (pc := 10) d_X4_startAnew_10 rfl rfl ?_
  refine s_bipush (pc := 11) (v := (-9)) d_X4_startAnew_11 (by decide) ?_
  refine s_putI (pc := 13) (k := 3) cl_4 d_X4_startAnew_13 g1 (by decide) w_100 rfl rfl ?_
  obtain ⟨μ4, eμ4, h⟩ := bd_1 h
  refine s_mu eμ4 ?_
  refine s_aload_n (pc := 16) d_X4_startAnew_16 rfl rfl ?_
  refine s_iconst (pc := 17) (v := 0) d_X4_startAnew_17 (by decide) ?_
  refine s_putI (pc := 18) (k := 4) cl_4 d_X4_startAnew_18 g1 (by decide) w_102 rfl rfl ?_
  obtain ⟨μ5, eμ5, h⟩ := bd_1 h
  refine s_mu eμ5 ?_
  refine s_iconst (pc := 21) (v := 0) d_X4_startAnew_21 (by decide) ?_
  refine s_istore_n (pc := 22) (lc' := [some (vr v0), some (vi 0)]) d_X4_startAnew_22 rfl (by decide) rfl ?_
  exact t_X4_startAnew_h23 FU _ _ h
/-! StripsOfFour$Scene.hasStrip -/
abbrev c_X4_hasStrip : Cf := (prog_6_method_4_code, 2, "StripsOfFour$Scene", "hasStrip", (some .boolean), { frames := 0, cells := 0, slots := 0, locals := 0 })
theorem d_X4_hasStrip_0 : decode prog_6_method_4_code 0 = .ok (.iload_n 1, 1) := by decide +kernel
theorem d_X4_hasStrip_1 : decode prog_6_method_4_code 1 = .ok (.ifCond .lt 21, 3) := by decide +kernel
theorem d_X4_hasStrip_4 : decode prog_6_method_4_code 4 = .ok (.iload_n 1, 1) := by decide +kernel
theorem d_X4_hasStrip_5 : decode prog_6_method_4_code 5 = .ok (.aload_n 0, 1) := by decide +kernel
theorem d_X4_hasStrip_6 : decode prog_6_method_4_code 6 = .ok (.getfield 25, 3) := by decide +kernel
theorem d_X4_hasStrip_9 : decode prog_6_method_4_code 9 = .ok (.if_icmp .ge 13, 3) := by decide +kernel
theorem d_X4_hasStrip_12 : decode prog_6_method_4_code 12 = .ok (.iload_n 1, 1) := by decide +kernel
theorem d_X4_hasStrip_13 : decode prog_6_method_4_code 13 = .ok (.bipush 8, 2) := by decide +kernel
theorem d_X4_hasStrip_15 : decode prog_6_method_4_code 15 = .ok (.if_icmp .ge 7, 3) := by decide +kernel
theorem d_X4_hasStrip_18 : decode prog_6_method_4_code 18 = .ok (.iconst 1, 1) := by decide +kernel
theorem d_X4_hasStrip_19 : decode prog_6_method_4_code 19 = .ok (.goto 4, 3) := by decide +kernel
theorem d_X4_hasStrip_22 : decode prog_6_method_4_code 22 = .ok (.iconst 0, 1) := by decide +kernel
theorem d_X4_hasStrip_23 : decode prog_6_method_4_code 23 = .ok (.ireturn, 1) := by decide +kernel
def m_X4_hasStrip (sh : Sh) (v0 : Nat) (v1 : Int32) (μ : Mu) : Option (Int32 × Mu) :=
  if v1 < 0 then
    some (0, μ)
  else
    gd (iz sh 4 v0) <|
    if (gI μ v0 4) ≤ v1 then
      some (0, μ)
    else
      if 8 ≤ v1 then
        some (0, μ)
      else
        some (1, μ)
set_option maxHeartbeats 4000000 in
set_option maxRecDepth 20000 in
theorem t_X4_hasStrip {l : Launch} {G : Gl} {n : Nat} {sh : Sh} {x : Int32 × Mu} {v0 : Nat} {v1 : Int32} {μ : Mu} (h : m_X4_hasStrip sh v0 v1 μ = some x) : Ct l G ⟨"StripsOfFour$Scene", "hasStrip", "(I)Z"⟩ prog_6_method_4_code 2 (some .boolean) { frames := 0, cells := 0, slots := 0, locals := 0 } n sh μ [vr v0, vi v1] (some (.int x.1)) n sh x.2 := by
  refine Ct.of (lc := [some (vr v0), some (vi v1)]) (by decide +kernel) (Nat.le_of_ble_eq_true rfl) rfl ?_
  show Sj l G (QI G n sh x) c_X4_hasStrip n sh 0 0 μ 0 [some (vr v0), some (vi v1)] []
  unfold m_X4_hasStrip at h
  refine s_iload_n (pc := 0) d_X4_hasStrip_0 rfl rfl ?_
  refine s_if_lt (pc := 1) (tgt := 22) d_X4_hasStrip_1 (by decide) (fun c1 => ?_) (fun c1 => ?_)
  · have h := it_t c1 h
    refine s_iconst (pc := 22) (v := 0) d_X4_hasStrip_22 (by decide) ?_
    obtain rfl := Option.some.inj h
    exact s_zret0 (pc := 23) rfl d_X4_hasStrip_23 rfl
  · have h := it_f c1 h
    refine s_iload_n (pc := 4) d_X4_hasStrip_4 rfl rfl ?_
    refine s_aload_n (pc := 5) d_X4_hasStrip_5 rfl rfl ?_
    obtain ⟨g2, h⟩ := gd_1 h
    refine s_getI (pc := 6) (k := 4) cl_4 d_X4_hasStrip_6 g2 (by decide) w_102 rfl ?_
    refine s_icmp_ge (pc := 9) (tgt := 22) d_X4_hasStrip_9 (by decide) (fun c3 => ?_) (fun c3 => ?_)
    · have h := it_t c3 h
      refine s_iconst (pc := 22) (v := 0) d_X4_hasStrip_22 (by decide) ?_
      obtain rfl := Option.some.inj h
      exact s_zret0 (pc := 23) rfl d_X4_hasStrip_23 rfl
    · have h := it_f c3 h
      refine s_iload_n (pc := 12) d_X4_hasStrip_12 rfl rfl ?_
      refine s_bipush (pc := 13) (v := 8) d_X4_hasStrip_13 (by decide) ?_
      refine s_icmp_ge (pc := 15) (tgt := 22) d_X4_hasStrip_15 (by decide) (fun c4 => ?_) (fun c4 => ?_)
      · have h := it_t c4 h
        refine s_iconst (pc := 22) (v := 0) d_X4_hasStrip_22 (by decide) ?_
        obtain rfl := Option.some.inj h
        exact s_zret0 (pc := 23) rfl d_X4_hasStrip_23 rfl
      · have h := it_f c4 h
        refine s_iconst (pc := 18) (v := 1) d_X4_hasStrip_18 (by decide) ?_
        refine s_goto (pc := 19) (tgt := 23) d_X4_hasStrip_19 (by decide) ?_
        obtain rfl := Option.some.inj h
        exact s_zret0 (pc := 23) rfl d_X4_hasStrip_23 rfl
/-! StripsOfFour$Scene.<init> -/
abbrev c_X4_init : Cf := (prog_6_method_1_code, 2, "StripsOfFour$Scene", "<init>", none, { frames := 2, cells := 25, slots := 235, locals := 42 })
theorem d_X4_init_0 : decode prog_6_method_1_code 0 = .ok (.aload_n 0, 1) := by decide +kernel
theorem d_X4_init_1 : decode prog_6_method_1_code 1 = .ok (.invokespecial 3, 3) := by decide +kernel
theorem d_X4_init_4 : decode prog_6_method_1_code 4 = .ok (.aload_n 0, 1) := by decide +kernel
theorem d_X4_init_5 : decode prog_6_method_1_code 5 = .ok (.lconst 0, 1) := by decide +kernel
theorem d_X4_init_6 : decode prog_6_method_1_code 6 = .ok (.putfield 9, 3) := by decide +kernel
theorem d_X4_init_9 : decode prog_6_method_1_code 9 = .ok (.aload_n 0, 1) := by decide +kernel
theorem d_X4_init_10 : decode prog_6_method_1_code 10 = .ok (.iconst 0, 1) := by decide +kernel
theorem d_X4_init_11 : decode prog_6_method_1_code 11 = .ok (.putfield 15, 3) := by decide +kernel
theorem d_X4_init_14 : decode prog_6_method_1_code 14 = .ok (.aload_n 0, 1) := by decide +kernel
theorem d_X4_init_15 : decode prog_6_method_1_code 15 = .ok (.iconst 0, 1) := by decide +kernel
theorem d_X4_init_16 : decode prog_6_method_1_code 16 = .ok (.putfield 19, 3) := by decide +kernel
theorem d_X4_init_19 : decode prog_6_method_1_code 19 = .ok (.aload_n 0, 1) := by decide +kernel
theorem d_X4_init_20 : decode prog_6_method_1_code 20 = .ok (.bipush (-9), 2) := by decide +kernel
theorem d_X4_init_22 : decode prog_6_method_1_code 22 = .ok (.putfield 22, 3) := by decide +kernel
theorem d_X4_init_25 : decode prog_6_method_1_code 25 = .ok (.aload_n 0, 1) := by decide +kernel
theorem d_X4_init_26 : decode prog_6_method_1_code 26 = .ok (.iconst 0, 1) := by decide +kernel
theorem d_X4_init_27 : decode prog_6_method_1_code 27 = .ok (.putfield 25, 3) := by decide +kernel
theorem d_X4_init_30 : decode prog_6_method_1_code 30 = .ok (.aload_n 0, 1) := by decide +kernel
theorem d_X4_init_31 : decode prog_6_method_1_code 31 = .ok (.bipush 8, 2) := by decide +kernel
theorem d_X4_init_33 : decode prog_6_method_1_code 33 = .ok (.anewarray 28, 3) := by decide +kernel
theorem d_X4_init_36 : decode prog_6_method_1_code 36 = .ok (.putfield 30, 3) := by decide +kernel
theorem d_X4_init_39 : decode prog_6_method_1_code 39 = .ok (.aload_n 0, 1) := by decide +kernel
theorem d_X4_init_40 : decode prog_6_method_1_code 40 = .ok (.iconst 2, 1) := by decide +kernel
theorem d_X4_init_41 : decode prog_6_method_1_code 41 = .ok (.anewarray 28, 3) := by decide +kernel
theorem d_X4_init_44 : decode prog_6_method_1_code 44 = .ok (.putfield 34, 3) := by decide +kernel
theorem d_X4_init_47 : decode prog_6_method_1_code 47 = .ok (.aload_n 0, 1) := by decide +kernel
theorem d_X4_init_48 : decode prog_6_method_1_code 48 = .ok (.iconst 5, 1) := by decide +kernel
theorem d_X4_init_49 : decode prog_6_method_1_code 49 = .ok (.newarray .int, 2) := by decide +kernel
theorem d_X4_init_51 : decode prog_6_method_1_code 51 = .ok (.putfield 37, 3) := by decide +kernel
theorem d_X4_init_54 : decode prog_6_method_1_code 54 = .ok (.aload_n 0, 1) := by decide +kernel
theorem d_X4_init_55 : decode prog_6_method_1_code 55 = .ok (.iconst 5, 1) := by decide +kernel
theorem d_X4_init_56 : decode prog_6_method_1_code 56 = .ok (.newarray .int, 2) := by decide +kernel
theorem d_X4_init_58 : decode prog_6_method_1_code 58 = .ok (.putfield 41, 3) := by decide +kernel
theorem d_X4_init_61 : decode prog_6_method_1_code 61 = .ok (.aload_n 0, 1) := by decide +kernel
theorem d_X4_init_62 : decode prog_6_method_1_code 62 = .ok (.iconst 5, 1) := by decide +kernel
theorem d_X4_init_63 : decode prog_6_method_1_code 63 = .ok (.newarray .int, 2) := by decide +kernel
theorem d_X4_init_65 : decode prog_6_method_1_code 65 = .ok (.putfield 44, 3) := by decide +kernel
theorem d_X4_init_68 : decode prog_6_method_1_code 68 = .ok (.iconst 0, 1) := by decide +kernel
theorem d_X4_init_69 : decode prog_6_method_1_code 69 = .ok (.istore_n 1, 1) := by decide +kernel
theorem d_X4_init_70 : decode prog_6_method_1_code 70 = .ok (.iload_n 1, 1) := by decide +kernel
theorem d_X4_init_71 : decode prog_6_method_1_code 71 = .ok (.bipush 8, 2) := by decide +kernel
theorem d_X4_init_73 : decode prog_6_method_1_code 73 = .ok (.if_icmp .ge 22, 3) := by decide +kernel
theorem d_X4_init_76 : decode prog_6_method_1_code 76 = .ok (.aload_n 0, 1) := by decide +kernel
theorem d_X4_init_77 : decode prog_6_method_1_code 77 = .ok (.getfield 30, 3) := by decide +kernel
theorem d_X4_init_80 : decode prog_6_method_1_code 80 = .ok (.iload_n 1, 1) := by decide +kernel
theorem d_X4_init_81 : decode prog_6_method_1_code 81 = .ok (.new 28, 3) := by decide +kernel
theorem d_X4_init_84 : decode prog_6_method_1_code 84 = .ok (.dup, 1) := by decide +kernel
theorem d_X4_init_85 : decode prog_6_method_1_code 85 = .ok (.invokespecial 47, 3) := by decide +kernel
theorem d_X4_init_88 : decode prog_6_method_1_code 88 = .ok (.aastore, 1) := by decide +kernel
theorem d_X4_init_89 : decode prog_6_method_1_code 89 = .ok (.iinc 1 1, 3) := by decide +kernel
theorem d_X4_init_92 : decode prog_6_method_1_code 92 = .ok (.goto (-22), 3) := by decide +kernel
theorem d_X4_init_95 : decode prog_6_method_1_code 95 = .ok (.iconst 0, 1) := by decide +kernel
theorem d_X4_init_96 : decode prog_6_method_1_code 96 = .ok (.istore_n 1, 1) := by decide +kernel
theorem d_X4_init_97 : decode prog_6_method_1_code 97 = .ok (.iload_n 1, 1) := by decide +kernel
theorem d_X4_init_98 : decode prog_6_method_1_code 98 = .ok (.iconst 2, 1) := by decide +kernel
theorem d_X4_init_99 : decode prog_6_method_1_code 99 = .ok (.if_icmp .ge 22, 3) := by decide +kernel
theorem d_X4_init_102 : decode prog_6_method_1_code 102 = .ok (.aload_n 0, 1) := by decide +kernel
theorem d_X4_init_103 : decode prog_6_method_1_code 103 = .ok (.getfield 34, 3) := by decide +kernel
theorem d_X4_init_106 : decode prog_6_method_1_code 106 = .ok (.iload_n 1, 1) := by decide +kernel
theorem d_X4_init_107 : decode prog_6_method_1_code 107 = .ok (.new 28, 3) := by decide +kernel
theorem d_X4_init_110 : decode prog_6_method_1_code 110 = .ok (.dup, 1) := by decide +kernel
theorem d_X4_init_111 : decode prog_6_method_1_code 111 = .ok (.invokespecial 47, 3) := by decide +kernel
theorem d_X4_init_114 : decode prog_6_method_1_code 114 = .ok (.aastore, 1) := by decide +kernel
theorem d_X4_init_115 : decode prog_6_method_1_code 115 = .ok (.iinc 1 1, 3) := by decide +kernel
theorem d_X4_init_118 : decode prog_6_method_1_code 118 = .ok (.goto (-21), 3) := by decide +kernel
theorem d_X4_init_121 : decode prog_6_method_1_code 121 = .ok (.aload_n 0, 1) := by decide +kernel
theorem d_X4_init_122 : decode prog_6_method_1_code 122 = .ok (.invokevirtual 48, 3) := by decide +kernel
theorem d_X4_init_125 : decode prog_6_method_1_code 125 = .ok (.return_, 1) := by decide +kernel
def m_X4_init_b121 (v0 : Nat) (n kc js : Nat) (sh : Sh) (μ : Mu) : Option (Nat × Sh × Mu) :=
  gd (iz sh 4 v0) <|
  ca (m_X4_startAnew sh v0 μ) fun μ91 =>
  gd (roomB kc 25 js 235) <|
  gd (eqB kc 25 js 235) <|
  some (n, sh, μ91)
def m_X4_init_b97 (k97 : Int32 → Nat → Nat → Nat → Sh → Mu → Option (Nat × Sh × Mu)) (v0 : Nat) (v1 : Int32) (n kc js : Nat) (sh : Sh) (μ : Mu) : Option (Nat × Sh × Mu) :=
  if 2 ≤ v1 then
    m_X4_init_b121 v0 n kc js sh μ
  else
    gd (iz sh 4 v0) <|
    bd (gR μ v0 6) fun a71 =>
    gd (roomB (kc + 1) 25 (js + 5) 235) <|
    bd (n + 1) fun n73 =>
    bd (kc + 1) fun kc74 =>
    bd (js + 5) fun js75 =>
    bd (shn sh n73 5 5) fun sh76 =>
    bd (zr μ n73) fun μ77 =>
    gd (nn0 n73) <|
    ca3 (m_X5_init n73 sh76 n73 μ77) fun n79 sh80 μ81 =>
    gd (roomB (kc74 + 1) 25 (js75 + 16) 235) <|
    gd (eq1 n79 (n73 + 1)) <|
    bd (kc74 + 1) fun kc84 =>
    bd (js75 + 16) fun js85 =>
    gd (ix sh80 11 a71 v1) <|
    gd (iz sh80 5 n73) <|
    bd (sR μ81 a71 v1.toNatClampNeg n73) fun μ88 =>
    bd (v1 + 1) fun w89 =>
    k97 w89 n79 kc84 js85 sh80 μ88
def m_X4_init_h97 (v0 : Nat) : Nat → Int32 → Nat → Nat → Nat → Sh → Mu → Option (Nat × Sh × Mu)
  | 0 => fun _ _ _ _ _ _ => none
  | f + 1 => fun v1 n kc js sh μ => m_X4_init_b97 (m_X4_init_h97 v0 f) v0 v1 n kc js sh μ
def m_X4_init_b95 (v0 : Nat) (n kc js : Nat) (sh : Sh) (μ : Mu) : Option (Nat × Sh × Mu) :=
  m_X4_init_h97 v0 FU 0 n kc js sh μ
def m_X4_init_b70 (k70 : Int32 → Nat → Nat → Nat → Sh → Mu → Option (Nat × Sh × Mu)) (v0 : Nat) (v1 : Int32) (n kc js : Nat) (sh : Sh) (μ : Mu) : Option (Nat × Sh × Mu) :=
  if 8 ≤ v1 then
    m_X4_init_b95 v0 n kc js sh μ
  else
    gd (iz sh 4 v0) <|
    bd (gR μ v0 5) fun a50 =>
    gd (roomB (kc + 1) 25 (js + 5) 235) <|
    bd (n + 1) fun n52 =>
    bd (kc + 1) fun kc53 =>
    bd (js + 5) fun js54 =>
    bd (shn sh n52 5 5) fun sh55 =>
    bd (zr μ n52) fun μ56 =>
    gd (nn0 n52) <|
    ca3 (m_X5_init n52 sh55 n52 μ56) fun n58 sh59 μ60 =>
    gd (roomB (kc53 + 1) 25 (js54 + 16) 235) <|
    gd (eq1 n58 (n52 + 1)) <|
    bd (kc53 + 1) fun kc63 =>
    bd (js54 + 16) fun js64 =>
    gd (ix sh59 11 a50 v1) <|
    gd (iz sh59 5 n52) <|
    bd (sR μ60 a50 v1.toNatClampNeg n52) fun μ67 =>
    bd (v1 + 1) fun w68 =>
    k70 w68 n58 kc63 js64 sh59 μ67
def m_X4_init_h70 (v0 : Nat) : Nat → Int32 → Nat → Nat → Nat → Sh → Mu → Option (Nat × Sh × Mu)
  | 0 => fun _ _ _ _ _ _ => none
  | f + 1 => fun v1 n kc js sh μ => m_X4_init_b70 (m_X4_init_h70 v0 f) v0 v1 n kc js sh μ
def m_X4_init (n : Nat) (sh : Sh) (v0 : Nat) (μ : Mu) : Option (Nat × Sh × Mu) :=
  gd (nn0 v0) <|
  gd (iz sh 4 v0) <|
  bd (sJ μ v0 0 0) fun μ3 =>
  bd (sI μ3 v0 1 0) fun μ4 =>
  bd (sI μ4 v0 2 0) fun μ5 =>
  bd (sI μ5 v0 3 (-9)) fun μ6 =>
  bd (sI μ6 v0 4 0) fun μ7 =>
  gd (roomB (0 + 1) 25 (0 + 8) 235) <|
  bd (n + 1) fun n9 =>
  bd (0 + 1) fun kc10 =>
  bd (0 + 8) fun js11 =>
  bd (shn sh n9 11 8) fun sh12 =>
  bd (zr μ7 n9) fun μ13 =>
  gd (iz sh12 4 v0) <|
  bd (sR μ13 v0 5 n9) fun μ15 =>
  gd (roomB (kc10 + 1) 25 (js11 + 2) 235) <|
  bd (n9 + 1) fun n17 =>
  bd (kc10 + 1) fun kc18 =>
  bd (js11 + 2) fun js19 =>
  bd (shn sh12 n17 11 2) fun sh20 =>
  bd (zr μ15 n17) fun μ21 =>
  gd (iz sh20 4 v0) <|
  bd (sR μ21 v0 6 n17) fun μ23 =>
  gd (roomB (kc18 + 1) 25 (js19 + 5) 235) <|
  bd (n17 + 1) fun n25 =>
  bd (kc18 + 1) fun kc26 =>
  bd (js19 + 5) fun js27 =>
  bd (shn sh20 n25 8 5) fun sh28 =>
  bd (zr μ23 n25) fun μ29 =>
  gd (iz sh28 4 v0) <|
  bd (sR μ29 v0 7 n25) fun μ31 =>
  gd (roomB (kc26 + 1) 25 (js27 + 5) 235) <|
  bd (n25 + 1) fun n33 =>
  bd (kc26 + 1) fun kc34 =>
  bd (js27 + 5) fun js35 =>
  bd (shn sh28 n33 8 5) fun sh36 =>
  bd (zr μ31 n33) fun μ37 =>
  gd (iz sh36 4 v0) <|
  bd (sR μ37 v0 8 n33) fun μ39 =>
  gd (roomB (kc34 + 1) 25 (js35 + 5) 235) <|
  bd (n33 + 1) fun n41 =>
  bd (kc34 + 1) fun kc42 =>
  bd (js35 + 5) fun js43 =>
  bd (shn sh36 n41 8 5) fun sh44 =>
  bd (zr μ39 n41) fun μ45 =>
  gd (iz sh44 4 v0) <|
  bd (sR μ45 v0 9 n41) fun μ47 =>
  m_X4_init_h70 v0 FU 0 n41 kc42 js43 sh44 μ47
set_option maxHeartbeats 4000000 in
set_option maxRecDepth 20000 in
theorem t_X4_init_b121 {l : Launch} {G : Gl} {x : Nat × Sh × Mu} {v0 : Nat} {n kc js : Nat} {sh : Sh} {μ : Mu} (h : m_X4_init_b121 v0 n kc js sh μ = some x) : Sj l G (QA G 25 235 x) c_X4_init n sh kc js μ 121 [some (vr v0), none] [] := by
  unfold m_X4_init_b121 at h
  refine s_aload_n (pc := 121) d_X4_init_121 rfl rfl ?_
  obtain ⟨g90, h⟩ := gd_1 h
  obtain ⟨μ91, eμ91, h⟩ := ca_1 h
  obtain ⟨g92, h⟩ := gd_1 h
  refine s_callV (pc := 122) (as := []) (st := []) (vo := []) (t_X4_startAnew eμ91) cl_4 g90 d_X4_init_122 y_X4_startAnew w_86 w_87 w_88 ⟨by decide, by decide⟩ (roomB_eq g92) (Nat.le_of_ble_eq_true rfl) rfl rfl rfl ?_
  refine s_as (kc' := kc) (js' := js) (pc' := 125) (st' := []) ⟨rfl, rfl, rfl, rfl⟩ ?_
  obtain ⟨g93, h⟩ := gd_1 h
  obtain ⟨ez1, ez2⟩ := eqB_eq g93
  obtain rfl := Option.some.inj h
  refine s_as (kc' := 25) (js' := 235) (pc' := 125) (st' := []) ⟨ez1.symm, ez2.symm, rfl, rfl⟩ ?_
  exact s_vret (pc := 125) d_X4_init_125 rfl
set_option maxHeartbeats 4000000 in
set_option maxRecDepth 20000 in
theorem t_X4_init_b97 {l : Launch} {G : Gl} {x : Nat × Sh × Mu} {k97 : Int32 → Nat → Nat → Nat → Sh → Mu → Option (Nat × Sh × Mu)} {v0 : Nat} {v1 : Int32} {n kc js : Nat} {sh : Sh} {μ : Mu} (hk97 : ∀ (v1 : Int32) (n kc js : Nat) (sh : Sh) (μ : Mu), k97 v1 n kc js sh μ = some x → Sj l G (QA G 25 235 x) c_X4_init n sh kc js μ 97 [some (vr v0), some (vi v1)] []) (h : m_X4_init_b97 k97 v0 v1 n kc js sh μ = some x) : Sj l G (QA G 25 235 x) c_X4_init n sh kc js μ 97 [some (vr v0), some (vi v1)] [] := by
  unfold m_X4_init_b97 at h
  refine s_iload_n (pc := 97) d_X4_init_97 rfl rfl ?_
  refine s_iconst (pc := 98) (v := 2) d_X4_init_98 (by decide) ?_
  refine s_icmp_ge (pc := 99) (tgt := 121) d_X4_init_99 (by decide) (fun c69 => ?_) (fun c69 => ?_)
  · have h := it_t c69 h
    refine s_mask [true, false] rfl ?_
    exact t_X4_init_b121 h
  · have h := it_f c69 h
    refine s_aload_n (pc := 102) d_X4_init_102 rfl rfl ?_
    obtain ⟨g70, h⟩ := gd_1 h
    refine s_getR (pc := 103) (k := 6) cl_4 d_X4_init_103 g70 (by decide) w_109 (rt_arr _) ?_
    obtain ⟨a71, ea71, h⟩ := bd_1 h
    refine s_topR ea71 ?_
    refine s_iload_n (pc := 106) d_X4_init_106 rfl rfl ?_
    obtain ⟨g72, h⟩ := gd_1 h
    refine s_new (pc := 107) cl_5 d_X4_init_107 w_55 w_57 w_4 (roomB_eq g72) ?_
    obtain ⟨n73, en73, h⟩ := bd_1 h
    obtain ⟨kc74, ekc74, h⟩ := bd_1 h
    obtain ⟨js75, ejs75, h⟩ := bd_1 h
    obtain ⟨sh76, esh76, h⟩ := bd_1 h
    obtain ⟨μ77, eμ77, h⟩ := bd_1 h
    rw [← en73]
    refine s_nsm (n' := n73) (sh' := sh76) (μ' := μ77) ⟨rfl, esh76, eμ77⟩ ?_
    refine s_as (kc' := kc74) (js' := js75) (pc' := 110) (st' := [vr n73, vi v1, vr a71]) ⟨ekc74, ejs75, rfl, rfl⟩ ?_
    refine s_dup (pc := 110) d_X4_init_110 rfl ?_
    obtain ⟨g78, h⟩ := gd_1 h
    obtain ⟨n79, sh80, μ81, ern79, h⟩ := ca3_1 h
    obtain ⟨g82, h⟩ := gd_1 h
    obtain ⟨g83, h⟩ := gd_1 h
    refine s_callIN (pc := 111) (as := []) (st := [vr n73, vi v1, vr a71]) (t_X5_init ern79) (nn0_eq g78) d_X4_init_111 y_X5_init w_n58 w_59 rfl ⟨by decide, by decide⟩ (roomB_eq g82) (Nat.le_of_ble_eq_true rfl) rfl (eq1_eq g83) ?_
    obtain ⟨kc84, ekc84, h⟩ := bd_1 h
    obtain ⟨js85, ejs85, h⟩ := bd_1 h
    refine s_as (kc' := kc84) (js' := js85) (pc' := 114) (st' := [vr n73, vi v1, vr a71]) ⟨ekc84, ejs85, rfl, rfl⟩ ?_
    obtain ⟨g86, h⟩ := gd_1 h
    obtain ⟨g87, h⟩ := gd_1 h
    refine s_aast11 (pc := 114) d_X4_init_114 g86 g87 ?_
    obtain ⟨μ88, eμ88, h⟩ := bd_1 h
    refine s_mu eμ88 ?_
    obtain ⟨w89, ew89, h⟩ := bd_1 h
    refine s_iinc (pc := 115) (v := w89) (lc' := [some (vr v0), some (vi w89)]) d_X4_init_115 rfl (by rw [ew89]; rfl) (by decide) rfl ?_
    refine s_goto (pc := 118) (tgt := 97) d_X4_init_118 (by decide) ?_
    exact hk97 _ _ _ _ _ _ h
set_option maxHeartbeats 4000000 in
set_option maxRecDepth 20000 in
theorem t_X4_init_h97 {l : Launch} {G : Gl} {x : Nat × Sh × Mu} {v0 : Nat} : ∀ (f : Nat) (v1 : Int32) (n kc js : Nat) (sh : Sh) (μ : Mu), m_X4_init_h97 v0 f v1 n kc js sh μ = some x → Sj l G (QA G 25 235 x) c_X4_init n sh kc js μ 97 [some (vr v0), some (vi v1)] [] := by
  intro f
  induction f with
  | zero =>
    intro v1 n kc js sh μ h
    cases h
  | succ f ih =>
    intro v1 n kc js sh μ h
    exact t_X4_init_b97 ih h
set_option maxHeartbeats 4000000 in
set_option maxRecDepth 20000 in
theorem t_X4_init_b95 {l : Launch} {G : Gl} {x : Nat × Sh × Mu} {v0 : Nat} {n kc js : Nat} {sh : Sh} {μ : Mu} (h : m_X4_init_b95 v0 n kc js sh μ = some x) : Sj l G (QA G 25 235 x) c_X4_init n sh kc js μ 95 [some (vr v0), none] [] := by
  unfold m_X4_init_b95 at h
  refine s_iconst (pc := 95) (v := 0) d_X4_init_95 (by decide) ?_
  refine s_istore_n (pc := 96) (lc' := [some (vr v0), some (vi 0)]) d_X4_init_96 rfl (by decide) rfl ?_
  exact t_X4_init_h97 FU _ _ _ _ _ _ h
set_option maxHeartbeats 4000000 in
set_option maxRecDepth 20000 in
theorem t_X4_init_b70 {l : Launch} {G : Gl} {x : Nat × Sh × Mu} {k70 : Int32 → Nat → Nat → Nat → Sh → Mu → Option (Nat × Sh × Mu)} {v0 : Nat} {v1 : Int32} {n kc js : Nat} {sh : Sh} {μ : Mu} (hk70 : ∀ (v1 : Int32) (n kc js : Nat) (sh : Sh) (μ : Mu), k70 v1 n kc js sh μ = some x → Sj l G (QA G 25 235 x) c_X4_init n sh kc js μ 70 [some (vr v0), some (vi v1)] []) (h : m_X4_init_b70 k70 v0 v1 n kc js sh μ = some x) : Sj l G (QA G 25 235 x) c_X4_init n sh kc js μ 70 [some (vr v0), some (vi v1)] [] := by
  unfold m_X4_init_b70 at h
  refine s_iload_n (pc := 70) d_X4_init_70 rfl rfl ?_
  refine s_bipush (pc := 71) (v := 8) d_X4_init_71 (by decide) ?_
  refine s_icmp_ge (pc := 73) (tgt := 95) d_X4_init_73 (by decide) (fun c48 => ?_) (fun c48 => ?_)
  · have h := it_t c48 h
    refine s_mask [true, false] rfl ?_
    exact t_X4_init_b95 h
  · have h := it_f c48 h
    refine s_aload_n (pc := 76) d_X4_init_76 rfl rfl ?_
    obtain ⟨g49, h⟩ := gd_1 h
    refine s_getR (pc := 77) (k := 5) cl_4 d_X4_init_77 g49 (by decide) w_105 (rt_arr _) ?_
    obtain ⟨a50, ea50, h⟩ := bd_1 h
    refine s_topR ea50 ?_
    refine s_iload_n (pc := 80) d_X4_init_80 rfl rfl ?_
    obtain ⟨g51, h⟩ := gd_1 h
    refine s_new (pc := 81) cl_5 d_X4_init_81 w_55 w_57 w_4 (roomB_eq g51) ?_
    obtain ⟨n52, en52, h⟩ := bd_1 h
    obtain ⟨kc53, ekc53, h⟩ := bd_1 h
    obtain ⟨js54, ejs54, h⟩ := bd_1 h
    obtain ⟨sh55, esh55, h⟩ := bd_1 h
    obtain ⟨μ56, eμ56, h⟩ := bd_1 h
    rw [← en52]
    refine s_nsm (n' := n52) (sh' := sh55) (μ' := μ56) ⟨rfl, esh55, eμ56⟩ ?_
    refine s_as (kc' := kc53) (js' := js54) (pc' := 84) (st' := [vr n52, vi v1, vr a50]) ⟨ekc53, ejs54, rfl, rfl⟩ ?_
    refine s_dup (pc := 84) d_X4_init_84 rfl ?_
    obtain ⟨g57, h⟩ := gd_1 h
    obtain ⟨n58, sh59, μ60, ern58, h⟩ := ca3_1 h
    obtain ⟨g61, h⟩ := gd_1 h
    obtain ⟨g62, h⟩ := gd_1 h
    refine s_callIN (pc := 85) (as := []) (st := [vr n52, vi v1, vr a50]) (t_X5_init ern58) (nn0_eq g57) d_X4_init_85 y_X5_init w_n58 w_59 rfl ⟨by decide, by decide⟩ (roomB_eq g61) (Nat.le_of_ble_eq_true rfl) rfl (eq1_eq g62) ?_
    obtain ⟨kc63, ekc63, h⟩ := bd_1 h
    obtain ⟨js64, ejs64, h⟩ := bd_1 h
    refine s_as (kc' := kc63) (js' := js64) (pc' := 88) (st' := [vr n52, vi v1, vr a50]) ⟨ekc63, ejs64, rfl, rfl⟩ ?_
    obtain ⟨g65, h⟩ := gd_1 h
    obtain ⟨g66, h⟩ := gd_1 h
    refine s_aast11 (pc := 88) d_X4_init_88 g65 g66 ?_
    obtain ⟨μ67, eμ67, h⟩ := bd_1 h
    refine s_mu eμ67 ?_
    obtain ⟨w68, ew68, h⟩ := bd_1 h
    refine s_iinc (pc := 89) (v := w68) (lc' := [some (vr v0), some (vi w68)]) d_X4_init_89 rfl (by rw [ew68]; rfl) (by decide) rfl ?_
    refine s_goto (pc := 92) (tgt := 70) d_X4_init_92 (by decide) ?_
    exact hk70 _ _ _ _ _ _ h
set_option maxHeartbeats 4000000 in
set_option maxRecDepth 20000 in
theorem t_X4_init_h70 {l : Launch} {G : Gl} {x : Nat × Sh × Mu} {v0 : Nat} : ∀ (f : Nat) (v1 : Int32) (n kc js : Nat) (sh : Sh) (μ : Mu), m_X4_init_h70 v0 f v1 n kc js sh μ = some x → Sj l G (QA G 25 235 x) c_X4_init n sh kc js μ 70 [some (vr v0), some (vi v1)] [] := by
  intro f
  induction f with
  | zero =>
    intro v1 n kc js sh μ h
    cases h
  | succ f ih =>
    intro v1 n kc js sh μ h
    exact t_X4_init_b70 ih h
set_option maxHeartbeats 4000000 in
set_option maxRecDepth 20000 in
theorem t_X4_init {l : Launch} {G : Gl} {n : Nat} {sh : Sh} {x : Nat × Sh × Mu} {v0 : Nat} {μ : Mu} (h : m_X4_init n sh v0 μ = some x) : Ct l G ⟨"StripsOfFour$Scene", "<init>", "()V"⟩ prog_6_method_1_code 2 none { frames := 2, cells := 25, slots := 235, locals := 42 } n sh μ [vr v0] none x.1 x.2.1 x.2.2 := by
  refine Ct.of (lc := [some (vr v0), none]) (by decide +kernel) (Nat.le_of_ble_eq_true rfl) rfl ?_
  show Sj l G (QA G 25 235 x) c_X4_init n sh 0 0 μ 0 [some (vr v0), none] []
  unfold m_X4_init at h
  refine s_aload_n (pc := 0) d_X4_init_0 rfl rfl ?_
  obtain ⟨g1, h⟩ := gd_1 h
  refine s_objInit (pc := 1) d_X4_init_1 (nn0_eq g1) w_54 w_18 w_19 (by decide) (Nat.le_of_ble_eq_true rfl) ?_
  refine s_aload_n (pc := 4) d_X4_init_4 rfl rfl ?_
  refine s_lconst (pc := 5) (v := 0) d_X4_init_5 (by decide) ?_
  obtain ⟨g2, h⟩ := gd_1 h
  refine s_putJ (pc := 6) (k := 0) cl_4 d_X4_init_6 g2 (by decide) w_94 rfl rfl ?_
  obtain ⟨μ3, eμ3, h⟩ := bd_1 h
  refine s_mu eμ3 ?_
  refine s_aload_n (pc := 9) d_X4_init_9 rfl rfl ?_
  refine s_iconst (pc := 10) (v := 0) d_X4_init_10 (by decide) ?_
  refine s_putI (pc := 11) (k := 1) cl_4 d_X4_init_11 g2 (by decide) w_96 rfl rfl ?_
  obtain ⟨μ4, eμ4, h⟩ := bd_1 h
  refine s_mu eμ4 ?_
  refine s_aload_n (pc := 14) d_X4_init_14 rfl rfl ?_
  refine s_iconst (pc := 15) (v := 0) d_X4_init_15 (by decide) ?_
  refine s_putI (pc := 16) (k := 2) cl_4 d_X4_init_16 g2 (by decide) w_98 rfl rfl ?_
  obtain ⟨μ5, eμ5, h⟩ := bd_1 h
  refine s_mu eμ5 ?_
  refine s_aload_n (pc := 19) d_X4_init_19 rfl rfl ?_
  refine s_bipush (pc := 20) (v := (-9)) d_X4_init_20 (by decide) ?_
  refine s_putI (pc := 22) (k := 3) cl_4 d_X4_init_22 g2 (by decide) w_100 rfl rfl ?_
  obtain ⟨μ6, eμ6, h⟩ := bd_1 h
  refine s_mu eμ6 ?_
  refine s_aload_n (pc := 25) d_X4_init_25 rfl rfl ?_
  refine s_iconst (pc := 26) (v := 0) d_X4_init_26 (by decide) ?_
  refine s_putI (pc := 27) (k := 4) cl_4 d_X4_init_27 g2 (by decide) w_102 rfl rfl ?_
  obtain ⟨μ7, eμ7, h⟩ := bd_1 h
  refine s_mu eμ7 ?_
  refine s_aload_n (pc := 30) d_X4_init_30 rfl rfl ?_
  refine s_bipush (pc := 31) (v := 8) d_X4_init_31 (by decide) ?_
  obtain ⟨g8, h⟩ := gd_1 h
  refine s_newq (pc := 33) (kd := 11) (ti := 3) (N := 8) (Or.inl ⟨rfl, rfl, rfl⟩) d_X4_init_33 w_55 (by decide) (by decide) (by decide) (roomB_eq g8) ?_
  obtain ⟨n9, en9, h⟩ := bd_1 h
  obtain ⟨kc10, ekc10, h⟩ := bd_1 h
  obtain ⟨js11, ejs11, h⟩ := bd_1 h
  obtain ⟨sh12, esh12, h⟩ := bd_1 h
  obtain ⟨μ13, eμ13, h⟩ := bd_1 h
  rw [← en9]
  refine s_nsm (n' := n9) (sh' := sh12) (μ' := μ13) ⟨rfl, esh12, eμ13⟩ ?_
  refine s_as (kc' := kc10) (js' := js11) (pc' := 36) (st' := [vr n9, vr v0]) ⟨ekc10, ejs11, rfl, rfl⟩ ?_
  obtain ⟨g14, h⟩ := gd_1 h
  refine s_putFR (pc := 36) (k := 5) cl_4 d_X4_init_36 g14 (by decide) w_105 rfl rfl rfl (rt_arr _) ?_
  obtain ⟨μ15, eμ15, h⟩ := bd_1 h
  refine s_mu eμ15 ?_
  refine s_aload_n (pc := 39) d_X4_init_39 rfl rfl ?_
  refine s_iconst (pc := 40) (v := 2) d_X4_init_40 (by decide) ?_
  obtain ⟨g16, h⟩ := gd_1 h
  refine s_newq (pc := 41) (kd := 11) (ti := 3) (N := 2) (Or.inl ⟨rfl, rfl, rfl⟩) d_X4_init_41 w_55 (by decide) (by decide) (by decide) (roomB_eq g16) ?_
  obtain ⟨n17, en17, h⟩ := bd_1 h
  obtain ⟨kc18, ekc18, h⟩ := bd_1 h
  obtain ⟨js19, ejs19, h⟩ := bd_1 h
  obtain ⟨sh20, esh20, h⟩ := bd_1 h
  obtain ⟨μ21, eμ21, h⟩ := bd_1 h
  rw [← en17]
  refine s_nsm (n' := n17) (sh' := sh20) (μ' := μ21) ⟨rfl, esh20, eμ21⟩ ?_
  refine s_as (kc' := kc18) (js' := js19) (pc' := 44) (st' := [vr n17, vr v0]) ⟨ekc18, ejs19, rfl, rfl⟩ ?_
  obtain ⟨g22, h⟩ := gd_1 h
  refine s_putFR (pc := 44) (k := 6) cl_4 d_X4_init_44 g22 (by decide) w_109 rfl rfl rfl (rt_arr _) ?_
  obtain ⟨μ23, eμ23, h⟩ := bd_1 h
  refine s_mu eμ23 ?_
  refine s_aload_n (pc := 47) d_X4_init_47 rfl rfl ?_
  refine s_iconst (pc := 48) (v := 5) d_X4_init_48 (by decide) ?_
  obtain ⟨g24, h⟩ := gd_1 h
  refine s_newa (pc := 49) (kd := 8) (ty := .int) (N := 5) (Or.inl ⟨rfl, rfl⟩) d_X4_init_49 rfl w_48 (by decide) (by decide) (by decide) (roomB_eq g24) ?_
  obtain ⟨n25, en25, h⟩ := bd_1 h
  obtain ⟨kc26, ekc26, h⟩ := bd_1 h
  obtain ⟨js27, ejs27, h⟩ := bd_1 h
  obtain ⟨sh28, esh28, h⟩ := bd_1 h
  obtain ⟨μ29, eμ29, h⟩ := bd_1 h
  rw [← en25]
  refine s_nsm (n' := n25) (sh' := sh28) (μ' := μ29) ⟨rfl, esh28, eμ29⟩ ?_
  refine s_as (kc' := kc26) (js' := js27) (pc' := 51) (st' := [vr n25, vr v0]) ⟨ekc26, ejs27, rfl, rfl⟩ ?_
  obtain ⟨g30, h⟩ := gd_1 h
  refine s_putFR (pc := 51) (k := 7) cl_4 d_X4_init_51 g30 (by decide) w_110 rfl rfl rfl (rt_arr _) ?_
  obtain ⟨μ31, eμ31, h⟩ := bd_1 h
  refine s_mu eμ31 ?_
  refine s_aload_n (pc := 54) d_X4_init_54 rfl rfl ?_
  refine s_iconst (pc := 55) (v := 5) d_X4_init_55 (by decide) ?_
  obtain ⟨g32, h⟩ := gd_1 h
  refine s_newa (pc := 56) (kd := 8) (ty := .int) (N := 5) (Or.inl ⟨rfl, rfl⟩) d_X4_init_56 rfl w_48 (by decide) (by decide) (by decide) (roomB_eq g32) ?_
  obtain ⟨n33, en33, h⟩ := bd_1 h
  obtain ⟨kc34, ekc34, h⟩ := bd_1 h
  obtain ⟨js35, ejs35, h⟩ := bd_1 h
  obtain ⟨sh36, esh36, h⟩ := bd_1 h
  obtain ⟨μ37, eμ37, h⟩ := bd_1 h
  rw [← en33]
  refine s_nsm (n' := n33) (sh' := sh36) (μ' := μ37) ⟨rfl, esh36, eμ37⟩ ?_
  refine s_as (kc' := kc34) (js' := js35) (pc' := 58) (st' := [vr n33, vr v0]) ⟨ekc34, ejs35, rfl, rfl⟩ ?_
  obtain ⟨g38, h⟩ := gd_1 h
  refine s_putFR (pc := 58) (k := 8) cl_4 d_X4_init_58 g38 (by decide) w_111 rfl rfl rfl (rt_arr _) ?_
  obtain ⟨μ39, eμ39, h⟩ := bd_1 h
  refine s_mu eμ39 ?_
  refine s_aload_n (pc := 61) d_X4_init_61 rfl rfl ?_
  refine s_iconst (pc := 62) (v := 5) d_X4_init_62 (by decide) ?_
  obtain ⟨g40, h⟩ := gd_1 h
  refine s_newa (pc := 63) (kd := 8) (ty := .int) (N := 5) (Or.inl ⟨rfl, rfl⟩) d_X4_init_63 rfl w_48 (by decide) (by decide) (by decide) (roomB_eq g40) ?_
  obtain ⟨n41, en41, h⟩ := bd_1 h
  obtain ⟨kc42, ekc42, h⟩ := bd_1 h
  obtain ⟨js43, ejs43, h⟩ := bd_1 h
  obtain ⟨sh44, esh44, h⟩ := bd_1 h
  obtain ⟨μ45, eμ45, h⟩ := bd_1 h
  rw [← en41]
  refine s_nsm (n' := n41) (sh' := sh44) (μ' := μ45) ⟨rfl, esh44, eμ45⟩ ?_
  refine s_as (kc' := kc42) (js' := js43) (pc' := 65) (st' := [vr n41, vr v0]) ⟨ekc42, ejs43, rfl, rfl⟩ ?_
  obtain ⟨g46, h⟩ := gd_1 h
  refine s_putFR (pc := 65) (k := 9) cl_4 d_X4_init_65 g46 (by decide) w_112 rfl rfl rfl (rt_arr _) ?_
  obtain ⟨μ47, eμ47, h⟩ := bd_1 h
  refine s_mu eμ47 ?_
  refine s_iconst (pc := 68) (v := 0) d_X4_init_68 (by decide) ?_
  refine s_istore_n (pc := 69) (lc' := [some (vr v0), some (vi 0)]) d_X4_init_69 rfl (by decide) rfl ?_
  exact t_X4_init_h70 FU _ _ _ _ _ _ h
/-! StripsOfFour$Past.<init> -/
abbrev c_X1_init : Cf := (prog_3_method_1_code, 2, "StripsOfFour$Past", "<init>", none, { frames := 3, cells := 313, slots := 2952, locals := 63 })
theorem d_X1_init_0 : decode prog_3_method_1_code 0 = .ok (.aload_n 0, 1) := by decide +kernel
theorem d_X1_init_1 : decode prog_3_method_1_code 1 = .ok (.invokespecial 3, 3) := by decide +kernel
theorem d_X1_init_4 : decode prog_3_method_1_code 4 = .ok (.aload_n 0, 1) := by decide +kernel
theorem d_X1_init_5 : decode prog_3_method_1_code 5 = .ok (.iconst 0, 1) := by decide +kernel
theorem d_X1_init_6 : decode prog_3_method_1_code 6 = .ok (.putfield 9, 3) := by decide +kernel
theorem d_X1_init_9 : decode prog_3_method_1_code 9 = .ok (.aload_n 0, 1) := by decide +kernel
theorem d_X1_init_10 : decode prog_3_method_1_code 10 = .ok (.iconst 0, 1) := by decide +kernel
theorem d_X1_init_11 : decode prog_3_method_1_code 11 = .ok (.putfield 15, 3) := by decide +kernel
theorem d_X1_init_14 : decode prog_3_method_1_code 14 = .ok (.aload_n 0, 1) := by decide +kernel
theorem d_X1_init_15 : decode prog_3_method_1_code 15 = .ok (.bipush 12, 2) := by decide +kernel
theorem d_X1_init_17 : decode prog_3_method_1_code 17 = .ok (.anewarray 18, 3) := by decide +kernel
theorem d_X1_init_20 : decode prog_3_method_1_code 20 = .ok (.putfield 20, 3) := by decide +kernel
theorem d_X1_init_23 : decode prog_3_method_1_code 23 = .ok (.iconst 0, 1) := by decide +kernel
theorem d_X1_init_24 : decode prog_3_method_1_code 24 = .ok (.istore_n 1, 1) := by decide +kernel
theorem d_X1_init_25 : decode prog_3_method_1_code 25 = .ok (.iload_n 1, 1) := by decide +kernel
theorem d_X1_init_26 : decode prog_3_method_1_code 26 = .ok (.bipush 12, 2) := by decide +kernel
theorem d_X1_init_28 : decode prog_3_method_1_code 28 = .ok (.if_icmp .ge 22, 3) := by decide +kernel
theorem d_X1_init_31 : decode prog_3_method_1_code 31 = .ok (.aload_n 0, 1) := by decide +kernel
theorem d_X1_init_32 : decode prog_3_method_1_code 32 = .ok (.getfield 20, 3) := by decide +kernel
theorem d_X1_init_35 : decode prog_3_method_1_code 35 = .ok (.iload_n 1, 1) := by decide +kernel
theorem d_X1_init_36 : decode prog_3_method_1_code 36 = .ok (.new 18, 3) := by decide +kernel
theorem d_X1_init_39 : decode prog_3_method_1_code 39 = .ok (.dup, 1) := by decide +kernel
theorem d_X1_init_40 : decode prog_3_method_1_code 40 = .ok (.invokespecial 24, 3) := by decide +kernel
theorem d_X1_init_43 : decode prog_3_method_1_code 43 = .ok (.aastore, 1) := by decide +kernel
theorem d_X1_init_44 : decode prog_3_method_1_code 44 = .ok (.iinc 1 1, 3) := by decide +kernel
theorem d_X1_init_47 : decode prog_3_method_1_code 47 = .ok (.goto (-22), 3) := by decide +kernel
theorem d_X1_init_50 : decode prog_3_method_1_code 50 = .ok (.return_, 1) := by decide +kernel
def m_X1_init_b25 (k25 : Int32 → Nat → Nat → Nat → Sh → Mu → Option (Nat × Sh × Mu)) (v0 : Nat) (v1 : Int32) (n kc js : Nat) (sh : Sh) (μ : Mu) : Option (Nat × Sh × Mu) :=
  if 12 ≤ v1 then
    gd (eqB kc 313 js 2952) <|
    some (n, sh, μ)
  else
    gd (iz sh 1 v0) <|
    bd (gR μ v0 2) fun a16 =>
    gd (roomB (kc + 1) 313 (js + 10) 2952) <|
    bd (n + 1) fun n18 =>
    bd (kc + 1) fun kc19 =>
    bd (js + 10) fun js20 =>
    bd (shn sh n18 4 10) fun sh21 =>
    bd (zr μ n18) fun μ22 =>
    gd (nn0 n18) <|
    ca3 (m_X4_init n18 sh21 n18 μ22) fun n24 sh25 μ26 =>
    gd (roomB (kc19 + 25) 313 (js20 + 235) 2952) <|
    gd (eq1 n24 (n18 + 25)) <|
    bd (kc19 + 25) fun kc29 =>
    bd (js20 + 235) fun js30 =>
    gd (ix sh25 12 a16 v1) <|
    gd (iz sh25 4 n18) <|
    bd (sR μ26 a16 v1.toNatClampNeg n18) fun μ33 =>
    bd (v1 + 1) fun w34 =>
    k25 w34 n24 kc29 js30 sh25 μ33
def m_X1_init_h25 (v0 : Nat) : Nat → Int32 → Nat → Nat → Nat → Sh → Mu → Option (Nat × Sh × Mu)
  | 0 => fun _ _ _ _ _ _ => none
  | f + 1 => fun v1 n kc js sh μ => m_X1_init_b25 (m_X1_init_h25 v0 f) v0 v1 n kc js sh μ
def m_X1_init (n : Nat) (sh : Sh) (v0 : Nat) (μ : Mu) : Option (Nat × Sh × Mu) :=
  gd (nn0 v0) <|
  gd (iz sh 1 v0) <|
  bd (sI μ v0 0 0) fun μ3 =>
  bd (sI μ3 v0 1 0) fun μ4 =>
  gd (roomB (0 + 1) 313 (0 + 12) 2952) <|
  bd (n + 1) fun n6 =>
  bd (0 + 1) fun kc7 =>
  bd (0 + 12) fun js8 =>
  bd (shn sh n6 12 12) fun sh9 =>
  bd (zr μ4 n6) fun μ10 =>
  gd (iz sh9 1 v0) <|
  bd (sR μ10 v0 2 n6) fun μ12 =>
  m_X1_init_h25 v0 FU 0 n6 kc7 js8 sh9 μ12
set_option maxHeartbeats 4000000 in
set_option maxRecDepth 20000 in
theorem t_X1_init_b25 {l : Launch} {G : Gl} {x : Nat × Sh × Mu} {k25 : Int32 → Nat → Nat → Nat → Sh → Mu → Option (Nat × Sh × Mu)} {v0 : Nat} {v1 : Int32} {n kc js : Nat} {sh : Sh} {μ : Mu} (hk25 : ∀ (v1 : Int32) (n kc js : Nat) (sh : Sh) (μ : Mu), k25 v1 n kc js sh μ = some x → Sj l G (QA G 313 2952 x) c_X1_init n sh kc js μ 25 [some (vr v0), some (vi v1)] []) (h : m_X1_init_b25 k25 v0 v1 n kc js sh μ = some x) : Sj l G (QA G 313 2952 x) c_X1_init n sh kc js μ 25 [some (vr v0), some (vi v1)] [] := by
  unfold m_X1_init_b25 at h
  refine s_iload_n (pc := 25) d_X1_init_25 rfl rfl ?_
  refine s_bipush (pc := 26) (v := 12) d_X1_init_26 (by decide) ?_
  refine s_icmp_ge (pc := 28) (tgt := 50) d_X1_init_28 (by decide) (fun c13 => ?_) (fun c13 => ?_)
  · have h := it_t c13 h
    obtain ⟨g14, h⟩ := gd_1 h
    obtain ⟨ez1, ez2⟩ := eqB_eq g14
    obtain rfl := Option.some.inj h
    refine s_as (kc' := 313) (js' := 2952) (pc' := 50) (st' := []) ⟨ez1.symm, ez2.symm, rfl, rfl⟩ ?_
    exact s_vret (pc := 50) d_X1_init_50 rfl
  · have h := it_f c13 h
    refine s_aload_n (pc := 31) d_X1_init_31 rfl rfl ?_
    obtain ⟨g15, h⟩ := gd_1 h
    refine s_getR (pc := 32) (k := 2) cl_1 d_X1_init_32 g15 (by decide) w_146 (rt_arr _) ?_
    obtain ⟨a16, ea16, h⟩ := bd_1 h
    refine s_topR ea16 ?_
    refine s_iload_n (pc := 35) d_X1_init_35 rfl rfl ?_
    obtain ⟨g17, h⟩ := gd_1 h
    refine s_new (pc := 36) cl_4 d_X1_init_36 w_140 w_50 w_3 (roomB_eq g17) ?_
    obtain ⟨n18, en18, h⟩ := bd_1 h
    obtain ⟨kc19, ekc19, h⟩ := bd_1 h
    obtain ⟨js20, ejs20, h⟩ := bd_1 h
    obtain ⟨sh21, esh21, h⟩ := bd_1 h
    obtain ⟨μ22, eμ22, h⟩ := bd_1 h
    rw [← en18]
    refine s_nsm (n' := n18) (sh' := sh21) (μ' := μ22) ⟨rfl, esh21, eμ22⟩ ?_
    refine s_as (kc' := kc19) (js' := js20) (pc' := 39) (st' := [vr n18, vi v1, vr a16]) ⟨ekc19, ejs20, rfl, rfl⟩ ?_
    refine s_dup (pc := 39) d_X1_init_39 rfl ?_
    obtain ⟨g23, h⟩ := gd_1 h
    obtain ⟨n24, sh25, μ26, ern24, h⟩ := ca3_1 h
    obtain ⟨g27, h⟩ := gd_1 h
    obtain ⟨g28, h⟩ := gd_1 h
    refine s_callI (pc := 40) (as := []) (st := [vr n18, vi v1, vr a16]) (t_X4_init ern24) (nn0_eq g23) d_X1_init_40 y_X4_init w_142 w_52 rfl ⟨by decide, by decide⟩ (roomB_eq g27) (Nat.le_of_ble_eq_true rfl) rfl (eq1_eq g28) ?_
    obtain ⟨kc29, ekc29, h⟩ := bd_1 h
    obtain ⟨js30, ejs30, h⟩ := bd_1 h
    refine s_as (kc' := kc29) (js' := js30) (pc' := 43) (st' := [vr n18, vi v1, vr a16]) ⟨ekc29, ejs30, rfl, rfl⟩ ?_
    obtain ⟨g31, h⟩ := gd_1 h
    obtain ⟨g32, h⟩ := gd_1 h
    refine s_aast12 (pc := 43) d_X1_init_43 g31 g32 ?_
    obtain ⟨μ33, eμ33, h⟩ := bd_1 h
    refine s_mu eμ33 ?_
    obtain ⟨w34, ew34, h⟩ := bd_1 h
    refine s_iinc (pc := 44) (v := w34) (lc' := [some (vr v0), some (vi w34)]) d_X1_init_44 rfl (by rw [ew34]; rfl) (by decide) rfl ?_
    refine s_goto (pc := 47) (tgt := 25) d_X1_init_47 (by decide) ?_
    exact hk25 _ _ _ _ _ _ h
set_option maxHeartbeats 4000000 in
set_option maxRecDepth 20000 in
theorem t_X1_init_h25 {l : Launch} {G : Gl} {x : Nat × Sh × Mu} {v0 : Nat} : ∀ (f : Nat) (v1 : Int32) (n kc js : Nat) (sh : Sh) (μ : Mu), m_X1_init_h25 v0 f v1 n kc js sh μ = some x → Sj l G (QA G 313 2952 x) c_X1_init n sh kc js μ 25 [some (vr v0), some (vi v1)] [] := by
  intro f
  induction f with
  | zero =>
    intro v1 n kc js sh μ h
    cases h
  | succ f ih =>
    intro v1 n kc js sh μ h
    exact t_X1_init_b25 ih h
set_option maxHeartbeats 4000000 in
set_option maxRecDepth 20000 in
theorem t_X1_init {l : Launch} {G : Gl} {n : Nat} {sh : Sh} {x : Nat × Sh × Mu} {v0 : Nat} {μ : Mu} (h : m_X1_init n sh v0 μ = some x) : Ct l G ⟨"StripsOfFour$Past", "<init>", "()V"⟩ prog_3_method_1_code 2 none { frames := 3, cells := 313, slots := 2952, locals := 63 } n sh μ [vr v0] none x.1 x.2.1 x.2.2 := by
  refine Ct.of (lc := [some (vr v0), none]) (by decide +kernel) (Nat.le_of_ble_eq_true rfl) rfl ?_
  show Sj l G (QA G 313 2952 x) c_X1_init n sh 0 0 μ 0 [some (vr v0), none] []
  unfold m_X1_init at h
  refine s_aload_n (pc := 0) d_X1_init_0 rfl rfl ?_
  obtain ⟨g1, h⟩ := gd_1 h
  refine s_objInit (pc := 1) d_X1_init_1 (nn0_eq g1) w_139 w_18 w_19 (by decide) (Nat.le_of_ble_eq_true rfl) ?_
  refine s_aload_n (pc := 4) d_X1_init_4 rfl rfl ?_
  refine s_iconst (pc := 5) (v := 0) d_X1_init_5 (by decide) ?_
  obtain ⟨g2, h⟩ := gd_1 h
  refine s_putI (pc := 6) (k := 0) cl_1 d_X1_init_6 g2 (by decide) w_143 rfl rfl ?_
  obtain ⟨μ3, eμ3, h⟩ := bd_1 h
  refine s_mu eμ3 ?_
  refine s_aload_n (pc := 9) d_X1_init_9 rfl rfl ?_
  refine s_iconst (pc := 10) (v := 0) d_X1_init_10 (by decide) ?_
  refine s_putI (pc := 11) (k := 1) cl_1 d_X1_init_11 g2 (by decide) w_145 rfl rfl ?_
  obtain ⟨μ4, eμ4, h⟩ := bd_1 h
  refine s_mu eμ4 ?_
  refine s_aload_n (pc := 14) d_X1_init_14 rfl rfl ?_
  refine s_bipush (pc := 15) (v := 12) d_X1_init_15 (by decide) ?_
  obtain ⟨g5, h⟩ := gd_1 h
  refine s_newq (pc := 17) (kd := 12) (ti := 4) (N := 12) (Or.inr ⟨rfl, rfl, rfl⟩) d_X1_init_17 w_140 (by decide) (by decide) (by decide) (roomB_eq g5) ?_
  obtain ⟨n6, en6, h⟩ := bd_1 h
  obtain ⟨kc7, ekc7, h⟩ := bd_1 h
  obtain ⟨js8, ejs8, h⟩ := bd_1 h
  obtain ⟨sh9, esh9, h⟩ := bd_1 h
  obtain ⟨μ10, eμ10, h⟩ := bd_1 h
  rw [← en6]
  refine s_nsm (n' := n6) (sh' := sh9) (μ' := μ10) ⟨rfl, esh9, eμ10⟩ ?_
  refine s_as (kc' := kc7) (js' := js8) (pc' := 20) (st' := [vr n6, vr v0]) ⟨ekc7, ejs8, rfl, rfl⟩ ?_
  obtain ⟨g11, h⟩ := gd_1 h
  refine s_putFR (pc := 20) (k := 2) cl_1 d_X1_init_20 g11 (by decide) w_146 rfl rfl rfl (rt_arr _) ?_
  obtain ⟨μ12, eμ12, h⟩ := bd_1 h
  refine s_mu eμ12 ?_
  refine s_iconst (pc := 23) (v := 0) d_X1_init_23 (by decide) ?_
  refine s_istore_n (pc := 24) (lc' := [some (vr v0), some (vi 0)]) d_X1_init_24 rfl (by decide) rfl ?_
  exact t_X1_init_h25 FU _ _ _ _ _ _ h
/-! StripsOfFour$Scene.stepOut -/
abbrev c_X4_stepOut : Cf := (prog_6_method_14_code, 2, "StripsOfFour$Scene", "stepOut", none, { frames := 1, cells := 0, slots := 0, locals := 20 })
theorem d_X4_stepOut_0 : decode prog_6_method_14_code 0 = .ok (.iload_n 1, 1) := by decide +kernel
theorem d_X4_stepOut_1 : decode prog_6_method_14_code 1 = .ok (.invokestatic 65, 3) := by decide +kernel
theorem d_X4_stepOut_4 : decode prog_6_method_14_code 4 = .ok (.ifCond .ne 4, 3) := by decide +kernel
theorem d_X4_stepOut_7 : decode prog_6_method_14_code 7 = .ok (.return_, 1) := by decide +kernel
theorem d_X4_stepOut_8 : decode prog_6_method_14_code 8 = .ok (.aload_n 0, 1) := by decide +kernel
theorem d_X4_stepOut_9 : decode prog_6_method_14_code 9 = .ok (.getfield 41, 3) := by decide +kernel
theorem d_X4_stepOut_12 : decode prog_6_method_14_code 12 = .ok (.iload_n 1, 1) := by decide +kernel
theorem d_X4_stepOut_13 : decode prog_6_method_14_code 13 = .ok (.aload_n 0, 1) := by decide +kernel
theorem d_X4_stepOut_14 : decode prog_6_method_14_code 14 = .ok (.getfield 37, 3) := by decide +kernel
theorem d_X4_stepOut_17 : decode prog_6_method_14_code 17 = .ok (.iload_n 1, 1) := by decide +kernel
theorem d_X4_stepOut_18 : decode prog_6_method_14_code 18 = .ok (.iaload, 1) := by decide +kernel
theorem d_X4_stepOut_19 : decode prog_6_method_14_code 19 = .ok (.iastore, 1) := by decide +kernel
theorem d_X4_stepOut_20 : decode prog_6_method_14_code 20 = .ok (.aload_n 0, 1) := by decide +kernel
theorem d_X4_stepOut_21 : decode prog_6_method_14_code 21 = .ok (.getfield 44, 3) := by decide +kernel
theorem d_X4_stepOut_24 : decode prog_6_method_14_code 24 = .ok (.iload_n 1, 1) := by decide +kernel
theorem d_X4_stepOut_25 : decode prog_6_method_14_code 25 = .ok (.aload_n 0, 1) := by decide +kernel
theorem d_X4_stepOut_26 : decode prog_6_method_14_code 26 = .ok (.getfield 15, 3) := by decide +kernel
theorem d_X4_stepOut_29 : decode prog_6_method_14_code 29 = .ok (.iastore, 1) := by decide +kernel
theorem d_X4_stepOut_30 : decode prog_6_method_14_code 30 = .ok (.aload_n 0, 1) := by decide +kernel
theorem d_X4_stepOut_31 : decode prog_6_method_14_code 31 = .ok (.getfield 37, 3) := by decide +kernel
theorem d_X4_stepOut_34 : decode prog_6_method_14_code 34 = .ok (.iload_n 1, 1) := by decide +kernel
theorem d_X4_stepOut_35 : decode prog_6_method_14_code 35 = .ok (.bipush (-9), 2) := by decide +kernel
theorem d_X4_stepOut_37 : decode prog_6_method_14_code 37 = .ok (.iastore, 1) := by decide +kernel
theorem d_X4_stepOut_38 : decode prog_6_method_14_code 38 = .ok (.aload_n 0, 1) := by decide +kernel
theorem d_X4_stepOut_39 : decode prog_6_method_14_code 39 = .ok (.getfield 22, 3) := by decide +kernel
theorem d_X4_stepOut_42 : decode prog_6_method_14_code 42 = .ok (.iload_n 1, 1) := by decide +kernel
theorem d_X4_stepOut_43 : decode prog_6_method_14_code 43 = .ok (.if_icmp .ne 9, 3) := by decide +kernel
theorem d_X4_stepOut_46 : decode prog_6_method_14_code 46 = .ok (.aload_n 0, 1) := by decide +kernel
theorem d_X4_stepOut_47 : decode prog_6_method_14_code 47 = .ok (.bipush (-9), 2) := by decide +kernel
theorem d_X4_stepOut_49 : decode prog_6_method_14_code 49 = .ok (.putfield 22, 3) := by decide +kernel
theorem d_X4_stepOut_52 : decode prog_6_method_14_code 52 = .ok (.return_, 1) := by decide +kernel
def m_X4_stepOut (sh : Sh) (v0 : Nat) (v1 : Int32) (μ : Mu) : Option Mu :=
  ca2 (m_X4_isOfPeople sh v1 μ) fun r1 μ2 =>
  if r1 = 0 then
    some μ2
  else
    gd (iz sh 4 v0) <|
    bd (gR μ2 v0 8) fun a5 =>
    bd (gR μ2 v0 7) fun a6 =>
    gd (ix sh 8 a6 v1) <|
    bd (gI μ2 a6 v1.toNatClampNeg) fun w8 =>
    gd (ix sh 8 a5 v1) <|
    bd (sI μ2 a5 v1.toNatClampNeg w8) fun μ10 =>
    bd (gR μ10 v0 9) fun a11 =>
    gd (ix sh 8 a11 v1) <|
    bd (sI μ10 a11 v1.toNatClampNeg (gI μ10 v0 1)) fun μ13 =>
    bd (gR μ13 v0 7) fun a14 =>
    gd (ix sh 8 a14 v1) <|
    bd (sI μ13 a14 v1.toNatClampNeg (-9)) fun μ16 =>
    if (gI μ16 v0 3) = v1 then
      bd (sI μ16 v0 3 (-9)) fun μ18 =>
      some μ18
    else
      some μ16
set_option maxHeartbeats 4000000 in
set_option maxRecDepth 20000 in
theorem t_X4_stepOut {l : Launch} {G : Gl} {n : Nat} {sh : Sh} {x : Mu} {v0 : Nat} {v1 : Int32} {μ : Mu} (h : m_X4_stepOut sh v0 v1 μ = some x) : Ct l G ⟨"StripsOfFour$Scene", "stepOut", "(I)V"⟩ prog_6_method_14_code 2 none { frames := 1, cells := 0, slots := 0, locals := 20 } n sh μ [vr v0, vi v1] none n sh x := by
  refine Ct.of (lc := [some (vr v0), some (vi v1)]) (by decide +kernel) (Nat.le_of_ble_eq_true rfl) rfl ?_
  show Sj l G (QV G n sh x) c_X4_stepOut n sh 0 0 μ 0 [some (vr v0), some (vi v1)] []
  unfold m_X4_stepOut at h
  refine s_iload_n (pc := 0) d_X4_stepOut_0 rfl rfl ?_
  obtain ⟨r1, μ2, er1, h⟩ := ca2_1 h
  refine s_callS (pc := 1) (as := [vi v1]) (st := []) (vo := [vi r1]) (t_X4_isOfPeople er1) d_X4_stepOut_1 y_X4_isOfPeople w_326 w_327 ⟨by decide, by decide⟩ ⟨Nat.le_of_ble_eq_true rfl, Nat.le_of_ble_eq_true rfl⟩ (Nat.le_of_ble_eq_true rfl) rfl rfl rfl ?_
  refine s_as (kc' := 0) (js' := 0) (pc' := 4) (st' := [vi r1]) ⟨rfl, rfl, rfl, rfl⟩ ?_
  refine s_if_ne (pc := 4) (tgt := 8) d_X4_stepOut_4 (by decide) (fun c3 => ?_) (fun c3 => ?_)
  · have h := it_f c3 h
    refine s_aload_n (pc := 8) d_X4_stepOut_8 rfl rfl ?_
    obtain ⟨g4, h⟩ := gd_1 h
    refine s_getR (pc := 9) (k := 8) cl_4 d_X4_stepOut_9 g4 (by decide) w_111 (rt_arr _) ?_
    obtain ⟨a5, ea5, h⟩ := bd_1 h
    refine s_topR ea5 ?_
    refine s_iload_n (pc := 12) d_X4_stepOut_12 rfl rfl ?_
    refine s_aload_n (pc := 13) d_X4_stepOut_13 rfl rfl ?_
    refine s_getR (pc := 14) (k := 7) cl_4 d_X4_stepOut_14 g4 (by decide) w_110 (rt_arr _) ?_
    obtain ⟨a6, ea6, h⟩ := bd_1 h
    refine s_topR ea6 ?_
    refine s_iload_n (pc := 17) d_X4_stepOut_17 rfl rfl ?_
    obtain ⟨g7, h⟩ := gd_1 h
    refine s_iald (pc := 18) d_X4_stepOut_18 g7 ?_
    obtain ⟨w8, ew8, h⟩ := bd_1 h
    refine s_topI ew8 ?_
    obtain ⟨g9, h⟩ := gd_1 h
    refine s_iast (pc := 19) d_X4_stepOut_19 g9 ?_
    obtain ⟨μ10, eμ10, h⟩ := bd_1 h
    refine s_mu eμ10 ?_
    refine s_aload_n (pc := 20) d_X4_stepOut_20 rfl rfl ?_
    refine s_getR (pc := 21) (k := 9) cl_4 d_X4_stepOut_21 g4 (by decide) w_112 (rt_arr _) ?_
    obtain ⟨a11, ea11, h⟩ := bd_1 h
    refine s_topR ea11 ?_
    refine s_iload_n (pc := 24) d_X4_stepOut_24 rfl rfl ?_
    refine s_aload_n (pc := 25) d_X4_stepOut_25 rfl rfl ?_
    refine s_getI (pc := 26) (k := 1) cl_4 d_X4_stepOut_26 g4 (by decide) w_96 rfl ?_
    obtain ⟨g12, h⟩ := gd_1 h
    refine s_iast (pc := 29) d_X4_stepOut_29 g12 ?_
    obtain ⟨μ13, eμ13, h⟩ := bd_1 h
    refine s_mu eμ13 ?_
    refine s_aload_n (pc := 30) d_X4_stepOut_30 rfl rfl ?_
    refine s_getR (pc := 31) (k := 7) cl_4 d_X4_stepOut_31 g4 (by decide) w_110 (rt_arr _) ?_
    obtain ⟨a14, ea14, h⟩ := bd_1 h
    refine s_topR ea14 ?_
    refine s_iload_n (pc := 34) d_X4_stepOut_34 rfl rfl ?_
    refine s_bipush (pc := 35) (v := (-9)) d_X4_stepOut_35 (by decide) ?_
    obtain ⟨g15, h⟩ := gd_1 h
    refine s_iast (pc := 37) d_X4_stepOut_37 g15 ?_
    obtain ⟨μ16, eμ16, h⟩ := bd_1 h
    refine s_mu eμ16 ?_
    refine s_aload_n (pc := 38) d_X4_stepOut_38 rfl rfl ?_
    refine s_getI (pc := 39) (k := 3) cl_4 d_X4_stepOut_39 g4 (by decide) w_100 rfl ?_
    refine s_iload_n (pc := 42) d_X4_stepOut_42 rfl rfl ?_
    refine s_icmp_ne (pc := 43) (tgt := 52) d_X4_stepOut_43 (by decide) (fun c17 => ?_) (fun c17 => ?_)
    · have h := it_f c17 h
      obtain rfl := Option.some.inj h
      exact s_vret (pc := 52) d_X4_stepOut_52 rfl
    · have h := it_t c17 h
      refine s_aload_n (pc := 46) d_X4_stepOut_46 rfl rfl ?_
      refine s_bipush (pc := 47) (v := (-9)) d_X4_stepOut_47 (by decide) ?_
      refine s_putI (pc := 49) (k := 3) cl_4 d_X4_stepOut_49 g4 (by decide) w_100 rfl rfl ?_
      obtain ⟨μ18, eμ18, h⟩ := bd_1 h
      refine s_mu eμ18 ?_
      obtain rfl := Option.some.inj h
      exact s_vret (pc := 52) d_X4_stepOut_52 rfl
  · have h := it_t c3 h
    obtain rfl := Option.some.inj h
    exact s_vret (pc := 7) d_X4_stepOut_7 rfl
/-! StripsOfFour$Scene.drawBlinks -/
abbrev c_X4_drawBlinks : Cf := (prog_6_method_16_code, 5, "StripsOfFour$Scene", "drawBlinks", (some .int), { frames := 2, cells := 0, slots := 0, locals := 42 })
theorem d_X4_drawBlinks_0 : decode prog_6_method_16_code 0 = .ok (.iconst 0, 1) := by decide +kernel
theorem d_X4_drawBlinks_1 : decode prog_6_method_16_code 1 = .ok (.istore_n 3, 1) := by decide +kernel
theorem d_X4_drawBlinks_2 : decode prog_6_method_16_code 2 = .ok (.iconst 0, 1) := by decide +kernel
theorem d_X4_drawBlinks_3 : decode prog_6_method_16_code 3 = .ok (.istore 4, 2) := by decide +kernel
theorem d_X4_drawBlinks_5 : decode prog_6_method_16_code 5 = .ok (.iload 4, 2) := by decide +kernel
theorem d_X4_drawBlinks_7 : decode prog_6_method_16_code 7 = .ok (.iconst 5, 1) := by decide +kernel
theorem d_X4_drawBlinks_8 : decode prog_6_method_16_code 8 = .ok (.if_icmp .ge 63, 3) := by decide +kernel
theorem d_X4_drawBlinks_11 : decode prog_6_method_16_code 11 = .ok (.iload_n 2, 1) := by decide +kernel
theorem d_X4_drawBlinks_12 : decode prog_6_method_16_code 12 = .ok (.iload 4, 2) := by decide +kernel
theorem d_X4_drawBlinks_14 : decode prog_6_method_16_code 14 = .ok (.invokestatic 91, 3) := by decide +kernel
theorem d_X4_drawBlinks_17 : decode prog_6_method_16_code 17 = .ok (.ifCond .eq 48, 3) := by decide +kernel
theorem d_X4_drawBlinks_20 : decode prog_6_method_16_code 20 = .ok (.aload_n 0, 1) := by decide +kernel
theorem d_X4_drawBlinks_21 : decode prog_6_method_16_code 21 = .ok (.aload_n 0, 1) := by decide +kernel
theorem d_X4_drawBlinks_22 : decode prog_6_method_16_code 22 = .ok (.getfield 9, 3) := by decide +kernel
theorem d_X4_drawBlinks_25 : decode prog_6_method_16_code 25 = .ok (.ldc2_w 102, 3) := by decide +kernel
theorem d_X4_drawBlinks_28 : decode prog_6_method_16_code 28 = .ok (.lmul, 1) := by decide +kernel
theorem d_X4_drawBlinks_29 : decode prog_6_method_16_code 29 = .ok (.ldc2_w 104, 3) := by decide +kernel
theorem d_X4_drawBlinks_32 : decode prog_6_method_16_code 32 = .ok (.ladd, 1) := by decide +kernel
theorem d_X4_drawBlinks_33 : decode prog_6_method_16_code 33 = .ok (.putfield 9, 3) := by decide +kernel
theorem d_X4_drawBlinks_36 : decode prog_6_method_16_code 36 = .ok (.aload_n 0, 1) := by decide +kernel
theorem d_X4_drawBlinks_37 : decode prog_6_method_16_code 37 = .ok (.getfield 9, 3) := by decide +kernel
theorem d_X4_drawBlinks_40 : decode prog_6_method_16_code 40 = .ok (.bipush 33, 2) := by decide +kernel
theorem d_X4_drawBlinks_42 : decode prog_6_method_16_code 42 = .ok (.lushr, 1) := by decide +kernel
theorem d_X4_drawBlinks_43 : decode prog_6_method_16_code 43 = .ok (.ldc2_w 106, 3) := by decide +kernel
theorem d_X4_drawBlinks_46 : decode prog_6_method_16_code 46 = .ok (.lrem, 1) := by decide +kernel
theorem d_X4_drawBlinks_47 : decode prog_6_method_16_code 47 = .ok (.aload_n 1, 1) := by decide +kernel
theorem d_X4_drawBlinks_48 : decode prog_6_method_16_code 48 = .ok (.iload 4, 2) := by decide +kernel
theorem d_X4_drawBlinks_50 : decode prog_6_method_16_code 50 = .ok (.invokevirtual 108, 3) := by decide +kernel
theorem d_X4_drawBlinks_53 : decode prog_6_method_16_code 53 = .ok (.i2l, 1) := by decide +kernel
theorem d_X4_drawBlinks_54 : decode prog_6_method_16_code 54 = .ok (.lcmp, 1) := by decide +kernel
theorem d_X4_drawBlinks_55 : decode prog_6_method_16_code 55 = .ok (.ifCond .ge 10, 3) := by decide +kernel
theorem d_X4_drawBlinks_58 : decode prog_6_method_16_code 58 = .ok (.iload_n 3, 1) := by decide +kernel
theorem d_X4_drawBlinks_59 : decode prog_6_method_16_code 59 = .ok (.iconst 1, 1) := by decide +kernel
theorem d_X4_drawBlinks_60 : decode prog_6_method_16_code 60 = .ok (.iload 4, 2) := by decide +kernel
theorem d_X4_drawBlinks_62 : decode prog_6_method_16_code 62 = .ok (.ishl, 1) := by decide +kernel
theorem d_X4_drawBlinks_63 : decode prog_6_method_16_code 63 = .ok (.ior, 1) := by decide +kernel
theorem d_X4_drawBlinks_64 : decode prog_6_method_16_code 64 = .ok (.istore_n 3, 1) := by decide +kernel
theorem d_X4_drawBlinks_65 : decode prog_6_method_16_code 65 = .ok (.iinc 4 1, 3) := by decide +kernel
theorem d_X4_drawBlinks_68 : decode prog_6_method_16_code 68 = .ok (.goto (-63), 3) := by decide +kernel
theorem d_X4_drawBlinks_71 : decode prog_6_method_16_code 71 = .ok (.iload_n 3, 1) := by decide +kernel
theorem d_X4_drawBlinks_72 : decode prog_6_method_16_code 72 = .ok (.ireturn, 1) := by decide +kernel
def m_X4_drawBlinks_b65 (sh : Sh) (k5 : Int32 → Int32 → Mu → Option (Int32 × Mu)) (v0 : Nat) (v1 : Nat) (v2 : Int32) (v3 : Int32) (v4 : Int32) (μ : Mu) : Option (Int32 × Mu) :=
  bd (v4 + 1) fun w13 =>
  k5 v3 w13 μ
def m_X4_drawBlinks_b5 (sh : Sh) (k5 : Int32 → Int32 → Mu → Option (Int32 × Mu)) (v0 : Nat) (v1 : Nat) (v2 : Int32) (v3 : Int32) (v4 : Int32) (μ : Mu) : Option (Int32 × Mu) :=
  if 5 ≤ v4 then
    some (v3, μ)
  else
    ca2 (m_X6_has sh v2 v4 μ) fun r2 μ3 =>
    if r2 = 0 then
      m_X4_drawBlinks_b65 sh k5 v0 v1 v2 v3 v4 μ3
    else
      gd (iz sh 4 v0) <|
      bd (sJ μ3 v0 0 (((gJ μ3 v0 0) * 6364136223846793005) + 1442695040888963407)) fun μ6 =>
      gd (nzJ 10) <|
      gd (iz sh 2 v1) <|
      ca2 (m_X2_tenthsOf sh v1 v4 μ6) fun r9 μ10 =>
      if 0 ≤ (lg_cmp ((((gJ μ6 v0 0).toUInt64 >>> ((33 : Int32).toInt64.toUInt64 &&& Int64.toUInt64 63)).toInt64) - (((gJ μ6 v0 0).toUInt64 >>> ((33 : Int32).toInt64.toUInt64 &&& Int64.toUInt64 63)).toInt64) / 10 * 10) (r9.toInt64)) then
        m_X4_drawBlinks_b65 sh k5 v0 v1 v2 v3 v4 μ10
      else
        bd (v3 ||| (1 <<< (v4 &&& 31))) fun w12 =>
        m_X4_drawBlinks_b65 sh k5 v0 v1 v2 w12 v4 μ10
def m_X4_drawBlinks_h5 (sh : Sh) (v0 : Nat) (v1 : Nat) (v2 : Int32) : Nat → Int32 → Int32 → Mu → Option (Int32 × Mu)
  | 0 => fun _ _ _ => none
  | f + 1 => fun v3 v4 μ => m_X4_drawBlinks_b5 sh (m_X4_drawBlinks_h5 sh v0 v1 v2 f) v0 v1 v2 v3 v4 μ
def m_X4_drawBlinks (sh : Sh) (v0 : Nat) (v1 : Nat) (v2 : Int32) (μ : Mu) : Option (Int32 × Mu) :=
  m_X4_drawBlinks_h5 sh v0 v1 v2 FU 0 0 μ
set_option maxHeartbeats 4000000 in
set_option maxRecDepth 20000 in
theorem t_X4_drawBlinks_b65 {l : Launch} {G : Gl} {n : Nat} {sh : Sh} {x : Int32 × Mu} {k5 : Int32 → Int32 → Mu → Option (Int32 × Mu)} {v0 : Nat} {v1 : Nat} {v2 : Int32} {v3 : Int32} {v4 : Int32} {μ : Mu} (hk5 : ∀ (v3 : Int32) (v4 : Int32) (μ : Mu), k5 v3 v4 μ = some x → Sj l G (QI G n sh x) c_X4_drawBlinks n sh 0 0 μ 5 [some (vr v0), some (vr v1), some (vi v2), some (vi v3), some (vi v4)] []) (h : m_X4_drawBlinks_b65 sh k5 v0 v1 v2 v3 v4 μ = some x) : Sj l G (QI G n sh x) c_X4_drawBlinks n sh 0 0 μ 65 [some (vr v0), some (vr v1), some (vi v2), some (vi v3), some (vi v4)] [] := by
  unfold m_X4_drawBlinks_b65 at h
  obtain ⟨w13, ew13, h⟩ := bd_1 h
  refine s_iinc (pc := 65) (v := w13) (lc' := [some (vr v0), some (vr v1), some (vi v2), some (vi v3), some (vi w13)]) d_X4_drawBlinks_65 rfl (by rw [ew13]; rfl) (by decide) rfl ?_
  refine s_goto (pc := 68) (tgt := 5) d_X4_drawBlinks_68 (by decide) ?_
  exact hk5 _ _ _ h
set_option maxHeartbeats 4000000 in
set_option maxRecDepth 20000 in
theorem t_X4_drawBlinks_b5 {l : Launch} {G : Gl} {n : Nat} {sh : Sh} {x : Int32 × Mu} {k5 : Int32 → Int32 → Mu → Option (Int32 × Mu)} {v0 : Nat} {v1 : Nat} {v2 : Int32} {v3 : Int32} {v4 : Int32} {μ : Mu} (hk5 : ∀ (v3 : Int32) (v4 : Int32) (μ : Mu), k5 v3 v4 μ = some x → Sj l G (QI G n sh x) c_X4_drawBlinks n sh 0 0 μ 5 [some (vr v0), some (vr v1), some (vi v2), some (vi v3), some (vi v4)] []) (h : m_X4_drawBlinks_b5 sh k5 v0 v1 v2 v3 v4 μ = some x) : Sj l G (QI G n sh x) c_X4_drawBlinks n sh 0 0 μ 5 [some (vr v0), some (vr v1), some (vi v2), some (vi v3), some (vi v4)] [] := by
  unfold m_X4_drawBlinks_b5 at h
  refine s_iload (pc := 5) d_X4_drawBlinks_5 rfl ?_
  refine s_iconst (pc := 7) (v := 5) d_X4_drawBlinks_7 (by decide) ?_
  refine s_icmp_ge (pc := 8) (tgt := 71) d_X4_drawBlinks_8 (by decide) (fun c1 => ?_) (fun c1 => ?_)
  · have h := it_t c1 h
    refine s_iload_n (pc := 71) d_X4_drawBlinks_71 rfl rfl ?_
    obtain rfl := Option.some.inj h
    exact s_iret (pc := 72) d_X4_drawBlinks_72 rfl
  · have h := it_f c1 h
    refine s_iload_n (pc := 11) d_X4_drawBlinks_11 rfl rfl ?_
    refine s_iload (pc := 12) d_X4_drawBlinks_12 rfl ?_
    obtain ⟨r2, μ3, er2, h⟩ := ca2_1 h
    refine s_callSN (pc := 14) (as := [vi v2, vi v4]) (st := []) (vo := [vi r2]) (t_X6_has er2) d_X4_drawBlinks_14 y_X6_has w_n425 w_426 ⟨by decide, by decide⟩ ⟨Nat.le_of_ble_eq_true rfl, Nat.le_of_ble_eq_true rfl⟩ (Nat.le_of_ble_eq_true rfl) rfl rfl rfl ?_
    refine s_as (kc' := 0) (js' := 0) (pc' := 17) (st' := [vi r2]) ⟨rfl, rfl, rfl, rfl⟩ ?_
    refine s_if_eq (pc := 17) (tgt := 65) d_X4_drawBlinks_17 (by decide) (fun c4 => ?_) (fun c4 => ?_)
    · have h := it_t c4 h
      exact t_X4_drawBlinks_b65 hk5 h
    · have h := it_f c4 h
      refine s_aload_n (pc := 20) d_X4_drawBlinks_20 rfl rfl ?_
      refine s_aload_n (pc := 21) d_X4_drawBlinks_21 rfl rfl ?_
      obtain ⟨g5, h⟩ := gd_1 h
      refine s_getJ (pc := 22) (k := 0) cl_4 d_X4_drawBlinks_22 g5 (by decide) w_94 rfl ?_
      refine s_ldc2 (pc := 25) (v := 6364136223846793005) d_X4_drawBlinks_25 w_432 ?_
      refine s_lmul (pc := 28) d_X4_drawBlinks_28 ?_
      refine s_ldc2 (pc := 29) (v := 1442695040888963407) d_X4_drawBlinks_29 w_433 ?_
      refine s_ladd (pc := 32) d_X4_drawBlinks_32 ?_
      refine s_putJ (pc := 33) (k := 0) cl_4 d_X4_drawBlinks_33 g5 (by decide) w_94 rfl rfl ?_
      obtain ⟨μ6, eμ6, h⟩ := bd_1 h
      refine s_mu eμ6 ?_
      refine s_aload_n (pc := 36) d_X4_drawBlinks_36 rfl rfl ?_
      refine s_getJ (pc := 37) (k := 0) cl_4 d_X4_drawBlinks_37 g5 (by decide) w_94 rfl ?_
      refine s_bipush (pc := 40) (v := 33) d_X4_drawBlinks_40 (by decide) ?_
      refine s_lushr (pc := 42) d_X4_drawBlinks_42 ?_
      refine s_ldc2 (pc := 43) (v := 10) d_X4_drawBlinks_43 w_434 ?_
      obtain ⟨g7, h⟩ := gd_1 h
      refine s_lrem (pc := 46) d_X4_drawBlinks_46 (nzJ_eq g7) ?_
      refine s_aload_n (pc := 47) d_X4_drawBlinks_47 rfl rfl ?_
      refine s_iload (pc := 48) d_X4_drawBlinks_48 rfl ?_
      obtain ⟨g8, h⟩ := gd_1 h
      obtain ⟨r9, μ10, er9, h⟩ := ca2_1 h
      refine s_callV (pc := 50) (as := [vi v4]) (st := [vl ((((gJ μ6 v0 0).toUInt64 >>> ((33 : Int32).toInt64.toUInt64 &&& Int64.toUInt64 63)).toInt64) - (((gJ μ6 v0 0).toUInt64 >>> ((33 : Int32).toInt64.toUInt64 &&& Int64.toUInt64 63)).toInt64) / 10 * 10)]) (vo := [vi r9]) (t_X2_tenthsOf er9) cl_2 g8 d_X4_drawBlinks_50 y_X2_tenthsOf w_435 w_319 w_320 ⟨by decide, by decide⟩ ⟨Nat.le_of_ble_eq_true rfl, Nat.le_of_ble_eq_true rfl⟩ (Nat.le_of_ble_eq_true rfl) rfl rfl rfl ?_
      refine s_as (kc' := 0) (js' := 0) (pc' := 53) (st' := [vi r9, vl ((((gJ μ6 v0 0).toUInt64 >>> ((33 : Int32).toInt64.toUInt64 &&& Int64.toUInt64 63)).toInt64) - (((gJ μ6 v0 0).toUInt64 >>> ((33 : Int32).toInt64.toUInt64 &&& Int64.toUInt64 63)).toInt64) / 10 * 10)]) ⟨rfl, rfl, rfl, rfl⟩ ?_
      refine s_i2l (pc := 53) d_X4_drawBlinks_53 ?_
      refine s_lcmp (pc := 54) d_X4_drawBlinks_54 ?_
      refine s_if_ge (pc := 55) (tgt := 65) d_X4_drawBlinks_55 (by decide) (fun c11 => ?_) (fun c11 => ?_)
      · have h := it_t c11 h
        exact t_X4_drawBlinks_b65 hk5 h
      · have h := it_f c11 h
        refine s_iload_n (pc := 58) d_X4_drawBlinks_58 rfl rfl ?_
        refine s_iconst (pc := 59) (v := 1) d_X4_drawBlinks_59 (by decide) ?_
        refine s_iload (pc := 60) d_X4_drawBlinks_60 rfl ?_
        refine s_ishl (pc := 62) d_X4_drawBlinks_62 ?_
        refine s_ior (pc := 63) d_X4_drawBlinks_63 ?_
        obtain ⟨w12, ew12, h⟩ := bd_1 h
        refine s_topI ew12 ?_
        refine s_istore_n (pc := 64) (lc' := [some (vr v0), some (vr v1), some (vi v2), some (vi w12), some (vi v4)]) d_X4_drawBlinks_64 rfl (by decide) rfl ?_
        exact t_X4_drawBlinks_b65 hk5 h
set_option maxHeartbeats 4000000 in
set_option maxRecDepth 20000 in
theorem t_X4_drawBlinks_h5 {l : Launch} {G : Gl} {n : Nat} {sh : Sh} {x : Int32 × Mu} {v0 : Nat} {v1 : Nat} {v2 : Int32} : ∀ (f : Nat) (v3 : Int32) (v4 : Int32) (μ : Mu), m_X4_drawBlinks_h5 sh v0 v1 v2 f v3 v4 μ = some x → Sj l G (QI G n sh x) c_X4_drawBlinks n sh 0 0 μ 5 [some (vr v0), some (vr v1), some (vi v2), some (vi v3), some (vi v4)] [] := by
  intro f
  induction f with
  | zero =>
    intro v3 v4 μ h
    cases h
  | succ f ih =>
    intro v3 v4 μ h
    exact t_X4_drawBlinks_b5 ih h
set_option maxHeartbeats 4000000 in
set_option maxRecDepth 20000 in
theorem t_X4_drawBlinks {l : Launch} {G : Gl} {n : Nat} {sh : Sh} {x : Int32 × Mu} {v0 : Nat} {v1 : Nat} {v2 : Int32} {μ : Mu} (h : m_X4_drawBlinks sh v0 v1 v2 μ = some x) : Ct l G ⟨"StripsOfFour$Scene", "drawBlinks", "(LStripsOfFour$Plan;I)I"⟩ prog_6_method_16_code 5 (some .int) { frames := 2, cells := 0, slots := 0, locals := 42 } n sh μ [vr v0, vr v1, vi v2] (some (.int x.1)) n sh x.2 := by
  refine Ct.of (lc := [some (vr v0), some (vr v1), some (vi v2), none, none]) (by decide +kernel) (Nat.le_of_ble_eq_true rfl) rfl ?_
  show Sj l G (QI G n sh x) c_X4_drawBlinks n sh 0 0 μ 0 [some (vr v0), some (vr v1), some (vi v2), none, none] []
  unfold m_X4_drawBlinks at h
  refine s_iconst (pc := 0) (v := 0) d_X4_drawBlinks_0 (by decide) ?_
  refine s_istore_n (pc := 1) (lc' := [some (vr v0), some (vr v1), some (vi v2), some (vi 0), none]) d_X4_drawBlinks_1 rfl (by decide) rfl ?_
  refine s_iconst (pc := 2) (v := 0) d_X4_drawBlinks_2 (by decide) ?_
  refine s_istore (pc := 3) (lc' := [some (vr v0), some (vr v1), some (vi v2), some (vi 0), some (vi 0)]) d_X4_drawBlinks_3 (by decide) rfl ?_
  exact t_X4_drawBlinks_h5 FU _ _ _ h
/-! StripsOfFour$Scene.flash -/
abbrev c_X4_flash : Cf := (prog_6_method_15_code, 5, "StripsOfFour$Scene", "flash", (some .int), { frames := 4, cells := 0, slots := 0, locals := 89 })
theorem d_X4_flash_0 : decode prog_6_method_15_code 0 = .ok (.iload_n 2, 1) := by decide +kernel
theorem d_X4_flash_1 : decode prog_6_method_15_code 1 = .ok (.ifCond .lt 24, 3) := by decide +kernel
theorem d_X4_flash_4 : decode prog_6_method_15_code 4 = .ok (.iload_n 2, 1) := by decide +kernel
theorem d_X4_flash_5 : decode prog_6_method_15_code 5 = .ok (.iconst 2, 1) := by decide +kernel
theorem d_X4_flash_6 : decode prog_6_method_15_code 6 = .ok (.if_icmp .ge 19, 3) := by decide +kernel
theorem d_X4_flash_9 : decode prog_6_method_15_code 9 = .ok (.aload_n 0, 1) := by decide +kernel
theorem d_X4_flash_10 : decode prog_6_method_15_code 10 = .ok (.getfield 25, 3) := by decide +kernel
theorem d_X4_flash_13 : decode prog_6_method_15_code 13 = .ok (.ifCond .lt 12, 3) := by decide +kernel
theorem d_X4_flash_16 : decode prog_6_method_15_code 16 = .ok (.aload_n 0, 1) := by decide +kernel
theorem d_X4_flash_17 : decode prog_6_method_15_code 17 = .ok (.getfield 25, 3) := by decide +kernel
theorem d_X4_flash_20 : decode prog_6_method_15_code 20 = .ok (.bipush 8, 2) := by decide +kernel
theorem d_X4_flash_22 : decode prog_6_method_15_code 22 = .ok (.if_icmp .lt 5, 3) := by decide +kernel
theorem d_X4_flash_25 : decode prog_6_method_15_code 25 = .ok (.iconst 0, 1) := by decide +kernel
theorem d_X4_flash_26 : decode prog_6_method_15_code 26 = .ok (.ireturn, 1) := by decide +kernel
theorem d_X4_flash_27 : decode prog_6_method_15_code 27 = .ok (.aload_n 0, 1) := by decide +kernel
theorem d_X4_flash_28 : decode prog_6_method_15_code 28 = .ok (.getfield 34, 3) := by decide +kernel
theorem d_X4_flash_31 : decode prog_6_method_15_code 31 = .ok (.iload_n 2, 1) := by decide +kernel
theorem d_X4_flash_32 : decode prog_6_method_15_code 32 = .ok (.aaload, 1) := by decide +kernel
theorem d_X4_flash_33 : decode prog_6_method_15_code 33 = .ok (.astore_n 3, 1) := by decide +kernel
theorem d_X4_flash_34 : decode prog_6_method_15_code 34 = .ok (.aload_n 0, 1) := by decide +kernel
theorem d_X4_flash_35 : decode prog_6_method_15_code 35 = .ok (.iload_n 2, 1) := by decide +kernel
theorem d_X4_flash_36 : decode prog_6_method_15_code 36 = .ok (.invokevirtual 82, 3) := by decide +kernel
theorem d_X4_flash_39 : decode prog_6_method_15_code 39 = .ok (.istore 4, 2) := by decide +kernel
theorem d_X4_flash_41 : decode prog_6_method_15_code 41 = .ok (.aload_n 1, 1) := by decide +kernel
theorem d_X4_flash_42 : decode prog_6_method_15_code 42 = .ok (.iload_n 2, 1) := by decide +kernel
theorem d_X4_flash_43 : decode prog_6_method_15_code 43 = .ok (.aload_n 0, 1) := by decide +kernel
theorem d_X4_flash_44 : decode prog_6_method_15_code 44 = .ok (.getfield 15, 3) := by decide +kernel
theorem d_X4_flash_47 : decode prog_6_method_15_code 47 = .ok (.invokevirtual 85, 3) := by decide +kernel
theorem d_X4_flash_50 : decode prog_6_method_15_code 50 = .ok (.ifCond .eq 15, 3) := by decide +kernel
theorem d_X4_flash_53 : decode prog_6_method_15_code 53 = .ok (.iload 4, 2) := by decide +kernel
theorem d_X4_flash_55 : decode prog_6_method_15_code 55 = .ok (.ifCond .ne 12, 3) := by decide +kernel
theorem d_X4_flash_58 : decode prog_6_method_15_code 58 = .ok (.aload_n 3, 1) := by decide +kernel
theorem d_X4_flash_59 : decode prog_6_method_15_code 59 = .ok (.getfield 76, 3) := by decide +kernel
theorem d_X4_flash_62 : decode prog_6_method_15_code 62 = .ok (.ifCond .ne 5, 3) := by decide +kernel
theorem d_X4_flash_65 : decode prog_6_method_15_code 65 = .ok (.iconst 0, 1) := by decide +kernel
theorem d_X4_flash_66 : decode prog_6_method_15_code 66 = .ok (.ireturn, 1) := by decide +kernel
theorem d_X4_flash_67 : decode prog_6_method_15_code 67 = .ok (.aload_n 3, 1) := by decide +kernel
theorem d_X4_flash_68 : decode prog_6_method_15_code 68 = .ok (.aload_n 0, 1) := by decide +kernel
theorem d_X4_flash_69 : decode prog_6_method_15_code 69 = .ok (.getfield 15, 3) := by decide +kernel
theorem d_X4_flash_72 : decode prog_6_method_15_code 72 = .ok (.iload 4, 2) := by decide +kernel
theorem d_X4_flash_74 : decode prog_6_method_15_code 74 = .ok (.iload 4, 2) := by decide +kernel
theorem d_X4_flash_76 : decode prog_6_method_15_code 76 = .ok (.aload_n 0, 1) := by decide +kernel
theorem d_X4_flash_77 : decode prog_6_method_15_code 77 = .ok (.getfield 22, 3) := by decide +kernel
theorem d_X4_flash_80 : decode prog_6_method_15_code 80 = .ok (.invokestatic 91, 3) := by decide +kernel
theorem d_X4_flash_83 : decode prog_6_method_15_code 83 = .ok (.ifCond .eq 10, 3) := by decide +kernel
theorem d_X4_flash_86 : decode prog_6_method_15_code 86 = .ok (.aload_n 0, 1) := by decide +kernel
theorem d_X4_flash_87 : decode prog_6_method_15_code 87 = .ok (.getfield 22, 3) := by decide +kernel
theorem d_X4_flash_90 : decode prog_6_method_15_code 90 = .ok (.goto 5, 3) := by decide +kernel
theorem d_X4_flash_93 : decode prog_6_method_15_code 93 = .ok (.bipush (-9), 2) := by decide +kernel
theorem d_X4_flash_95 : decode prog_6_method_15_code 95 = .ok (.aload_n 0, 1) := by decide +kernel
theorem d_X4_flash_96 : decode prog_6_method_15_code 96 = .ok (.aload_n 1, 1) := by decide +kernel
theorem d_X4_flash_97 : decode prog_6_method_15_code 97 = .ok (.iload 4, 2) := by decide +kernel
theorem d_X4_flash_99 : decode prog_6_method_15_code 99 = .ok (.invokevirtual 94, 3) := by decide +kernel
theorem d_X4_flash_102 : decode prog_6_method_15_code 102 = .ok (.invokevirtual 98, 3) := by decide +kernel
theorem d_X4_flash_105 : decode prog_6_method_15_code 105 = .ok (.aload_n 3, 1) := by decide +kernel
theorem d_X4_flash_106 : decode prog_6_method_15_code 106 = .ok (.getfield 76, 3) := by decide +kernel
theorem d_X4_flash_109 : decode prog_6_method_15_code 109 = .ok (.iconst 4, 1) := by decide +kernel
theorem d_X4_flash_110 : decode prog_6_method_15_code 110 = .ok (.if_icmp .ge 5, 3) := by decide +kernel
theorem d_X4_flash_113 : decode prog_6_method_15_code 113 = .ok (.iconst 0, 1) := by decide +kernel
theorem d_X4_flash_114 : decode prog_6_method_15_code 114 = .ok (.ireturn, 1) := by decide +kernel
theorem d_X4_flash_115 : decode prog_6_method_15_code 115 = .ok (.aload_n 0, 1) := by decide +kernel
theorem d_X4_flash_116 : decode prog_6_method_15_code 116 = .ok (.getfield 30, 3) := by decide +kernel
theorem d_X4_flash_119 : decode prog_6_method_15_code 119 = .ok (.aload_n 0, 1) := by decide +kernel
theorem d_X4_flash_120 : decode prog_6_method_15_code 120 = .ok (.getfield 25, 3) := by decide +kernel
theorem d_X4_flash_123 : decode prog_6_method_15_code 123 = .ok (.aaload, 1) := by decide +kernel
theorem d_X4_flash_124 : decode prog_6_method_15_code 124 = .ok (.aload_n 3, 1) := by decide +kernel
theorem d_X4_flash_125 : decode prog_6_method_15_code 125 = .ok (.invokevirtual 55, 3) := by decide +kernel
theorem d_X4_flash_128 : decode prog_6_method_15_code 128 = .ok (.aload_n 0, 1) := by decide +kernel
theorem d_X4_flash_129 : decode prog_6_method_15_code 129 = .ok (.dup, 1) := by decide +kernel
theorem d_X4_flash_130 : decode prog_6_method_15_code 130 = .ok (.getfield 25, 3) := by decide +kernel
theorem d_X4_flash_133 : decode prog_6_method_15_code 133 = .ok (.iconst 1, 1) := by decide +kernel
theorem d_X4_flash_134 : decode prog_6_method_15_code 134 = .ok (.iadd, 1) := by decide +kernel
theorem d_X4_flash_135 : decode prog_6_method_15_code 135 = .ok (.putfield 25, 3) := by decide +kernel
theorem d_X4_flash_138 : decode prog_6_method_15_code 138 = .ok (.aload_n 3, 1) := by decide +kernel
theorem d_X4_flash_139 : decode prog_6_method_15_code 139 = .ok (.iload_n 2, 1) := by decide +kernel
theorem d_X4_flash_140 : decode prog_6_method_15_code 140 = .ok (.invokevirtual 51, 3) := by decide +kernel
theorem d_X4_flash_143 : decode prog_6_method_15_code 143 = .ok (.iconst 1, 1) := by decide +kernel
theorem d_X4_flash_144 : decode prog_6_method_15_code 144 = .ok (.ireturn, 1) := by decide +kernel
def m_X4_flash_b95 (sh : Sh) (v0 : Nat) (v1 : Nat) (v2 : Int32) (v3 : Nat) (v4 : Int32) (s0 : Int32) (s1 : Int32) (s2 : Int32) (s3 : Nat) (μ : Mu) : Option (Int32 × Mu) :=
  gd (iz sh 4 v0) <|
  ca2 (m_X4_drawBlinks sh v0 v1 v4 μ) fun r23 μ24 =>
  gd (iz sh 5 s3) <|
  ca (m_X5_take sh s3 s2 s1 s0 r23 μ24) fun μ26 =>
  gd (iz sh 5 v3) <|
  if 4 ≤ (gI μ26 v3 1) then
    bd (gR μ26 v0 5) fun a29 =>
    gd (ix sh 11 a29 (gI μ26 v0 4)) <|
    bd (gR μ26 a29 (gI μ26 v0 4).toNatClampNeg) fun a31 =>
    gd (iz sh 5 a31) <|
    ca (m_X5_copyFrom sh a31 v3 μ26) fun μ33 =>
    bd (sI μ33 v0 4 ((gI μ33 v0 4) + 1)) fun μ34 =>
    ca (m_X5_begin sh v3 v2 μ34) fun μ35 =>
    some (1, μ35)
  else
    some (0, μ26)
def m_X4_flash_b67 (sh : Sh) (v0 : Nat) (v1 : Nat) (v2 : Int32) (v3 : Nat) (v4 : Int32) (μ : Mu) : Option (Int32 × Mu) :=
  gd (iz sh 4 v0) <|
  ca2 (m_X6_has sh v4 (gI μ v0 3) μ) fun r19 μ20 =>
  if r19 = 0 then
    m_X4_flash_b95 sh v0 v1 v2 v3 v4 (-9) v4 (gI μ v0 1) v3 μ20
  else
    m_X4_flash_b95 sh v0 v1 v2 v3 v4 (gI μ20 v0 3) v4 (gI μ v0 1) v3 μ20
def m_X4_flash (sh : Sh) (v0 : Nat) (v1 : Nat) (v2 : Int32) (μ : Mu) : Option (Int32 × Mu) :=
  if v2 < 0 then
    some (0, μ)
  else
    if 2 ≤ v2 then
      some (0, μ)
    else
      gd (iz sh 4 v0) <|
      if (gI μ v0 4) < 0 then
        some (0, μ)
      else
        if (gI μ v0 4) < 8 then
          bd (gR μ v0 6) fun a6 =>
          gd (ix sh 11 a6 v2) <|
          bd (gR μ a6 v2.toNatClampNeg) fun a8 =>
          ca2 (m_X4_whoIsIn sh v0 v2 μ) fun r9 μ10 =>
          gd (iz sh 2 v1) <|
          ca2 (m_X2_flashesAt sh v1 v2 (gI μ10 v0 1) μ10) fun r12 μ13 =>
          if r12 = 0 then
            some (0, μ13)
          else
            if r9 = 0 then
              gd (iz sh 5 a8) <|
              if (gI μ13 a8 1) = 0 then
                some (0, μ13)
              else
                m_X4_flash_b67 sh v0 v1 v2 a8 r9 μ13
            else
              m_X4_flash_b67 sh v0 v1 v2 a8 r9 μ13
        else
          some (0, μ)
set_option maxHeartbeats 4000000 in
set_option maxRecDepth 20000 in
theorem t_X4_flash_b95 {l : Launch} {G : Gl} {n : Nat} {sh : Sh} {x : Int32 × Mu} {v0 : Nat} {v1 : Nat} {v2 : Int32} {v3 : Nat} {v4 : Int32} {s0 : Int32} {s1 : Int32} {s2 : Int32} {s3 : Nat} {μ : Mu} (h : m_X4_flash_b95 sh v0 v1 v2 v3 v4 s0 s1 s2 s3 μ = some x) : Sj l G (QI G n sh x) c_X4_flash n sh 0 0 μ 95 [some (vr v0), some (vr v1), some (vi v2), some (vr v3), some (vi v4)] [vi s0, vi s1, vi s2, vr s3] := by
  unfold m_X4_flash_b95 at h
  refine s_aload_n (pc := 95) d_X4_flash_95 rfl rfl ?_
  refine s_aload_n (pc := 96) d_X4_flash_96 rfl rfl ?_
  refine s_iload (pc := 97) d_X4_flash_97 rfl ?_
  obtain ⟨g22, h⟩ := gd_1 h
  obtain ⟨r23, μ24, er23, h⟩ := ca2_1 h
  refine s_callV (pc := 99) (as := [vr v1, vi v4]) (st := [vi s0, vi s1, vi s2, vr s3]) (vo := [vi r23]) (t_X4_drawBlinks er23) cl_4 g22 d_X4_flash_99 y_X4_drawBlinks w_428 w_430 w_s3 ⟨by decide, by decide⟩ ⟨Nat.le_of_ble_eq_true rfl, Nat.le_of_ble_eq_true rfl⟩ (Nat.le_of_ble_eq_true rfl) rfl rfl rfl ?_
  refine s_as (kc' := 0) (js' := 0) (pc' := 102) (st' := [vi r23, vi s0, vi s1, vi s2, vr s3]) ⟨rfl, rfl, rfl, rfl⟩ ?_
  obtain ⟨g25, h⟩ := gd_1 h
  obtain ⟨μ26, eμ26, h⟩ := ca_1 h
  refine s_callV (pc := 102) (as := [vi s2, vi s1, vi s0, vi r23]) (st := []) (vo := []) (t_X5_take eμ26) cl_5 g25 d_X4_flash_102 y_X5_take w_436 w_437 w_438 ⟨by decide, by decide⟩ ⟨Nat.le_of_ble_eq_true rfl, Nat.le_of_ble_eq_true rfl⟩ (Nat.le_of_ble_eq_true rfl) rfl rfl rfl ?_
  refine s_as (kc' := 0) (js' := 0) (pc' := 105) (st' := []) ⟨rfl, rfl, rfl, rfl⟩ ?_
  refine s_aload_n (pc := 105) d_X4_flash_105 rfl rfl ?_
  obtain ⟨g27, h⟩ := gd_1 h
  refine s_getI (pc := 106) (k := 1) cl_5 d_X4_flash_106 g27 (by decide) w_66 rfl ?_
  refine s_iconst (pc := 109) (v := 4) d_X4_flash_109 (by decide) ?_
  refine s_icmp_ge (pc := 110) (tgt := 115) d_X4_flash_110 (by decide) (fun c28 => ?_) (fun c28 => ?_)
  · have h := it_t c28 h
    refine s_aload_n (pc := 115) d_X4_flash_115 rfl rfl ?_
    refine s_getR (pc := 116) (k := 5) cl_4 d_X4_flash_116 g22 (by decide) w_105 (rt_arr _) ?_
    obtain ⟨a29, ea29, h⟩ := bd_1 h
    refine s_topR ea29 ?_
    refine s_aload_n (pc := 119) d_X4_flash_119 rfl rfl ?_
    refine s_getI (pc := 120) (k := 4) cl_4 d_X4_flash_120 g22 (by decide) w_102 rfl ?_
    obtain ⟨g30, h⟩ := gd_1 h
    refine s_aald11 (pc := 123) d_X4_flash_123 g30 ?_
    obtain ⟨a31, ea31, h⟩ := bd_1 h
    refine s_topR ea31 ?_
    refine s_aload_n (pc := 124) d_X4_flash_124 rfl rfl ?_
    obtain ⟨g32, h⟩ := gd_1 h
    obtain ⟨μ33, eμ33, h⟩ := ca_1 h
    refine s_callV (pc := 125) (as := [vr v3]) (st := []) (vo := []) (t_X5_copyFrom eμ33) cl_5 g32 d_X4_flash_125 y_X5_copyFrom w_387 w_388 w_389 ⟨by decide, by decide⟩ ⟨Nat.le_of_ble_eq_true rfl, Nat.le_of_ble_eq_true rfl⟩ (Nat.le_of_ble_eq_true rfl) rfl rfl rfl ?_
    refine s_as (kc' := 0) (js' := 0) (pc' := 128) (st' := []) ⟨rfl, rfl, rfl, rfl⟩ ?_
    refine s_aload_n (pc := 128) d_X4_flash_128 rfl rfl ?_
    refine s_dup (pc := 129) d_X4_flash_129 rfl ?_
    refine s_getI (pc := 130) (k := 4) cl_4 d_X4_flash_130 g22 (by decide) w_102 rfl ?_
    refine s_iconst (pc := 133) (v := 1) d_X4_flash_133 (by decide) ?_
    refine s_iadd (pc := 134) d_X4_flash_134 ?_
    refine s_putI (pc := 135) (k := 4) cl_4 d_X4_flash_135 g22 (by decide) w_102 rfl rfl ?_
    obtain ⟨μ34, eμ34, h⟩ := bd_1 h
    refine s_mu eμ34 ?_
    refine s_aload_n (pc := 138) d_X4_flash_138 rfl rfl ?_
    refine s_iload_n (pc := 139) d_X4_flash_139 rfl rfl ?_
    obtain ⟨μ35, eμ35, h⟩ := ca_1 h
    refine s_callV (pc := 140) (as := [vi v2]) (st := []) (vo := []) (t_X5_begin eμ35) cl_5 g27 d_X4_flash_140 y_X5_begin w_90 w_91 w_92 ⟨by decide, by decide⟩ ⟨Nat.le_of_ble_eq_true rfl, Nat.le_of_ble_eq_true rfl⟩ (Nat.le_of_ble_eq_true rfl) rfl rfl rfl ?_
    refine s_as (kc' := 0) (js' := 0) (pc' := 143) (st' := []) ⟨rfl, rfl, rfl, rfl⟩ ?_
    refine s_iconst (pc := 143) (v := 1) d_X4_flash_143 (by decide) ?_
    obtain rfl := Option.some.inj h
    exact s_iret (pc := 144) d_X4_flash_144 rfl
  · have h := it_f c28 h
    refine s_iconst (pc := 113) (v := 0) d_X4_flash_113 (by decide) ?_
    obtain rfl := Option.some.inj h
    exact s_iret (pc := 114) d_X4_flash_114 rfl
set_option maxHeartbeats 4000000 in
set_option maxRecDepth 20000 in
theorem t_X4_flash_b67 {l : Launch} {G : Gl} {n : Nat} {sh : Sh} {x : Int32 × Mu} {v0 : Nat} {v1 : Nat} {v2 : Int32} {v3 : Nat} {v4 : Int32} {μ : Mu} (h : m_X4_flash_b67 sh v0 v1 v2 v3 v4 μ = some x) : Sj l G (QI G n sh x) c_X4_flash n sh 0 0 μ 67 [some (vr v0), some (vr v1), some (vi v2), some (vr v3), some (vi v4)] [] := by
  unfold m_X4_flash_b67 at h
  refine s_aload_n (pc := 67) d_X4_flash_67 rfl rfl ?_
  refine s_aload_n (pc := 68) d_X4_flash_68 rfl rfl ?_
  obtain ⟨g18, h⟩ := gd_1 h
  refine s_getI (pc := 69) (k := 1) cl_4 d_X4_flash_69 g18 (by decide) w_96 rfl ?_
  refine s_iload (pc := 72) d_X4_flash_72 rfl ?_
  refine s_iload (pc := 74) d_X4_flash_74 rfl ?_
  refine s_aload_n (pc := 76) d_X4_flash_76 rfl rfl ?_
  refine s_getI (pc := 77) (k := 3) cl_4 d_X4_flash_77 g18 (by decide) w_100 rfl ?_
  obtain ⟨r19, μ20, er19, h⟩ := ca2_1 h
  refine s_callSN (pc := 80) (as := [vi v4, vi (gI μ v0 3)]) (st := [vi v4, vi (gI μ v0 1), vr v3]) (vo := [vi r19]) (t_X6_has er19) d_X4_flash_80 y_X6_has w_n425 w_426 ⟨by decide, by decide⟩ ⟨Nat.le_of_ble_eq_true rfl, Nat.le_of_ble_eq_true rfl⟩ (Nat.le_of_ble_eq_true rfl) rfl rfl rfl ?_
  refine s_as (kc' := 0) (js' := 0) (pc' := 83) (st' := [vi r19, vi v4, vi (gI μ v0 1), vr v3]) ⟨rfl, rfl, rfl, rfl⟩ ?_
  refine s_if_eq (pc := 83) (tgt := 93) d_X4_flash_83 (by decide) (fun c21 => ?_) (fun c21 => ?_)
  · have h := it_t c21 h
    refine s_bipush (pc := 93) (v := (-9)) d_X4_flash_93 (by decide) ?_
    exact t_X4_flash_b95 h
  · have h := it_f c21 h
    refine s_aload_n (pc := 86) d_X4_flash_86 rfl rfl ?_
    refine s_getI (pc := 87) (k := 3) cl_4 d_X4_flash_87 g18 (by decide) w_100 rfl ?_
    refine s_goto (pc := 90) (tgt := 95) d_X4_flash_90 (by decide) ?_
    exact t_X4_flash_b95 h
set_option maxHeartbeats 4000000 in
set_option maxRecDepth 20000 in
theorem t_X4_flash {l : Launch} {G : Gl} {n : Nat} {sh : Sh} {x : Int32 × Mu} {v0 : Nat} {v1 : Nat} {v2 : Int32} {μ : Mu} (h : m_X4_flash sh v0 v1 v2 μ = some x) : Ct l G ⟨"StripsOfFour$Scene", "flash", "(LStripsOfFour$Plan;I)I"⟩ prog_6_method_15_code 5 (some .int) { frames := 4, cells := 0, slots := 0, locals := 89 } n sh μ [vr v0, vr v1, vi v2] (some (.int x.1)) n sh x.2 := by
  refine Ct.of (lc := [some (vr v0), some (vr v1), some (vi v2), none, none]) (by decide +kernel) (Nat.le_of_ble_eq_true rfl) rfl ?_
  show Sj l G (QI G n sh x) c_X4_flash n sh 0 0 μ 0 [some (vr v0), some (vr v1), some (vi v2), none, none] []
  unfold m_X4_flash at h
  refine s_iload_n (pc := 0) d_X4_flash_0 rfl rfl ?_
  refine s_if_lt (pc := 1) (tgt := 25) d_X4_flash_1 (by decide) (fun c1 => ?_) (fun c1 => ?_)
  · have h := it_t c1 h
    refine s_iconst (pc := 25) (v := 0) d_X4_flash_25 (by decide) ?_
    obtain rfl := Option.some.inj h
    exact s_iret (pc := 26) d_X4_flash_26 rfl
  · have h := it_f c1 h
    refine s_iload_n (pc := 4) d_X4_flash_4 rfl rfl ?_
    refine s_iconst (pc := 5) (v := 2) d_X4_flash_5 (by decide) ?_
    refine s_icmp_ge (pc := 6) (tgt := 25) d_X4_flash_6 (by decide) (fun c2 => ?_) (fun c2 => ?_)
    · have h := it_t c2 h
      refine s_iconst (pc := 25) (v := 0) d_X4_flash_25 (by decide) ?_
      obtain rfl := Option.some.inj h
      exact s_iret (pc := 26) d_X4_flash_26 rfl
    · have h := it_f c2 h
      refine s_aload_n (pc := 9) d_X4_flash_9 rfl rfl ?_
      obtain ⟨g3, h⟩ := gd_1 h
      refine s_getI (pc := 10) (k := 4) cl_4 d_X4_flash_10 g3 (by decide) w_102 rfl ?_
      refine s_if_lt (pc := 13) (tgt := 25) d_X4_flash_13 (by decide) (fun c4 => ?_) (fun c4 => ?_)
      · have h := it_t c4 h
        refine s_iconst (pc := 25) (v := 0) d_X4_flash_25 (by decide) ?_
        obtain rfl := Option.some.inj h
        exact s_iret (pc := 26) d_X4_flash_26 rfl
      · have h := it_f c4 h
        refine s_aload_n (pc := 16) d_X4_flash_16 rfl rfl ?_
        refine s_getI (pc := 17) (k := 4) cl_4 d_X4_flash_17 g3 (by decide) w_102 rfl ?_
        refine s_bipush (pc := 20) (v := 8) d_X4_flash_20 (by decide) ?_
        refine s_icmp_lt (pc := 22) (tgt := 27) d_X4_flash_22 (by decide) (fun c5 => ?_) (fun c5 => ?_)
        · have h := it_t c5 h
          refine s_aload_n (pc := 27) d_X4_flash_27 rfl rfl ?_
          refine s_getR (pc := 28) (k := 6) cl_4 d_X4_flash_28 g3 (by decide) w_109 (rt_arr _) ?_
          obtain ⟨a6, ea6, h⟩ := bd_1 h
          refine s_topR ea6 ?_
          refine s_iload_n (pc := 31) d_X4_flash_31 rfl rfl ?_
          obtain ⟨g7, h⟩ := gd_1 h
          refine s_aald11 (pc := 32) d_X4_flash_32 g7 ?_
          obtain ⟨a8, ea8, h⟩ := bd_1 h
          refine s_topR ea8 ?_
          refine s_astore_n (pc := 33) (lc' := [some (vr v0), some (vr v1), some (vi v2), some (vr a8), none]) d_X4_flash_33 rfl (by decide) rfl ?_
          refine s_aload_n (pc := 34) d_X4_flash_34 rfl rfl ?_
          refine s_iload_n (pc := 35) d_X4_flash_35 rfl rfl ?_
          obtain ⟨r9, μ10, er9, h⟩ := ca2_1 h
          refine s_callV (pc := 36) (as := [vi v2]) (st := []) (vo := [vi r9]) (t_X4_whoIsIn er9) cl_4 g3 d_X4_flash_36 y_X4_whoIsIn w_419 w_297 w_298 ⟨by decide, by decide⟩ ⟨Nat.le_of_ble_eq_true rfl, Nat.le_of_ble_eq_true rfl⟩ (Nat.le_of_ble_eq_true rfl) rfl rfl rfl ?_
          refine s_as (kc' := 0) (js' := 0) (pc' := 39) (st' := [vi r9]) ⟨rfl, rfl, rfl, rfl⟩ ?_
          refine s_istore (pc := 39) (lc' := [some (vr v0), some (vr v1), some (vi v2), some (vr a8), some (vi r9)]) d_X4_flash_39 (by decide) rfl ?_
          refine s_aload_n (pc := 41) d_X4_flash_41 rfl rfl ?_
          refine s_iload_n (pc := 42) d_X4_flash_42 rfl rfl ?_
          refine s_aload_n (pc := 43) d_X4_flash_43 rfl rfl ?_
          refine s_getI (pc := 44) (k := 1) cl_4 d_X4_flash_44 g3 (by decide) w_96 rfl ?_
          obtain ⟨g11, h⟩ := gd_1 h
          obtain ⟨r12, μ13, er12, h⟩ := ca2_1 h
          refine s_callV (pc := 47) (as := [vi v2, vi (gI μ10 v0 1)]) (st := []) (vo := [vi r12]) (t_X2_flashesAt er12) cl_2 g11 d_X4_flash_47 y_X2_flashesAt w_420 w_421 w_422 ⟨by decide, by decide⟩ ⟨Nat.le_of_ble_eq_true rfl, Nat.le_of_ble_eq_true rfl⟩ (Nat.le_of_ble_eq_true rfl) rfl rfl rfl ?_
          refine s_as (kc' := 0) (js' := 0) (pc' := 50) (st' := [vi r12]) ⟨rfl, rfl, rfl, rfl⟩ ?_
          refine s_if_eq (pc := 50) (tgt := 65) d_X4_flash_50 (by decide) (fun c14 => ?_) (fun c14 => ?_)
          · have h := it_t c14 h
            refine s_iconst (pc := 65) (v := 0) d_X4_flash_65 (by decide) ?_
            obtain rfl := Option.some.inj h
            exact s_iret (pc := 66) d_X4_flash_66 rfl
          · have h := it_f c14 h
            refine s_iload (pc := 53) d_X4_flash_53 rfl ?_
            refine s_if_ne (pc := 55) (tgt := 67) d_X4_flash_55 (by decide) (fun c15 => ?_) (fun c15 => ?_)
            · have h := it_f c15 h
              exact t_X4_flash_b67 h
            · have h := it_t c15 h
              refine s_aload_n (pc := 58) d_X4_flash_58 rfl rfl ?_
              obtain ⟨g16, h⟩ := gd_1 h
              refine s_getI (pc := 59) (k := 1) cl_5 d_X4_flash_59 g16 (by decide) w_66 rfl ?_
              refine s_if_ne (pc := 62) (tgt := 67) d_X4_flash_62 (by decide) (fun c17 => ?_) (fun c17 => ?_)
              · have h := it_f c17 h
                exact t_X4_flash_b67 h
              · have h := it_t c17 h
                refine s_iconst (pc := 65) (v := 0) d_X4_flash_65 (by decide) ?_
                obtain rfl := Option.some.inj h
                exact s_iret (pc := 66) d_X4_flash_66 rfl
        · have h := it_f c5 h
          refine s_iconst (pc := 25) (v := 0) d_X4_flash_25 (by decide) ?_
          obtain rfl := Option.some.inj h
          exact s_iret (pc := 26) d_X4_flash_26 rfl
/-! StripsOfFour$Scene.swapLastTwo -/
abbrev c_X4_swapLastTwo : Cf := (prog_6_method_17_code, 2, "StripsOfFour$Scene", "swapLastTwo", (some .int), { frames := 0, cells := 0, slots := 0, locals := 0 })
theorem d_X4_swapLastTwo_0 : decode prog_6_method_17_code 0 = .ok (.aload_n 0, 1) := by decide +kernel
theorem d_X4_swapLastTwo_1 : decode prog_6_method_17_code 1 = .ok (.getfield 25, 3) := by decide +kernel
theorem d_X4_swapLastTwo_4 : decode prog_6_method_17_code 4 = .ok (.iconst 2, 1) := by decide +kernel
theorem d_X4_swapLastTwo_5 : decode prog_6_method_17_code 5 = .ok (.if_icmp .lt 12, 3) := by decide +kernel
theorem d_X4_swapLastTwo_8 : decode prog_6_method_17_code 8 = .ok (.aload_n 0, 1) := by decide +kernel
theorem d_X4_swapLastTwo_9 : decode prog_6_method_17_code 9 = .ok (.getfield 25, 3) := by decide +kernel
theorem d_X4_swapLastTwo_12 : decode prog_6_method_17_code 12 = .ok (.bipush 8, 2) := by decide +kernel
theorem d_X4_swapLastTwo_14 : decode prog_6_method_17_code 14 = .ok (.if_icmp .le 6, 3) := by decide +kernel
theorem d_X4_swapLastTwo_17 : decode prog_6_method_17_code 17 = .ok (.bipush (-3), 2) := by decide +kernel
theorem d_X4_swapLastTwo_19 : decode prog_6_method_17_code 19 = .ok (.ireturn, 1) := by decide +kernel
theorem d_X4_swapLastTwo_20 : decode prog_6_method_17_code 20 = .ok (.aload_n 0, 1) := by decide +kernel
theorem d_X4_swapLastTwo_21 : decode prog_6_method_17_code 21 = .ok (.getfield 30, 3) := by decide +kernel
theorem d_X4_swapLastTwo_24 : decode prog_6_method_17_code 24 = .ok (.aload_n 0, 1) := by decide +kernel
theorem d_X4_swapLastTwo_25 : decode prog_6_method_17_code 25 = .ok (.getfield 25, 3) := by decide +kernel
theorem d_X4_swapLastTwo_28 : decode prog_6_method_17_code 28 = .ok (.iconst 1, 1) := by decide +kernel
theorem d_X4_swapLastTwo_29 : decode prog_6_method_17_code 29 = .ok (.isub, 1) := by decide +kernel
theorem d_X4_swapLastTwo_30 : decode prog_6_method_17_code 30 = .ok (.aaload, 1) := by decide +kernel
theorem d_X4_swapLastTwo_31 : decode prog_6_method_17_code 31 = .ok (.astore_n 1, 1) := by decide +kernel
theorem d_X4_swapLastTwo_32 : decode prog_6_method_17_code 32 = .ok (.aload_n 0, 1) := by decide +kernel
theorem d_X4_swapLastTwo_33 : decode prog_6_method_17_code 33 = .ok (.getfield 30, 3) := by decide +kernel
theorem d_X4_swapLastTwo_36 : decode prog_6_method_17_code 36 = .ok (.aload_n 0, 1) := by decide +kernel
theorem d_X4_swapLastTwo_37 : decode prog_6_method_17_code 37 = .ok (.getfield 25, 3) := by decide +kernel
theorem d_X4_swapLastTwo_40 : decode prog_6_method_17_code 40 = .ok (.iconst 1, 1) := by decide +kernel
theorem d_X4_swapLastTwo_41 : decode prog_6_method_17_code 41 = .ok (.isub, 1) := by decide +kernel
theorem d_X4_swapLastTwo_42 : decode prog_6_method_17_code 42 = .ok (.aload_n 0, 1) := by decide +kernel
theorem d_X4_swapLastTwo_43 : decode prog_6_method_17_code 43 = .ok (.getfield 30, 3) := by decide +kernel
theorem d_X4_swapLastTwo_46 : decode prog_6_method_17_code 46 = .ok (.aload_n 0, 1) := by decide +kernel
theorem d_X4_swapLastTwo_47 : decode prog_6_method_17_code 47 = .ok (.getfield 25, 3) := by decide +kernel
theorem d_X4_swapLastTwo_50 : decode prog_6_method_17_code 50 = .ok (.iconst 2, 1) := by decide +kernel
theorem d_X4_swapLastTwo_51 : decode prog_6_method_17_code 51 = .ok (.isub, 1) := by decide +kernel
theorem d_X4_swapLastTwo_52 : decode prog_6_method_17_code 52 = .ok (.aaload, 1) := by decide +kernel
theorem d_X4_swapLastTwo_53 : decode prog_6_method_17_code 53 = .ok (.aastore, 1) := by decide +kernel
theorem d_X4_swapLastTwo_54 : decode prog_6_method_17_code 54 = .ok (.aload_n 0, 1) := by decide +kernel
theorem d_X4_swapLastTwo_55 : decode prog_6_method_17_code 55 = .ok (.getfield 30, 3) := by decide +kernel
theorem d_X4_swapLastTwo_58 : decode prog_6_method_17_code 58 = .ok (.aload_n 0, 1) := by decide +kernel
theorem d_X4_swapLastTwo_59 : decode prog_6_method_17_code 59 = .ok (.getfield 25, 3) := by decide +kernel
theorem d_X4_swapLastTwo_62 : decode prog_6_method_17_code 62 = .ok (.iconst 2, 1) := by decide +kernel
theorem d_X4_swapLastTwo_63 : decode prog_6_method_17_code 63 = .ok (.isub, 1) := by decide +kernel
theorem d_X4_swapLastTwo_64 : decode prog_6_method_17_code 64 = .ok (.aload_n 1, 1) := by decide +kernel
theorem d_X4_swapLastTwo_65 : decode prog_6_method_17_code 65 = .ok (.aastore, 1) := by decide +kernel
theorem d_X4_swapLastTwo_66 : decode prog_6_method_17_code 66 = .ok (.aload_n 0, 1) := by decide +kernel
theorem d_X4_swapLastTwo_67 : decode prog_6_method_17_code 67 = .ok (.getfield 30, 3) := by decide +kernel
theorem d_X4_swapLastTwo_70 : decode prog_6_method_17_code 70 = .ok (.aload_n 0, 1) := by decide +kernel
theorem d_X4_swapLastTwo_71 : decode prog_6_method_17_code 71 = .ok (.getfield 25, 3) := by decide +kernel
theorem d_X4_swapLastTwo_74 : decode prog_6_method_17_code 74 = .ok (.iconst 1, 1) := by decide +kernel
theorem d_X4_swapLastTwo_75 : decode prog_6_method_17_code 75 = .ok (.isub, 1) := by decide +kernel
theorem d_X4_swapLastTwo_76 : decode prog_6_method_17_code 76 = .ok (.aaload, 1) := by decide +kernel
theorem d_X4_swapLastTwo_77 : decode prog_6_method_17_code 77 = .ok (.getfield 111, 3) := by decide +kernel
theorem d_X4_swapLastTwo_80 : decode prog_6_method_17_code 80 = .ok (.ireturn, 1) := by decide +kernel
def m_X4_swapLastTwo (sh : Sh) (v0 : Nat) (μ : Mu) : Option (Int32 × Mu) :=
  gd (iz sh 4 v0) <|
  if (gI μ v0 4) < 2 then
    some ((-3), μ)
  else
    if (gI μ v0 4) ≤ 8 then
      bd (gR μ v0 5) fun a4 =>
      gd (ix sh 11 a4 ((gI μ v0 4) - 1)) <|
      bd (gR μ a4 ((gI μ v0 4) - 1).toNatClampNeg) fun a6 =>
      bd (gR μ v0 5) fun a7 =>
      bd (gR μ v0 5) fun a8 =>
      gd (ix sh 11 a8 ((gI μ v0 4) - 2)) <|
      bd (gR μ a8 ((gI μ v0 4) - 2).toNatClampNeg) fun a10 =>
      gd (ix sh 11 a7 ((gI μ v0 4) - 1)) <|
      gd (iz sh 5 a10) <|
      bd (sR μ a7 ((gI μ v0 4) - 1).toNatClampNeg a10) fun μ13 =>
      bd (gR μ13 v0 5) fun a14 =>
      gd (ix sh 11 a14 ((gI μ13 v0 4) - 2)) <|
      gd (iz sh 5 a6) <|
      bd (sR μ13 a14 ((gI μ13 v0 4) - 2).toNatClampNeg a6) fun μ17 =>
      bd (gR μ17 v0 5) fun a18 =>
      gd (ix sh 11 a18 ((gI μ17 v0 4) - 1)) <|
      bd (gR μ17 a18 ((gI μ17 v0 4) - 1).toNatClampNeg) fun a20 =>
      gd (iz sh 5 a20) <|
      some (gI μ17 a20 0, μ17)
    else
      some ((-3), μ)
set_option maxHeartbeats 4000000 in
set_option maxRecDepth 20000 in
theorem t_X4_swapLastTwo {l : Launch} {G : Gl} {n : Nat} {sh : Sh} {x : Int32 × Mu} {v0 : Nat} {μ : Mu} (h : m_X4_swapLastTwo sh v0 μ = some x) : Ct l G ⟨"StripsOfFour$Scene", "swapLastTwo", "()I"⟩ prog_6_method_17_code 2 (some .int) { frames := 0, cells := 0, slots := 0, locals := 0 } n sh μ [vr v0] (some (.int x.1)) n sh x.2 := by
  refine Ct.of (lc := [some (vr v0), none]) (by decide +kernel) (Nat.le_of_ble_eq_true rfl) rfl ?_
  show Sj l G (QI G n sh x) c_X4_swapLastTwo n sh 0 0 μ 0 [some (vr v0), none] []
  unfold m_X4_swapLastTwo at h
  refine s_aload_n (pc := 0) d_X4_swapLastTwo_0 rfl rfl ?_
  obtain ⟨g1, h⟩ := gd_1 h
  refine s_getI (pc := 1) (k := 4) cl_4 d_X4_swapLastTwo_1 g1 (by decide) w_102 rfl ?_
  refine s_iconst (pc := 4) (v := 2) d_X4_swapLastTwo_4 (by decide) ?_
  refine s_icmp_lt (pc := 5) (tgt := 17) d_X4_swapLastTwo_5 (by decide) (fun c2 => ?_) (fun c2 => ?_)
  · have h := it_t c2 h
    refine s_bipush (pc := 17) (v := (-3)) d_X4_swapLastTwo_17 (by decide) ?_
    obtain rfl := Option.some.inj h
    exact s_iret (pc := 19) d_X4_swapLastTwo_19 rfl
  · have h := it_f c2 h
    refine s_aload_n (pc := 8) d_X4_swapLastTwo_8 rfl rfl ?_
    refine s_getI (pc := 9) (k := 4) cl_4 d_X4_swapLastTwo_9 g1 (by decide) w_102 rfl ?_
    refine s_bipush (pc := 12) (v := 8) d_X4_swapLastTwo_12 (by decide) ?_
    refine s_icmp_le (pc := 14) (tgt := 20) d_X4_swapLastTwo_14 (by decide) (fun c3 => ?_) (fun c3 => ?_)
    · have h := it_t c3 h
      refine s_aload_n (pc := 20) d_X4_swapLastTwo_20 rfl rfl ?_
      refine s_getR (pc := 21) (k := 5) cl_4 d_X4_swapLastTwo_21 g1 (by decide) w_105 (rt_arr _) ?_
      obtain ⟨a4, ea4, h⟩ := bd_1 h
      refine s_topR ea4 ?_
      refine s_aload_n (pc := 24) d_X4_swapLastTwo_24 rfl rfl ?_
      refine s_getI (pc := 25) (k := 4) cl_4 d_X4_swapLastTwo_25 g1 (by decide) w_102 rfl ?_
      refine s_iconst (pc := 28) (v := 1) d_X4_swapLastTwo_28 (by decide) ?_
      refine s_isub (pc := 29) d_X4_swapLastTwo_29 ?_
      obtain ⟨g5, h⟩ := gd_1 h
      refine s_aald11 (pc := 30) d_X4_swapLastTwo_30 g5 ?_
      obtain ⟨a6, ea6, h⟩ := bd_1 h
      refine s_topR ea6 ?_
      refine s_astore_n (pc := 31) (lc' := [some (vr v0), some (vr a6)]) d_X4_swapLastTwo_31 rfl (by decide) rfl ?_
      refine s_aload_n (pc := 32) d_X4_swapLastTwo_32 rfl rfl ?_
      refine s_getR (pc := 33) (k := 5) cl_4 d_X4_swapLastTwo_33 g1 (by decide) w_105 (rt_arr _) ?_
      obtain ⟨a7, ea7, h⟩ := bd_1 h
      refine s_topR ea7 ?_
      refine s_aload_n (pc := 36) d_X4_swapLastTwo_36 rfl rfl ?_
      refine s_getI (pc := 37) (k := 4) cl_4 d_X4_swapLastTwo_37 g1 (by decide) w_102 rfl ?_
      refine s_iconst (pc := 40) (v := 1) d_X4_swapLastTwo_40 (by decide) ?_
      refine s_isub (pc := 41) d_X4_swapLastTwo_41 ?_
      refine s_aload_n (pc := 42) d_X4_swapLastTwo_42 rfl rfl ?_
      refine s_getR (pc := 43) (k := 5) cl_4 d_X4_swapLastTwo_43 g1 (by decide) w_105 (rt_arr _) ?_
      obtain ⟨a8, ea8, h⟩ := bd_1 h
      refine s_topR ea8 ?_
      refine s_aload_n (pc := 46) d_X4_swapLastTwo_46 rfl rfl ?_
      refine s_getI (pc := 47) (k := 4) cl_4 d_X4_swapLastTwo_47 g1 (by decide) w_102 rfl ?_
      refine s_iconst (pc := 50) (v := 2) d_X4_swapLastTwo_50 (by decide) ?_
      refine s_isub (pc := 51) d_X4_swapLastTwo_51 ?_
      obtain ⟨g9, h⟩ := gd_1 h
      refine s_aald11 (pc := 52) d_X4_swapLastTwo_52 g9 ?_
      obtain ⟨a10, ea10, h⟩ := bd_1 h
      refine s_topR ea10 ?_
      obtain ⟨g11, h⟩ := gd_1 h
      obtain ⟨g12, h⟩ := gd_1 h
      refine s_aast11 (pc := 53) d_X4_swapLastTwo_53 g11 g12 ?_
      obtain ⟨μ13, eμ13, h⟩ := bd_1 h
      refine s_mu eμ13 ?_
      refine s_aload_n (pc := 54) d_X4_swapLastTwo_54 rfl rfl ?_
      refine s_getR (pc := 55) (k := 5) cl_4 d_X4_swapLastTwo_55 g1 (by decide) w_105 (rt_arr _) ?_
      obtain ⟨a14, ea14, h⟩ := bd_1 h
      refine s_topR ea14 ?_
      refine s_aload_n (pc := 58) d_X4_swapLastTwo_58 rfl rfl ?_
      refine s_getI (pc := 59) (k := 4) cl_4 d_X4_swapLastTwo_59 g1 (by decide) w_102 rfl ?_
      refine s_iconst (pc := 62) (v := 2) d_X4_swapLastTwo_62 (by decide) ?_
      refine s_isub (pc := 63) d_X4_swapLastTwo_63 ?_
      refine s_aload_n (pc := 64) d_X4_swapLastTwo_64 rfl rfl ?_
      obtain ⟨g15, h⟩ := gd_1 h
      obtain ⟨g16, h⟩ := gd_1 h
      refine s_aast11 (pc := 65) d_X4_swapLastTwo_65 g15 g16 ?_
      obtain ⟨μ17, eμ17, h⟩ := bd_1 h
      refine s_mu eμ17 ?_
      refine s_aload_n (pc := 66) d_X4_swapLastTwo_66 rfl rfl ?_
      refine s_getR (pc := 67) (k := 5) cl_4 d_X4_swapLastTwo_67 g1 (by decide) w_105 (rt_arr _) ?_
      obtain ⟨a18, ea18, h⟩ := bd_1 h
      refine s_topR ea18 ?_
      refine s_aload_n (pc := 70) d_X4_swapLastTwo_70 rfl rfl ?_
      refine s_getI (pc := 71) (k := 4) cl_4 d_X4_swapLastTwo_71 g1 (by decide) w_102 rfl ?_
      refine s_iconst (pc := 74) (v := 1) d_X4_swapLastTwo_74 (by decide) ?_
      refine s_isub (pc := 75) d_X4_swapLastTwo_75 ?_
      obtain ⟨g19, h⟩ := gd_1 h
      refine s_aald11 (pc := 76) d_X4_swapLastTwo_76 g19 ?_
      obtain ⟨a20, ea20, h⟩ := bd_1 h
      refine s_topR ea20 ?_
      obtain ⟨g21, h⟩ := gd_1 h
      refine s_getI (pc := 77) (k := 0) cl_5 d_X4_swapLastTwo_77 g21 (by decide) w_64 rfl ?_
      obtain rfl := Option.some.inj h
      exact s_iret (pc := 80) d_X4_swapLastTwo_80 rfl
    · have h := it_f c3 h
      refine s_bipush (pc := 17) (v := (-3)) d_X4_swapLastTwo_17 (by decide) ?_
      obtain rfl := Option.some.inj h
      exact s_iret (pc := 19) d_X4_swapLastTwo_19 rfl
/-! StripsOfFour$Past.takeBack -/
abbrev c_X1_takeBack : Cf := (prog_3_method_4_code, 2, "StripsOfFour$Past", "takeBack", (some .boolean), { frames := 3, cells := 0, slots := 0, locals := 111 })
theorem d_X1_takeBack_0 : decode prog_3_method_4_code 0 = .ok (.aload_n 0, 1) := by decide +kernel
theorem d_X1_takeBack_1 : decode prog_3_method_4_code 1 = .ok (.getfield 9, 3) := by decide +kernel
theorem d_X1_takeBack_4 : decode prog_3_method_4_code 4 = .ok (.iconst 1, 1) := by decide +kernel
theorem d_X1_takeBack_5 : decode prog_3_method_4_code 5 = .ok (.if_icmp .ge 5, 3) := by decide +kernel
theorem d_X1_takeBack_8 : decode prog_3_method_4_code 8 = .ok (.iconst 0, 1) := by decide +kernel
theorem d_X1_takeBack_9 : decode prog_3_method_4_code 9 = .ok (.ireturn, 1) := by decide +kernel
theorem d_X1_takeBack_10 : decode prog_3_method_4_code 10 = .ok (.aload_n 0, 1) := by decide +kernel
theorem d_X1_takeBack_11 : decode prog_3_method_4_code 11 = .ok (.dup, 1) := by decide +kernel
theorem d_X1_takeBack_12 : decode prog_3_method_4_code 12 = .ok (.getfield 9, 3) := by decide +kernel
theorem d_X1_takeBack_15 : decode prog_3_method_4_code 15 = .ok (.iconst 1, 1) := by decide +kernel
theorem d_X1_takeBack_16 : decode prog_3_method_4_code 16 = .ok (.isub, 1) := by decide +kernel
theorem d_X1_takeBack_17 : decode prog_3_method_4_code 17 = .ok (.putfield 9, 3) := by decide +kernel
theorem d_X1_takeBack_20 : decode prog_3_method_4_code 20 = .ok (.aload_n 1, 1) := by decide +kernel
theorem d_X1_takeBack_21 : decode prog_3_method_4_code 21 = .ok (.aload_n 0, 1) := by decide +kernel
theorem d_X1_takeBack_22 : decode prog_3_method_4_code 22 = .ok (.getfield 20, 3) := by decide +kernel
theorem d_X1_takeBack_25 : decode prog_3_method_4_code 25 = .ok (.aload_n 0, 1) := by decide +kernel
theorem d_X1_takeBack_26 : decode prog_3_method_4_code 26 = .ok (.getfield 15, 3) := by decide +kernel
theorem d_X1_takeBack_29 : decode prog_3_method_4_code 29 = .ok (.aload_n 0, 1) := by decide +kernel
theorem d_X1_takeBack_30 : decode prog_3_method_4_code 30 = .ok (.getfield 9, 3) := by decide +kernel
theorem d_X1_takeBack_33 : decode prog_3_method_4_code 33 = .ok (.iadd, 1) := by decide +kernel
theorem d_X1_takeBack_34 : decode prog_3_method_4_code 34 = .ok (.bipush 12, 2) := by decide +kernel
theorem d_X1_takeBack_36 : decode prog_3_method_4_code 36 = .ok (.invokestatic 25, 3) := by decide +kernel
theorem d_X1_takeBack_39 : decode prog_3_method_4_code 39 = .ok (.aaload, 1) := by decide +kernel
theorem d_X1_takeBack_40 : decode prog_3_method_4_code 40 = .ok (.invokevirtual 31, 3) := by decide +kernel
theorem d_X1_takeBack_43 : decode prog_3_method_4_code 43 = .ok (.iconst 1, 1) := by decide +kernel
theorem d_X1_takeBack_44 : decode prog_3_method_4_code 44 = .ok (.ireturn, 1) := by decide +kernel
def m_X1_takeBack (sh : Sh) (v0 : Nat) (v1 : Nat) (μ : Mu) : Option (Int32 × Mu) :=
  gd (iz sh 1 v0) <|
  if 1 ≤ (gI μ v0 0) then
    bd (sI μ v0 0 ((gI μ v0 0) - 1)) fun μ3 =>
    bd (gR μ3 v0 2) fun a4 =>
    ca2 (m_J9_floorMod_7cf53 sh ((gI μ3 v0 1) + (gI μ3 v0 0)) 12 μ3) fun r5 μ6 =>
    gd (ix sh 12 a4 r5) <|
    bd (gR μ6 a4 r5.toNatClampNeg) fun a8 =>
    gd (iz sh 4 v1) <|
    ca (m_X4_copyFrom sh v1 a8 μ6) fun μ10 =>
    some (1, μ10)
  else
    some (0, μ)
set_option maxHeartbeats 4000000 in
set_option maxRecDepth 20000 in
theorem t_X1_takeBack {l : Launch} {G : Gl} {n : Nat} {sh : Sh} {x : Int32 × Mu} {v0 : Nat} {v1 : Nat} {μ : Mu} (h : m_X1_takeBack sh v0 v1 μ = some x) : Ct l G ⟨"StripsOfFour$Past", "takeBack", "(LStripsOfFour$Scene;)Z"⟩ prog_3_method_4_code 2 (some .boolean) { frames := 3, cells := 0, slots := 0, locals := 111 } n sh μ [vr v0, vr v1] (some (.int x.1)) n sh x.2 := by
  refine Ct.of (lc := [some (vr v0), some (vr v1)]) (by decide +kernel) (Nat.le_of_ble_eq_true rfl) rfl ?_
  show Sj l G (QI G n sh x) c_X1_takeBack n sh 0 0 μ 0 [some (vr v0), some (vr v1)] []
  unfold m_X1_takeBack at h
  refine s_aload_n (pc := 0) d_X1_takeBack_0 rfl rfl ?_
  obtain ⟨g1, h⟩ := gd_1 h
  refine s_getI (pc := 1) (k := 0) cl_1 d_X1_takeBack_1 g1 (by decide) w_143 rfl ?_
  refine s_iconst (pc := 4) (v := 1) d_X1_takeBack_4 (by decide) ?_
  refine s_icmp_ge (pc := 5) (tgt := 10) d_X1_takeBack_5 (by decide) (fun c2 => ?_) (fun c2 => ?_)
  · have h := it_t c2 h
    refine s_aload_n (pc := 10) d_X1_takeBack_10 rfl rfl ?_
    refine s_dup (pc := 11) d_X1_takeBack_11 rfl ?_
    refine s_getI (pc := 12) (k := 0) cl_1 d_X1_takeBack_12 g1 (by decide) w_143 rfl ?_
    refine s_iconst (pc := 15) (v := 1) d_X1_takeBack_15 (by decide) ?_
    refine s_isub (pc := 16) d_X1_takeBack_16 ?_
    refine s_putI (pc := 17) (k := 0) cl_1 d_X1_takeBack_17 g1 (by decide) w_143 rfl rfl ?_
    obtain ⟨μ3, eμ3, h⟩ := bd_1 h
    refine s_mu eμ3 ?_
    refine s_aload_n (pc := 20) d_X1_takeBack_20 rfl rfl ?_
    refine s_aload_n (pc := 21) d_X1_takeBack_21 rfl rfl ?_
    refine s_getR (pc := 22) (k := 2) cl_1 d_X1_takeBack_22 g1 (by decide) w_146 (rt_arr _) ?_
    obtain ⟨a4, ea4, h⟩ := bd_1 h
    refine s_topR ea4 ?_
    refine s_aload_n (pc := 25) d_X1_takeBack_25 rfl rfl ?_
    refine s_getI (pc := 26) (k := 1) cl_1 d_X1_takeBack_26 g1 (by decide) w_145 rfl ?_
    refine s_aload_n (pc := 29) d_X1_takeBack_29 rfl rfl ?_
    refine s_getI (pc := 30) (k := 0) cl_1 d_X1_takeBack_30 g1 (by decide) w_143 rfl ?_
    refine s_iadd (pc := 33) d_X1_takeBack_33 ?_
    refine s_bipush (pc := 34) (v := 12) d_X1_takeBack_34 (by decide) ?_
    obtain ⟨r5, μ6, er5, h⟩ := ca2_1 h
    refine s_callS (pc := 36) (as := [vi ((gI μ3 v0 1) + (gI μ3 v0 0)), vi 12]) (st := [vr a4, vr v1]) (vo := [vi r5]) (t_J9_floorMod_7cf53 er5) d_X1_takeBack_36 y_J9_floorMod_7cf53 w_382 w_311 ⟨by decide, by decide⟩ ⟨Nat.le_of_ble_eq_true rfl, Nat.le_of_ble_eq_true rfl⟩ (Nat.le_of_ble_eq_true rfl) rfl rfl rfl ?_
    refine s_as (kc' := 0) (js' := 0) (pc' := 39) (st' := [vi r5, vr a4, vr v1]) ⟨rfl, rfl, rfl, rfl⟩ ?_
    obtain ⟨g7, h⟩ := gd_1 h
    refine s_aald12 (pc := 39) d_X1_takeBack_39 g7 ?_
    obtain ⟨a8, ea8, h⟩ := bd_1 h
    refine s_topR ea8 ?_
    obtain ⟨g9, h⟩ := gd_1 h
    obtain ⟨μ10, eμ10, h⟩ := ca_1 h
    refine s_callV (pc := 40) (as := [vr a8]) (st := []) (vo := []) (t_X4_copyFrom eμ10) cl_4 g9 d_X1_takeBack_40 y_X4_copyFrom w_383 w_384 w_385 ⟨by decide, by decide⟩ ⟨Nat.le_of_ble_eq_true rfl, Nat.le_of_ble_eq_true rfl⟩ (Nat.le_of_ble_eq_true rfl) rfl rfl rfl ?_
    refine s_as (kc' := 0) (js' := 0) (pc' := 43) (st' := []) ⟨rfl, rfl, rfl, rfl⟩ ?_
    refine s_iconst (pc := 43) (v := 1) d_X1_takeBack_43 (by decide) ?_
    obtain rfl := Option.some.inj h
    exact s_zret0 (pc := 44) rfl d_X1_takeBack_44 rfl
  · have h := it_f c2 h
    refine s_iconst (pc := 8) (v := 0) d_X1_takeBack_8 (by decide) ?_
    obtain rfl := Option.some.inj h
    exact s_zret0 (pc := 9) rfl d_X1_takeBack_9 rfl

/-! StripsOfFourModel.begin -/
abbrev c_X7_begin : Cf := (prog_9_method_15_code, 2, "StripsOfFourModel", "begin", none, { frames := 0, cells := 0, slots := 0, locals := 0 })
theorem d_X7_begin_0 : decode prog_9_method_15_code 0 = .ok (.iconst 0, 1) := by decide +kernel
theorem d_X7_begin_1 : decode prog_9_method_15_code 1 = .ok (.istore_n 1, 1) := by decide +kernel
theorem d_X7_begin_2 : decode prog_9_method_15_code 2 = .ok (.iload_n 1, 1) := by decide +kernel
theorem d_X7_begin_3 : decode prog_9_method_15_code 3 = .ok (.sipush 205, 3) := by decide +kernel
theorem d_X7_begin_6 : decode prog_9_method_15_code 6 = .ok (.if_icmp .ge 27, 3) := by decide +kernel
theorem d_X7_begin_9 : decode prog_9_method_15_code 9 = .ok (.aload_n 0, 1) := by decide +kernel
theorem d_X7_begin_10 : decode prog_9_method_15_code 10 = .ok (.getfield 31, 3) := by decide +kernel
theorem d_X7_begin_13 : decode prog_9_method_15_code 13 = .ok (.iload_n 1, 1) := by decide +kernel
theorem d_X7_begin_14 : decode prog_9_method_15_code 14 = .ok (.iload_n 1, 1) := by decide +kernel
theorem d_X7_begin_15 : decode prog_9_method_15_code 15 = .ok (.bipush 15, 2) := by decide +kernel
theorem d_X7_begin_17 : decode prog_9_method_15_code 17 = .ok (.if_icmp .gt 8, 3) := by decide +kernel
theorem d_X7_begin_20 : decode prog_9_method_15_code 20 = .ok (.bipush (-9), 2) := by decide +kernel
theorem d_X7_begin_22 : decode prog_9_method_15_code 22 = .ok (.goto 4, 3) := by decide +kernel
theorem d_X7_begin_25 : decode prog_9_method_15_code 25 = .ok (.iconst 0, 1) := by decide +kernel
theorem d_X7_begin_26 : decode prog_9_method_15_code 26 = .ok (.iastore, 1) := by decide +kernel
theorem d_X7_begin_27 : decode prog_9_method_15_code 27 = .ok (.iinc 1 1, 3) := by decide +kernel
theorem d_X7_begin_30 : decode prog_9_method_15_code 30 = .ok (.goto (-28), 3) := by decide +kernel
theorem d_X7_begin_33 : decode prog_9_method_15_code 33 = .ok (.aload_n 0, 1) := by decide +kernel
theorem d_X7_begin_34 : decode prog_9_method_15_code 34 = .ok (.iconst 0, 1) := by decide +kernel
theorem d_X7_begin_35 : decode prog_9_method_15_code 35 = .ok (.putfield 109, 3) := by decide +kernel
theorem d_X7_begin_38 : decode prog_9_method_15_code 38 = .ok (.aload_n 0, 1) := by decide +kernel
theorem d_X7_begin_39 : decode prog_9_method_15_code 39 = .ok (.getfield 47, 3) := by decide +kernel
theorem d_X7_begin_42 : decode prog_9_method_15_code 42 = .ok (.iconst 0, 1) := by decide +kernel
theorem d_X7_begin_43 : decode prog_9_method_15_code 43 = .ok (.iconst 0, 1) := by decide +kernel
theorem d_X7_begin_44 : decode prog_9_method_15_code 44 = .ok (.bastore, 1) := by decide +kernel
theorem d_X7_begin_45 : decode prog_9_method_15_code 45 = .ok (.aload_n 0, 1) := by decide +kernel
theorem d_X7_begin_46 : decode prog_9_method_15_code 46 = .ok (.getfield 47, 3) := by decide +kernel
theorem d_X7_begin_49 : decode prog_9_method_15_code 49 = .ok (.iconst 1, 1) := by decide +kernel
theorem d_X7_begin_50 : decode prog_9_method_15_code 50 = .ok (.iconst 0, 1) := by decide +kernel
theorem d_X7_begin_51 : decode prog_9_method_15_code 51 = .ok (.bastore, 1) := by decide +kernel
theorem d_X7_begin_52 : decode prog_9_method_15_code 52 = .ok (.return_, 1) := by decide +kernel
def m_X7_begin_b26 (sh : Sh) (k2 : Int32 → Mu → Option Mu) (v0 : Nat) (v1 : Int32) (s0 : Int32) (s1 : Int32) (s2 : Nat) (μ : Mu) : Option Mu :=
  gd (ix sh 8 s2 s1) <|
  bd (sI μ s2 s1.toNatClampNeg s0) fun μ14 =>
  bd (v1 + 1) fun w15 =>
  k2 w15 μ14
def m_X7_begin_b33 (sh : Sh) (v0 : Nat) (μ : Mu) : Option Mu :=
  gd (iz sh 7 v0) <|
  bd (sI μ v0 20 0) fun μ6 =>
  bd (gR μ6 v0 23) fun a7 =>
  gd (ix sh 10 a7 0) <|
  bd (sI μ6 a7 (0 : Int32).toNatClampNeg (0 &&& 1)) fun μ9 =>
  bd (gR μ9 v0 23) fun a10 =>
  gd (ix sh 10 a10 1) <|
  bd (sI μ9 a10 (1 : Int32).toNatClampNeg (0 &&& 1)) fun μ12 =>
  some μ12
def m_X7_begin_b2 (sh : Sh) (k2 : Int32 → Mu → Option Mu) (v0 : Nat) (v1 : Int32) (μ : Mu) : Option Mu :=
  if 205 ≤ v1 then
    m_X7_begin_b33 sh v0 μ
  else
    gd (iz sh 7 v0) <|
    bd (gR μ v0 16) fun a3 =>
    if 15 < v1 then
      m_X7_begin_b26 sh k2 v0 v1 0 v1 a3 μ
    else
      m_X7_begin_b26 sh k2 v0 v1 (-9) v1 a3 μ
def m_X7_begin_h2 (sh : Sh) (v0 : Nat) : Nat → Int32 → Mu → Option Mu
  | 0 => fun _ _ => none
  | f + 1 => fun v1 μ => m_X7_begin_b2 sh (m_X7_begin_h2 sh v0 f) v0 v1 μ
def m_X7_begin (sh : Sh) (v0 : Nat) (μ : Mu) : Option Mu :=
  m_X7_begin_h2 sh v0 FU 0 μ
set_option maxHeartbeats 4000000 in
set_option maxRecDepth 20000 in
theorem t_X7_begin_b26 {l : Launch} {G : Gl} {n : Nat} {sh : Sh} {x : Mu} {k2 : Int32 → Mu → Option Mu} {v0 : Nat} {v1 : Int32} {s0 : Int32} {s1 : Int32} {s2 : Nat} {μ : Mu} (hk2 : ∀ (v1 : Int32) (μ : Mu), k2 v1 μ = some x → Sj l G (QV G n sh x) c_X7_begin n sh 0 0 μ 2 [some (vr v0), some (vi v1)] []) (h : m_X7_begin_b26 sh k2 v0 v1 s0 s1 s2 μ = some x) : Sj l G (QV G n sh x) c_X7_begin n sh 0 0 μ 26 [some (vr v0), some (vi v1)] [vi s0, vi s1, vr s2] := by
  unfold m_X7_begin_b26 at h
  obtain ⟨g13, h⟩ := gd_1 h
  refine s_iast (pc := 26) d_X7_begin_26 g13 ?_
  obtain ⟨μ14, eμ14, h⟩ := bd_1 h
  refine s_mu eμ14 ?_
  obtain ⟨w15, ew15, h⟩ := bd_1 h
  refine s_iinc (pc := 27) (v := w15) (lc' := [some (vr v0), some (vi w15)]) d_X7_begin_27 rfl (by rw [ew15]; rfl) (by decide) rfl ?_
  refine s_goto (pc := 30) (tgt := 2) d_X7_begin_30 (by decide) ?_
  exact hk2 _ _ h
set_option maxHeartbeats 4000000 in
set_option maxRecDepth 20000 in
theorem t_X7_begin_b33 {l : Launch} {G : Gl} {n : Nat} {sh : Sh} {x : Mu} {v0 : Nat} {μ : Mu} (h : m_X7_begin_b33 sh v0 μ = some x) : Sj l G (QV G n sh x) c_X7_begin n sh 0 0 μ 33 [some (vr v0), none] [] := by
  unfold m_X7_begin_b33 at h
  refine s_aload_n (pc := 33) d_X7_begin_33 rfl rfl ?_
  refine s_iconst (pc := 34) (v := 0) d_X7_begin_34 (by decide) ?_
  obtain ⟨g5, h⟩ := gd_1 h
  refine s_putI (pc := 35) (k := 20) cl_7 d_X7_begin_35 g5 (by decide) w_680 rfl rfl ?_
  obtain ⟨μ6, eμ6, h⟩ := bd_1 h
  refine s_mu eμ6 ?_
  refine s_aload_n (pc := 38) d_X7_begin_38 rfl rfl ?_
  refine s_getR (pc := 39) (k := 23) cl_7 d_X7_begin_39 g5 (by decide) w_683 (rt_arr _) ?_
  obtain ⟨a7, ea7, h⟩ := bd_1 h
  refine s_topR ea7 ?_
  refine s_iconst (pc := 42) (v := 0) d_X7_begin_42 (by decide) ?_
  refine s_iconst (pc := 43) (v := 0) d_X7_begin_43 (by decide) ?_
  obtain ⟨g8, h⟩ := gd_1 h
  refine s_zast (pc := 44) d_X7_begin_44 g8 ?_
  obtain ⟨μ9, eμ9, h⟩ := bd_1 h
  refine s_mu eμ9 ?_
  refine s_aload_n (pc := 45) d_X7_begin_45 rfl rfl ?_
  refine s_getR (pc := 46) (k := 23) cl_7 d_X7_begin_46 g5 (by decide) w_683 (rt_arr _) ?_
  obtain ⟨a10, ea10, h⟩ := bd_1 h
  refine s_topR ea10 ?_
  refine s_iconst (pc := 49) (v := 1) d_X7_begin_49 (by decide) ?_
  refine s_iconst (pc := 50) (v := 0) d_X7_begin_50 (by decide) ?_
  obtain ⟨g11, h⟩ := gd_1 h
  refine s_zast (pc := 51) d_X7_begin_51 g11 ?_
  obtain ⟨μ12, eμ12, h⟩ := bd_1 h
  refine s_mu eμ12 ?_
  obtain rfl := Option.some.inj h
  exact s_vret (pc := 52) d_X7_begin_52 rfl
set_option maxHeartbeats 4000000 in
set_option maxRecDepth 20000 in
theorem t_X7_begin_b2 {l : Launch} {G : Gl} {n : Nat} {sh : Sh} {x : Mu} {k2 : Int32 → Mu → Option Mu} {v0 : Nat} {v1 : Int32} {μ : Mu} (hk2 : ∀ (v1 : Int32) (μ : Mu), k2 v1 μ = some x → Sj l G (QV G n sh x) c_X7_begin n sh 0 0 μ 2 [some (vr v0), some (vi v1)] []) (h : m_X7_begin_b2 sh k2 v0 v1 μ = some x) : Sj l G (QV G n sh x) c_X7_begin n sh 0 0 μ 2 [some (vr v0), some (vi v1)] [] := by
  unfold m_X7_begin_b2 at h
  refine s_iload_n (pc := 2) d_X7_begin_2 rfl rfl ?_
  refine s_sipush (pc := 3) (v := 205) d_X7_begin_3 (by decide) ?_
  refine s_icmp_ge (pc := 6) (tgt := 33) d_X7_begin_6 (by decide) (fun c1 => ?_) (fun c1 => ?_)
  · have h := it_t c1 h
    refine s_mask [true, false] rfl ?_
    exact t_X7_begin_b33 h
  · have h := it_f c1 h
    refine s_aload_n (pc := 9) d_X7_begin_9 rfl rfl ?_
    obtain ⟨g2, h⟩ := gd_1 h
    refine s_getR (pc := 10) (k := 16) cl_7 d_X7_begin_10 g2 (by decide) w_676 (rt_arr _) ?_
    obtain ⟨a3, ea3, h⟩ := bd_1 h
    refine s_topR ea3 ?_
    refine s_iload_n (pc := 13) d_X7_begin_13 rfl rfl ?_
    refine s_iload_n (pc := 14) d_X7_begin_14 rfl rfl ?_
    refine s_bipush (pc := 15) (v := 15) d_X7_begin_15 (by decide) ?_
    refine s_icmp_gt (pc := 17) (tgt := 25) d_X7_begin_17 (by decide) (fun c4 => ?_) (fun c4 => ?_)
    · have h := it_t c4 h
      refine s_iconst (pc := 25) (v := 0) d_X7_begin_25 (by decide) ?_
      exact t_X7_begin_b26 hk2 h
    · have h := it_f c4 h
      refine s_bipush (pc := 20) (v := (-9)) d_X7_begin_20 (by decide) ?_
      refine s_goto (pc := 22) (tgt := 26) d_X7_begin_22 (by decide) ?_
      exact t_X7_begin_b26 hk2 h
set_option maxHeartbeats 4000000 in
set_option maxRecDepth 20000 in
theorem t_X7_begin_h2 {l : Launch} {G : Gl} {n : Nat} {sh : Sh} {x : Mu} {v0 : Nat} : ∀ (f : Nat) (v1 : Int32) (μ : Mu), m_X7_begin_h2 sh v0 f v1 μ = some x → Sj l G (QV G n sh x) c_X7_begin n sh 0 0 μ 2 [some (vr v0), some (vi v1)] [] := by
  intro f
  induction f with
  | zero =>
    intro v1 μ h
    cases h
  | succ f ih =>
    intro v1 μ h
    exact t_X7_begin_b2 ih h
set_option maxHeartbeats 4000000 in
set_option maxRecDepth 20000 in
theorem t_X7_begin {l : Launch} {G : Gl} {n : Nat} {sh : Sh} {x : Mu} {v0 : Nat} {μ : Mu} (h : m_X7_begin sh v0 μ = some x) : Ct l G ⟨"StripsOfFourModel", "begin", "()V"⟩ prog_9_method_15_code 2 none { frames := 0, cells := 0, slots := 0, locals := 0 } n sh μ [vr v0] none n sh x := by
  refine Ct.of (lc := [some (vr v0), none]) (by decide +kernel) (Nat.le_of_ble_eq_true rfl) rfl ?_
  show Sj l G (QV G n sh x) c_X7_begin n sh 0 0 μ 0 [some (vr v0), none] []
  unfold m_X7_begin at h
  refine s_iconst (pc := 0) (v := 0) d_X7_begin_0 (by decide) ?_
  refine s_istore_n (pc := 1) (lc' := [some (vr v0), some (vi 0)]) d_X7_begin_1 rfl (by decide) rfl ?_
  exact t_X7_begin_h2 FU _ _ h
/-! StripsOfFourModel.figure -/
abbrev c_X7_figure : Cf := (prog_9_method_11_code, 3, "StripsOfFourModel", "figure", (some .int), { frames := 1, cells := 0, slots := 0, locals := 25 })
theorem d_X7_figure_0 : decode prog_9_method_11_code 0 = .ok (.aload_n 0, 1) := by decide +kernel
theorem d_X7_figure_1 : decode prog_9_method_11_code 1 = .ok (.getfield 85, 3) := by decide +kernel
theorem d_X7_figure_4 : decode prog_9_method_11_code 4 = .ok (.aload_n 0, 1) := by decide +kernel
theorem d_X7_figure_5 : decode prog_9_method_11_code 5 = .ok (.getfield 82, 3) := by decide +kernel
theorem d_X7_figure_8 : decode prog_9_method_11_code 8 = .ok (.if_icmp .eq 26, 3) := by decide +kernel
theorem d_X7_figure_11 : decode prog_9_method_11_code 11 = .ok (.aload_n 0, 1) := by decide +kernel
theorem d_X7_figure_12 : decode prog_9_method_11_code 12 = .ok (.getfield 7, 3) := by decide +kernel
theorem d_X7_figure_15 : decode prog_9_method_11_code 15 = .ok (.aload_n 0, 1) := by decide +kernel
theorem d_X7_figure_16 : decode prog_9_method_11_code 16 = .ok (.getfield 85, 3) := by decide +kernel
theorem d_X7_figure_19 : decode prog_9_method_11_code 19 = .ok (.iaload, 1) := by decide +kernel
theorem d_X7_figure_20 : decode prog_9_method_11_code 20 = .ok (.bipush 48, 2) := by decide +kernel
theorem d_X7_figure_22 : decode prog_9_method_11_code 22 = .ok (.isub, 1) := by decide +kernel
theorem d_X7_figure_23 : decode prog_9_method_11_code 23 = .ok (.i2l, 1) := by decide +kernel
theorem d_X7_figure_24 : decode prog_9_method_11_code 24 = .ok (.iload_n 1, 1) := by decide +kernel
theorem d_X7_figure_25 : decode prog_9_method_11_code 25 = .ok (.i2l, 1) := by decide +kernel
theorem d_X7_figure_26 : decode prog_9_method_11_code 26 = .ok (.iload_n 2, 1) := by decide +kernel
theorem d_X7_figure_27 : decode prog_9_method_11_code 27 = .ok (.i2l, 1) := by decide +kernel
theorem d_X7_figure_28 : decode prog_9_method_11_code 28 = .ok (.invokestatic 73, 3) := by decide +kernel
theorem d_X7_figure_31 : decode prog_9_method_11_code 31 = .ok (.ifCond .ne 6, 3) := by decide +kernel
theorem d_X7_figure_34 : decode prog_9_method_11_code 34 = .ok (.bipush (-9), 2) := by decide +kernel
theorem d_X7_figure_36 : decode prog_9_method_11_code 36 = .ok (.ireturn, 1) := by decide +kernel
theorem d_X7_figure_37 : decode prog_9_method_11_code 37 = .ok (.aload_n 0, 1) := by decide +kernel
theorem d_X7_figure_38 : decode prog_9_method_11_code 38 = .ok (.dup, 1) := by decide +kernel
theorem d_X7_figure_39 : decode prog_9_method_11_code 39 = .ok (.getfield 85, 3) := by decide +kernel
theorem d_X7_figure_42 : decode prog_9_method_11_code 42 = .ok (.iconst 1, 1) := by decide +kernel
theorem d_X7_figure_43 : decode prog_9_method_11_code 43 = .ok (.iadd, 1) := by decide +kernel
theorem d_X7_figure_44 : decode prog_9_method_11_code 44 = .ok (.putfield 85, 3) := by decide +kernel
theorem d_X7_figure_47 : decode prog_9_method_11_code 47 = .ok (.aload_n 0, 1) := by decide +kernel
theorem d_X7_figure_48 : decode prog_9_method_11_code 48 = .ok (.getfield 7, 3) := by decide +kernel
theorem d_X7_figure_51 : decode prog_9_method_11_code 51 = .ok (.aload_n 0, 1) := by decide +kernel
theorem d_X7_figure_52 : decode prog_9_method_11_code 52 = .ok (.getfield 85, 3) := by decide +kernel
theorem d_X7_figure_55 : decode prog_9_method_11_code 55 = .ok (.iconst 1, 1) := by decide +kernel
theorem d_X7_figure_56 : decode prog_9_method_11_code 56 = .ok (.isub, 1) := by decide +kernel
theorem d_X7_figure_57 : decode prog_9_method_11_code 57 = .ok (.iaload, 1) := by decide +kernel
theorem d_X7_figure_58 : decode prog_9_method_11_code 58 = .ok (.bipush 48, 2) := by decide +kernel
theorem d_X7_figure_60 : decode prog_9_method_11_code 60 = .ok (.isub, 1) := by decide +kernel
theorem d_X7_figure_61 : decode prog_9_method_11_code 61 = .ok (.ireturn, 1) := by decide +kernel
def m_X7_figure (sh : Sh) (v0 : Nat) (v1 : Int32) (v2 : Int32) (μ : Mu) : Option (Int32 × Mu) :=
  gd (iz sh 7 v0) <|
  if (gI μ v0 3) = (gI μ v0 2) then
    some ((-9), μ)
  else
    bd (gR μ v0 1) fun a3 =>
    gd (ix sh 8 a3 (gI μ v0 3)) <|
    bd (gI μ a3 (gI μ v0 3).toNatClampNeg) fun w5 =>
    ca2 (m_X7_in sh ((w5 - 48).toInt64) (v1.toInt64) (v2.toInt64) μ) fun r6 μ7 =>
    if r6 = 0 then
      some ((-9), μ7)
    else
      bd (sI μ7 v0 3 ((gI μ7 v0 3) + 1)) fun μ9 =>
      bd (gR μ9 v0 1) fun a10 =>
      gd (ix sh 8 a10 ((gI μ9 v0 3) - 1)) <|
      bd (gI μ9 a10 ((gI μ9 v0 3) - 1).toNatClampNeg) fun w12 =>
      some (w12 - 48, μ9)
set_option maxHeartbeats 4000000 in
set_option maxRecDepth 20000 in
theorem t_X7_figure {l : Launch} {G : Gl} {n : Nat} {sh : Sh} {x : Int32 × Mu} {v0 : Nat} {v1 : Int32} {v2 : Int32} {μ : Mu} (h : m_X7_figure sh v0 v1 v2 μ = some x) : Ct l G ⟨"StripsOfFourModel", "figure", "(II)I"⟩ prog_9_method_11_code 3 (some .int) { frames := 1, cells := 0, slots := 0, locals := 25 } n sh μ [vr v0, vi v1, vi v2] (some (.int x.1)) n sh x.2 := by
  refine Ct.of (lc := [some (vr v0), some (vi v1), some (vi v2)]) (by decide +kernel) (Nat.le_of_ble_eq_true rfl) rfl ?_
  show Sj l G (QI G n sh x) c_X7_figure n sh 0 0 μ 0 [some (vr v0), some (vi v1), some (vi v2)] []
  unfold m_X7_figure at h
  refine s_aload_n (pc := 0) d_X7_figure_0 rfl rfl ?_
  obtain ⟨g1, h⟩ := gd_1 h
  refine s_getI (pc := 1) (k := 3) cl_7 d_X7_figure_1 g1 (by decide) w_663 rfl ?_
  refine s_aload_n (pc := 4) d_X7_figure_4 rfl rfl ?_
  refine s_getI (pc := 5) (k := 2) cl_7 d_X7_figure_5 g1 (by decide) w_662 rfl ?_
  refine s_icmp_eq (pc := 8) (tgt := 34) d_X7_figure_8 (by decide) (fun c2 => ?_) (fun c2 => ?_)
  · have h := it_t c2 h
    refine s_bipush (pc := 34) (v := (-9)) d_X7_figure_34 (by decide) ?_
    obtain rfl := Option.some.inj h
    exact s_iret (pc := 36) d_X7_figure_36 rfl
  · have h := it_f c2 h
    refine s_aload_n (pc := 11) d_X7_figure_11 rfl rfl ?_
    refine s_getR (pc := 12) (k := 1) cl_7 d_X7_figure_12 g1 (by decide) w_661 (rt_arr _) ?_
    obtain ⟨a3, ea3, h⟩ := bd_1 h
    refine s_topR ea3 ?_
    refine s_aload_n (pc := 15) d_X7_figure_15 rfl rfl ?_
    refine s_getI (pc := 16) (k := 3) cl_7 d_X7_figure_16 g1 (by decide) w_663 rfl ?_
    obtain ⟨g4, h⟩ := gd_1 h
    refine s_iald (pc := 19) d_X7_figure_19 g4 ?_
    obtain ⟨w5, ew5, h⟩ := bd_1 h
    refine s_topI ew5 ?_
    refine s_bipush (pc := 20) (v := 48) d_X7_figure_20 (by decide) ?_
    refine s_isub (pc := 22) d_X7_figure_22 ?_
    refine s_i2l (pc := 23) d_X7_figure_23 ?_
    refine s_iload_n (pc := 24) d_X7_figure_24 rfl rfl ?_
    refine s_i2l (pc := 25) d_X7_figure_25 ?_
    refine s_iload_n (pc := 26) d_X7_figure_26 rfl rfl ?_
    refine s_i2l (pc := 27) d_X7_figure_27 ?_
    obtain ⟨r6, μ7, er6, h⟩ := ca2_1 h
    refine s_callS (pc := 28) (as := [vl ((w5 - 48).toInt64), vl (v1.toInt64), vl (v2.toInt64)]) (st := []) (vo := [vi r6]) (t_X7_in er6) d_X7_figure_28 y_X7_in w_754 w_755 ⟨by decide, by decide⟩ ⟨Nat.le_of_ble_eq_true rfl, Nat.le_of_ble_eq_true rfl⟩ (Nat.le_of_ble_eq_true rfl) rfl rfl rfl ?_
    refine s_as (kc' := 0) (js' := 0) (pc' := 31) (st' := [vi r6]) ⟨rfl, rfl, rfl, rfl⟩ ?_
    refine s_if_ne (pc := 31) (tgt := 37) d_X7_figure_31 (by decide) (fun c8 => ?_) (fun c8 => ?_)
    · have h := it_f c8 h
      refine s_aload_n (pc := 37) d_X7_figure_37 rfl rfl ?_
      refine s_dup (pc := 38) d_X7_figure_38 rfl ?_
      refine s_getI (pc := 39) (k := 3) cl_7 d_X7_figure_39 g1 (by decide) w_663 rfl ?_
      refine s_iconst (pc := 42) (v := 1) d_X7_figure_42 (by decide) ?_
      refine s_iadd (pc := 43) d_X7_figure_43 ?_
      refine s_putI (pc := 44) (k := 3) cl_7 d_X7_figure_44 g1 (by decide) w_663 rfl rfl ?_
      obtain ⟨μ9, eμ9, h⟩ := bd_1 h
      refine s_mu eμ9 ?_
      refine s_aload_n (pc := 47) d_X7_figure_47 rfl rfl ?_
      refine s_getR (pc := 48) (k := 1) cl_7 d_X7_figure_48 g1 (by decide) w_661 (rt_arr _) ?_
      obtain ⟨a10, ea10, h⟩ := bd_1 h
      refine s_topR ea10 ?_
      refine s_aload_n (pc := 51) d_X7_figure_51 rfl rfl ?_
      refine s_getI (pc := 52) (k := 3) cl_7 d_X7_figure_52 g1 (by decide) w_663 rfl ?_
      refine s_iconst (pc := 55) (v := 1) d_X7_figure_55 (by decide) ?_
      refine s_isub (pc := 56) d_X7_figure_56 ?_
      obtain ⟨g11, h⟩ := gd_1 h
      refine s_iald (pc := 57) d_X7_figure_57 g11 ?_
      obtain ⟨w12, ew12, h⟩ := bd_1 h
      refine s_topI ew12 ?_
      refine s_bipush (pc := 58) (v := 48) d_X7_figure_58 (by decide) ?_
      refine s_isub (pc := 60) d_X7_figure_60 ?_
      obtain rfl := Option.some.inj h
      exact s_iret (pc := 61) d_X7_figure_61 rfl
    · have h := it_t c8 h
      refine s_bipush (pc := 34) (v := (-9)) d_X7_figure_34 (by decide) ?_
      obtain rfl := Option.some.inj h
      exact s_iret (pc := 36) d_X7_figure_36 rfl
/-! StripsOfFourModel.readPart -/
abbrev c_X7_readPart : Cf := (prog_9_method_12_code, 4, "StripsOfFourModel", "readPart", (some .boolean), { frames := 2, cells := 0, slots := 0, locals := 47 })
theorem d_X7_readPart_0 : decode prog_9_method_12_code 0 = .ok (.aload_n 0, 1) := by decide +kernel
theorem d_X7_readPart_1 : decode prog_9_method_12_code 1 = .ok (.getfield 7, 3) := by decide +kernel
theorem d_X7_readPart_4 : decode prog_9_method_12_code 4 = .ok (.aload_n 0, 1) := by decide +kernel
theorem d_X7_readPart_5 : decode prog_9_method_12_code 5 = .ok (.getfield 85, 3) := by decide +kernel
theorem d_X7_readPart_8 : decode prog_9_method_12_code 8 = .ok (.iaload, 1) := by decide +kernel
theorem d_X7_readPart_9 : decode prog_9_method_12_code 9 = .ok (.istore_n 1, 1) := by decide +kernel
theorem d_X7_readPart_10 : decode prog_9_method_12_code 10 = .ok (.iload_n 1, 1) := by decide +kernel
theorem d_X7_readPart_11 : decode prog_9_method_12_code 11 = .ok (.bipush 83, 2) := by decide +kernel
theorem d_X7_readPart_13 : decode prog_9_method_12_code 13 = .ok (.if_icmp .ne 88, 3) := by decide +kernel
theorem d_X7_readPart_16 : decode prog_9_method_12_code 16 = .ok (.aload_n 0, 1) := by decide +kernel
theorem d_X7_readPart_17 : decode prog_9_method_12_code 17 = .ok (.getfield 88, 3) := by decide +kernel
theorem d_X7_readPart_20 : decode prog_9_method_12_code 20 = .ok (.iconst 2, 1) := by decide +kernel
theorem d_X7_readPart_21 : decode prog_9_method_12_code 21 = .ok (.if_icmp .ge 80, 3) := by decide +kernel
theorem d_X7_readPart_24 : decode prog_9_method_12_code 24 = .ok (.aload_n 0, 1) := by decide +kernel
theorem d_X7_readPart_25 : decode prog_9_method_12_code 25 = .ok (.dup, 1) := by decide +kernel
theorem d_X7_readPart_26 : decode prog_9_method_12_code 26 = .ok (.getfield 85, 3) := by decide +kernel
theorem d_X7_readPart_29 : decode prog_9_method_12_code 29 = .ok (.iconst 1, 1) := by decide +kernel
theorem d_X7_readPart_30 : decode prog_9_method_12_code 30 = .ok (.iadd, 1) := by decide +kernel
theorem d_X7_readPart_31 : decode prog_9_method_12_code 31 = .ok (.putfield 85, 3) := by decide +kernel
theorem d_X7_readPart_34 : decode prog_9_method_12_code 34 = .ok (.aload_n 0, 1) := by decide +kernel
theorem d_X7_readPart_35 : decode prog_9_method_12_code 35 = .ok (.iconst 0, 1) := by decide +kernel
theorem d_X7_readPart_36 : decode prog_9_method_12_code 36 = .ok (.bipush 9, 2) := by decide +kernel
theorem d_X7_readPart_38 : decode prog_9_method_12_code 38 = .ok (.invokevirtual 91, 3) := by decide +kernel
theorem d_X7_readPart_41 : decode prog_9_method_12_code 41 = .ok (.istore_n 2, 1) := by decide +kernel
theorem d_X7_readPart_42 : decode prog_9_method_12_code 42 = .ok (.iload_n 2, 1) := by decide +kernel
theorem d_X7_readPart_43 : decode prog_9_method_12_code 43 = .ok (.bipush (-9), 2) := by decide +kernel
theorem d_X7_readPart_45 : decode prog_9_method_12_code 45 = .ok (.if_icmp .ne 8, 3) := by decide +kernel
theorem d_X7_readPart_48 : decode prog_9_method_12_code 48 = .ok (.bipush (-9), 2) := by decide +kernel
theorem d_X7_readPart_50 : decode prog_9_method_12_code 50 = .ok (.goto 10, 3) := by decide +kernel
theorem d_X7_readPart_53 : decode prog_9_method_12_code 53 = .ok (.aload_n 0, 1) := by decide +kernel
theorem d_X7_readPart_54 : decode prog_9_method_12_code 54 = .ok (.iconst 1, 1) := by decide +kernel
theorem d_X7_readPart_55 : decode prog_9_method_12_code 55 = .ok (.bipush 9, 2) := by decide +kernel
theorem d_X7_readPart_57 : decode prog_9_method_12_code 57 = .ok (.invokevirtual 91, 3) := by decide +kernel
theorem d_X7_readPart_60 : decode prog_9_method_12_code 60 = .ok (.istore_n 3, 1) := by decide +kernel
theorem d_X7_readPart_61 : decode prog_9_method_12_code 61 = .ok (.iload_n 3, 1) := by decide +kernel
theorem d_X7_readPart_62 : decode prog_9_method_12_code 62 = .ok (.bipush (-9), 2) := by decide +kernel
theorem d_X7_readPart_64 : decode prog_9_method_12_code 64 = .ok (.if_icmp .ne 5, 3) := by decide +kernel
theorem d_X7_readPart_67 : decode prog_9_method_12_code 67 = .ok (.iconst 0, 1) := by decide +kernel
theorem d_X7_readPart_68 : decode prog_9_method_12_code 68 = .ok (.ireturn, 1) := by decide +kernel
theorem d_X7_readPart_69 : decode prog_9_method_12_code 69 = .ok (.aload_n 0, 1) := by decide +kernel
theorem d_X7_readPart_70 : decode prog_9_method_12_code 70 = .ok (.getfield 22, 3) := by decide +kernel
theorem d_X7_readPart_73 : decode prog_9_method_12_code 73 = .ok (.aload_n 0, 1) := by decide +kernel
theorem d_X7_readPart_74 : decode prog_9_method_12_code 74 = .ok (.getfield 88, 3) := by decide +kernel
theorem d_X7_readPart_77 : decode prog_9_method_12_code 77 = .ok (.iload_n 2, 1) := by decide +kernel
theorem d_X7_readPart_78 : decode prog_9_method_12_code 78 = .ok (.iastore, 1) := by decide +kernel
theorem d_X7_readPart_79 : decode prog_9_method_12_code 79 = .ok (.aload_n 0, 1) := by decide +kernel
theorem d_X7_readPart_80 : decode prog_9_method_12_code 80 = .ok (.getfield 25, 3) := by decide +kernel
theorem d_X7_readPart_83 : decode prog_9_method_12_code 83 = .ok (.aload_n 0, 1) := by decide +kernel
theorem d_X7_readPart_84 : decode prog_9_method_12_code 84 = .ok (.getfield 88, 3) := by decide +kernel
theorem d_X7_readPart_87 : decode prog_9_method_12_code 87 = .ok (.iload_n 3, 1) := by decide +kernel
theorem d_X7_readPart_88 : decode prog_9_method_12_code 88 = .ok (.iastore, 1) := by decide +kernel
theorem d_X7_readPart_89 : decode prog_9_method_12_code 89 = .ok (.aload_n 0, 1) := by decide +kernel
theorem d_X7_readPart_90 : decode prog_9_method_12_code 90 = .ok (.dup, 1) := by decide +kernel
theorem d_X7_readPart_91 : decode prog_9_method_12_code 91 = .ok (.getfield 88, 3) := by decide +kernel
theorem d_X7_readPart_94 : decode prog_9_method_12_code 94 = .ok (.iconst 1, 1) := by decide +kernel
theorem d_X7_readPart_95 : decode prog_9_method_12_code 95 = .ok (.iadd, 1) := by decide +kernel
theorem d_X7_readPart_96 : decode prog_9_method_12_code 96 = .ok (.putfield 88, 3) := by decide +kernel
theorem d_X7_readPart_99 : decode prog_9_method_12_code 99 = .ok (.iconst 1, 1) := by decide +kernel
theorem d_X7_readPart_100 : decode prog_9_method_12_code 100 = .ok (.ireturn, 1) := by decide +kernel
theorem d_X7_readPart_101 : decode prog_9_method_12_code 101 = .ok (.iload_n 1, 1) := by decide +kernel
theorem d_X7_readPart_102 : decode prog_9_method_12_code 102 = .ok (.bipush 80, 2) := by decide +kernel
theorem d_X7_readPart_104 : decode prog_9_method_12_code 104 = .ok (.if_icmp .ne 59, 3) := by decide +kernel
theorem d_X7_readPart_107 : decode prog_9_method_12_code 107 = .ok (.aload_n 0, 1) := by decide +kernel
theorem d_X7_readPart_108 : decode prog_9_method_12_code 108 = .ok (.getfield 95, 3) := by decide +kernel
theorem d_X7_readPart_111 : decode prog_9_method_12_code 111 = .ok (.iconst 5, 1) := by decide +kernel
theorem d_X7_readPart_112 : decode prog_9_method_12_code 112 = .ok (.if_icmp .ge 51, 3) := by decide +kernel
theorem d_X7_readPart_115 : decode prog_9_method_12_code 115 = .ok (.aload_n 0, 1) := by decide +kernel
theorem d_X7_readPart_116 : decode prog_9_method_12_code 116 = .ok (.dup, 1) := by decide +kernel
theorem d_X7_readPart_117 : decode prog_9_method_12_code 117 = .ok (.getfield 85, 3) := by decide +kernel
theorem d_X7_readPart_120 : decode prog_9_method_12_code 120 = .ok (.iconst 1, 1) := by decide +kernel
theorem d_X7_readPart_121 : decode prog_9_method_12_code 121 = .ok (.iadd, 1) := by decide +kernel
theorem d_X7_readPart_122 : decode prog_9_method_12_code 122 = .ok (.putfield 85, 3) := by decide +kernel
theorem d_X7_readPart_125 : decode prog_9_method_12_code 125 = .ok (.aload_n 0, 1) := by decide +kernel
theorem d_X7_readPart_126 : decode prog_9_method_12_code 126 = .ok (.iconst 0, 1) := by decide +kernel
theorem d_X7_readPart_127 : decode prog_9_method_12_code 127 = .ok (.bipush 9, 2) := by decide +kernel
theorem d_X7_readPart_129 : decode prog_9_method_12_code 129 = .ok (.invokevirtual 91, 3) := by decide +kernel
theorem d_X7_readPart_132 : decode prog_9_method_12_code 132 = .ok (.istore_n 2, 1) := by decide +kernel
theorem d_X7_readPart_133 : decode prog_9_method_12_code 133 = .ok (.iload_n 2, 1) := by decide +kernel
theorem d_X7_readPart_134 : decode prog_9_method_12_code 134 = .ok (.bipush (-9), 2) := by decide +kernel
theorem d_X7_readPart_136 : decode prog_9_method_12_code 136 = .ok (.if_icmp .ne 5, 3) := by decide +kernel
theorem d_X7_readPart_139 : decode prog_9_method_12_code 139 = .ok (.iconst 0, 1) := by decide +kernel
theorem d_X7_readPart_140 : decode prog_9_method_12_code 140 = .ok (.ireturn, 1) := by decide +kernel
theorem d_X7_readPart_141 : decode prog_9_method_12_code 141 = .ok (.aload_n 0, 1) := by decide +kernel
theorem d_X7_readPart_142 : decode prog_9_method_12_code 142 = .ok (.getfield 28, 3) := by decide +kernel
theorem d_X7_readPart_145 : decode prog_9_method_12_code 145 = .ok (.aload_n 0, 1) := by decide +kernel
theorem d_X7_readPart_146 : decode prog_9_method_12_code 146 = .ok (.getfield 95, 3) := by decide +kernel
theorem d_X7_readPart_149 : decode prog_9_method_12_code 149 = .ok (.iload_n 2, 1) := by decide +kernel
theorem d_X7_readPart_150 : decode prog_9_method_12_code 150 = .ok (.iastore, 1) := by decide +kernel
theorem d_X7_readPart_151 : decode prog_9_method_12_code 151 = .ok (.aload_n 0, 1) := by decide +kernel
theorem d_X7_readPart_152 : decode prog_9_method_12_code 152 = .ok (.dup, 1) := by decide +kernel
theorem d_X7_readPart_153 : decode prog_9_method_12_code 153 = .ok (.getfield 95, 3) := by decide +kernel
theorem d_X7_readPart_156 : decode prog_9_method_12_code 156 = .ok (.iconst 1, 1) := by decide +kernel
theorem d_X7_readPart_157 : decode prog_9_method_12_code 157 = .ok (.iadd, 1) := by decide +kernel
theorem d_X7_readPart_158 : decode prog_9_method_12_code 158 = .ok (.putfield 95, 3) := by decide +kernel
theorem d_X7_readPart_161 : decode prog_9_method_12_code 161 = .ok (.iconst 1, 1) := by decide +kernel
theorem d_X7_readPart_162 : decode prog_9_method_12_code 162 = .ok (.ireturn, 1) := by decide +kernel
theorem d_X7_readPart_163 : decode prog_9_method_12_code 163 = .ok (.iconst 0, 1) := by decide +kernel
theorem d_X7_readPart_164 : decode prog_9_method_12_code 164 = .ok (.ireturn, 1) := by decide +kernel
def m_X7_readPart_b101 (sh : Sh) (v0 : Nat) (v1 : Int32) (μ : Mu) : Option (Int32 × Mu) :=
  if v1 = 80 then
    gd (iz sh 7 v0) <|
    if 5 ≤ (gI μ v0 12) then
      some (0, μ)
    else
      bd (sI μ v0 3 ((gI μ v0 3) + 1)) fun μ16 =>
      ca2 (m_X7_figure sh v0 0 9 μ16) fun r17 μ18 =>
      if r17 = (-9) then
        some (0, μ18)
      else
        bd (gR μ18 v0 15) fun a20 =>
        gd (ix sh 8 a20 (gI μ18 v0 12)) <|
        bd (sI μ18 a20 (gI μ18 v0 12).toNatClampNeg r17) fun μ22 =>
        bd (sI μ22 v0 12 ((gI μ22 v0 12) + 1)) fun μ23 =>
        some (1, μ23)
  else
    some (0, μ)
def m_X7_readPart_b60 (sh : Sh) (v0 : Nat) (v2 : Int32) (s0 : Int32) (μ : Mu) : Option (Int32 × Mu) :=
  if s0 = (-9) then
    some (0, μ)
  else
    gd (iz sh 7 v0) <|
    bd (gR μ v0 13) fun a26 =>
    gd (ix sh 8 a26 (gI μ v0 11)) <|
    bd (sI μ a26 (gI μ v0 11).toNatClampNeg v2) fun μ28 =>
    bd (gR μ28 v0 14) fun a29 =>
    gd (ix sh 8 a29 (gI μ28 v0 11)) <|
    bd (sI μ28 a29 (gI μ28 v0 11).toNatClampNeg s0) fun μ31 =>
    bd (sI μ31 v0 11 ((gI μ31 v0 11) + 1)) fun μ32 =>
    some (1, μ32)
def m_X7_readPart (sh : Sh) (v0 : Nat) (μ : Mu) : Option (Int32 × Mu) :=
  gd (iz sh 7 v0) <|
  bd (gR μ v0 1) fun a2 =>
  gd (ix sh 8 a2 (gI μ v0 3)) <|
  bd (gI μ a2 (gI μ v0 3).toNatClampNeg) fun w4 =>
  if w4 = 83 then
    if 2 ≤ (gI μ v0 11) then
      m_X7_readPart_b101 sh v0 w4 μ
    else
      bd (sI μ v0 3 ((gI μ v0 3) + 1)) fun μ7 =>
      ca2 (m_X7_figure sh v0 0 9 μ7) fun r8 μ9 =>
      if r8 = (-9) then
        m_X7_readPart_b60 sh v0 r8 (-9) μ9
      else
        ca2 (m_X7_figure sh v0 1 9 μ9) fun r11 μ12 =>
        m_X7_readPart_b60 sh v0 r8 r11 μ12
  else
    m_X7_readPart_b101 sh v0 w4 μ
set_option maxHeartbeats 4000000 in
set_option maxRecDepth 20000 in
theorem t_X7_readPart_b101 {l : Launch} {G : Gl} {n : Nat} {sh : Sh} {x : Int32 × Mu} {v0 : Nat} {v1 : Int32} {μ : Mu} (h : m_X7_readPart_b101 sh v0 v1 μ = some x) : Sj l G (QI G n sh x) c_X7_readPart n sh 0 0 μ 101 [some (vr v0), some (vi v1), none, none] [] := by
  unfold m_X7_readPart_b101 at h
  refine s_iload_n (pc := 101) d_X7_readPart_101 rfl rfl ?_
  refine s_bipush (pc := 102) (v := 80) d_X7_readPart_102 (by decide) ?_
  refine s_icmp_ne (pc := 104) (tgt := 163) d_X7_readPart_104 (by decide) (fun c13 => ?_) (fun c13 => ?_)
  · have h := it_f c13 h
    refine s_iconst (pc := 163) (v := 0) d_X7_readPart_163 (by decide) ?_
    obtain rfl := Option.some.inj h
    exact s_zret0 (pc := 164) rfl d_X7_readPart_164 rfl
  · have h := it_t c13 h
    refine s_aload_n (pc := 107) d_X7_readPart_107 rfl rfl ?_
    obtain ⟨g14, h⟩ := gd_1 h
    refine s_getI (pc := 108) (k := 12) cl_7 d_X7_readPart_108 g14 (by decide) w_672 rfl ?_
    refine s_iconst (pc := 111) (v := 5) d_X7_readPart_111 (by decide) ?_
    refine s_icmp_ge (pc := 112) (tgt := 163) d_X7_readPart_112 (by decide) (fun c15 => ?_) (fun c15 => ?_)
    · have h := it_t c15 h
      refine s_iconst (pc := 163) (v := 0) d_X7_readPart_163 (by decide) ?_
      obtain rfl := Option.some.inj h
      exact s_zret0 (pc := 164) rfl d_X7_readPart_164 rfl
    · have h := it_f c15 h
      refine s_aload_n (pc := 115) d_X7_readPart_115 rfl rfl ?_
      refine s_dup (pc := 116) d_X7_readPart_116 rfl ?_
      refine s_getI (pc := 117) (k := 3) cl_7 d_X7_readPart_117 g14 (by decide) w_663 rfl ?_
      refine s_iconst (pc := 120) (v := 1) d_X7_readPart_120 (by decide) ?_
      refine s_iadd (pc := 121) d_X7_readPart_121 ?_
      refine s_putI (pc := 122) (k := 3) cl_7 d_X7_readPart_122 g14 (by decide) w_663 rfl rfl ?_
      obtain ⟨μ16, eμ16, h⟩ := bd_1 h
      refine s_mu eμ16 ?_
      refine s_aload_n (pc := 125) d_X7_readPart_125 rfl rfl ?_
      refine s_iconst (pc := 126) (v := 0) d_X7_readPart_126 (by decide) ?_
      refine s_bipush (pc := 127) (v := 9) d_X7_readPart_127 (by decide) ?_
      obtain ⟨r17, μ18, er17, h⟩ := ca2_1 h
      refine s_callV (pc := 129) (as := [vi 0, vi 9]) (st := []) (vo := [vi r17]) (t_X7_figure er17) cl_7 g14 d_X7_readPart_129 y_X7_figure w_769 w_771 w_s12 ⟨by decide, by decide⟩ ⟨Nat.le_of_ble_eq_true rfl, Nat.le_of_ble_eq_true rfl⟩ (Nat.le_of_ble_eq_true rfl) rfl rfl rfl ?_
      refine s_as (kc' := 0) (js' := 0) (pc' := 132) (st' := [vi r17]) ⟨rfl, rfl, rfl, rfl⟩ ?_
      refine s_istore_n (pc := 132) (lc' := [some (vr v0), some (vi v1), some (vi r17), none]) d_X7_readPart_132 rfl (by decide) rfl ?_
      refine s_iload_n (pc := 133) d_X7_readPart_133 rfl rfl ?_
      refine s_bipush (pc := 134) (v := (-9)) d_X7_readPart_134 (by decide) ?_
      refine s_icmp_ne (pc := 136) (tgt := 141) d_X7_readPart_136 (by decide) (fun c19 => ?_) (fun c19 => ?_)
      · have h := it_f c19 h
        refine s_aload_n (pc := 141) d_X7_readPart_141 rfl rfl ?_
        refine s_getR (pc := 142) (k := 15) cl_7 d_X7_readPart_142 g14 (by decide) w_675 (rt_arr _) ?_
        obtain ⟨a20, ea20, h⟩ := bd_1 h
        refine s_topR ea20 ?_
        refine s_aload_n (pc := 145) d_X7_readPart_145 rfl rfl ?_
        refine s_getI (pc := 146) (k := 12) cl_7 d_X7_readPart_146 g14 (by decide) w_672 rfl ?_
        refine s_iload_n (pc := 149) d_X7_readPart_149 rfl rfl ?_
        obtain ⟨g21, h⟩ := gd_1 h
        refine s_iast (pc := 150) d_X7_readPart_150 g21 ?_
        obtain ⟨μ22, eμ22, h⟩ := bd_1 h
        refine s_mu eμ22 ?_
        refine s_aload_n (pc := 151) d_X7_readPart_151 rfl rfl ?_
        refine s_dup (pc := 152) d_X7_readPart_152 rfl ?_
        refine s_getI (pc := 153) (k := 12) cl_7 d_X7_readPart_153 g14 (by decide) w_672 rfl ?_
        refine s_iconst (pc := 156) (v := 1) d_X7_readPart_156 (by decide) ?_
        refine s_iadd (pc := 157) d_X7_readPart_157 ?_
        refine s_putI (pc := 158) (k := 12) cl_7 d_X7_readPart_158 g14 (by decide) w_672 rfl rfl ?_
        obtain ⟨μ23, eμ23, h⟩ := bd_1 h
        refine s_mu eμ23 ?_
        refine s_iconst (pc := 161) (v := 1) d_X7_readPart_161 (by decide) ?_
        obtain rfl := Option.some.inj h
        exact s_zret0 (pc := 162) rfl d_X7_readPart_162 rfl
      · have h := it_t c19 h
        refine s_iconst (pc := 139) (v := 0) d_X7_readPart_139 (by decide) ?_
        obtain rfl := Option.some.inj h
        exact s_zret0 (pc := 140) rfl d_X7_readPart_140 rfl
set_option maxHeartbeats 4000000 in
set_option maxRecDepth 20000 in
theorem t_X7_readPart_b60 {l : Launch} {G : Gl} {n : Nat} {sh : Sh} {x : Int32 × Mu} {v0 : Nat} {v2 : Int32} {s0 : Int32} {μ : Mu} (h : m_X7_readPart_b60 sh v0 v2 s0 μ = some x) : Sj l G (QI G n sh x) c_X7_readPart n sh 0 0 μ 60 [some (vr v0), none, some (vi v2), none] [vi s0] := by
  unfold m_X7_readPart_b60 at h
  refine s_istore_n (pc := 60) (lc' := [some (vr v0), none, some (vi v2), some (vi s0)]) d_X7_readPart_60 rfl (by decide) rfl ?_
  refine s_iload_n (pc := 61) d_X7_readPart_61 rfl rfl ?_
  refine s_bipush (pc := 62) (v := (-9)) d_X7_readPart_62 (by decide) ?_
  refine s_icmp_ne (pc := 64) (tgt := 69) d_X7_readPart_64 (by decide) (fun c24 => ?_) (fun c24 => ?_)
  · have h := it_f c24 h
    refine s_aload_n (pc := 69) d_X7_readPart_69 rfl rfl ?_
    obtain ⟨g25, h⟩ := gd_1 h
    refine s_getR (pc := 70) (k := 13) cl_7 d_X7_readPart_70 g25 (by decide) w_673 (rt_arr _) ?_
    obtain ⟨a26, ea26, h⟩ := bd_1 h
    refine s_topR ea26 ?_
    refine s_aload_n (pc := 73) d_X7_readPart_73 rfl rfl ?_
    refine s_getI (pc := 74) (k := 11) cl_7 d_X7_readPart_74 g25 (by decide) w_671 rfl ?_
    refine s_iload_n (pc := 77) d_X7_readPart_77 rfl rfl ?_
    obtain ⟨g27, h⟩ := gd_1 h
    refine s_iast (pc := 78) d_X7_readPart_78 g27 ?_
    obtain ⟨μ28, eμ28, h⟩ := bd_1 h
    refine s_mu eμ28 ?_
    refine s_aload_n (pc := 79) d_X7_readPart_79 rfl rfl ?_
    refine s_getR (pc := 80) (k := 14) cl_7 d_X7_readPart_80 g25 (by decide) w_674 (rt_arr _) ?_
    obtain ⟨a29, ea29, h⟩ := bd_1 h
    refine s_topR ea29 ?_
    refine s_aload_n (pc := 83) d_X7_readPart_83 rfl rfl ?_
    refine s_getI (pc := 84) (k := 11) cl_7 d_X7_readPart_84 g25 (by decide) w_671 rfl ?_
    refine s_iload_n (pc := 87) d_X7_readPart_87 rfl rfl ?_
    obtain ⟨g30, h⟩ := gd_1 h
    refine s_iast (pc := 88) d_X7_readPart_88 g30 ?_
    obtain ⟨μ31, eμ31, h⟩ := bd_1 h
    refine s_mu eμ31 ?_
    refine s_aload_n (pc := 89) d_X7_readPart_89 rfl rfl ?_
    refine s_dup (pc := 90) d_X7_readPart_90 rfl ?_
    refine s_getI (pc := 91) (k := 11) cl_7 d_X7_readPart_91 g25 (by decide) w_671 rfl ?_
    refine s_iconst (pc := 94) (v := 1) d_X7_readPart_94 (by decide) ?_
    refine s_iadd (pc := 95) d_X7_readPart_95 ?_
    refine s_putI (pc := 96) (k := 11) cl_7 d_X7_readPart_96 g25 (by decide) w_671 rfl rfl ?_
    obtain ⟨μ32, eμ32, h⟩ := bd_1 h
    refine s_mu eμ32 ?_
    refine s_iconst (pc := 99) (v := 1) d_X7_readPart_99 (by decide) ?_
    obtain rfl := Option.some.inj h
    exact s_zret0 (pc := 100) rfl d_X7_readPart_100 rfl
  · have h := it_t c24 h
    refine s_iconst (pc := 67) (v := 0) d_X7_readPart_67 (by decide) ?_
    obtain rfl := Option.some.inj h
    exact s_zret0 (pc := 68) rfl d_X7_readPart_68 rfl
set_option maxHeartbeats 4000000 in
set_option maxRecDepth 20000 in
theorem t_X7_readPart {l : Launch} {G : Gl} {n : Nat} {sh : Sh} {x : Int32 × Mu} {v0 : Nat} {μ : Mu} (h : m_X7_readPart sh v0 μ = some x) : Ct l G ⟨"StripsOfFourModel", "readPart", "()Z"⟩ prog_9_method_12_code 4 (some .boolean) { frames := 2, cells := 0, slots := 0, locals := 47 } n sh μ [vr v0] (some (.int x.1)) n sh x.2 := by
  refine Ct.of (lc := [some (vr v0), none, none, none]) (by decide +kernel) (Nat.le_of_ble_eq_true rfl) rfl ?_
  show Sj l G (QI G n sh x) c_X7_readPart n sh 0 0 μ 0 [some (vr v0), none, none, none] []
  unfold m_X7_readPart at h
  refine s_aload_n (pc := 0) d_X7_readPart_0 rfl rfl ?_
  obtain ⟨g1, h⟩ := gd_1 h
  refine s_getR (pc := 1) (k := 1) cl_7 d_X7_readPart_1 g1 (by decide) w_661 (rt_arr _) ?_
  obtain ⟨a2, ea2, h⟩ := bd_1 h
  refine s_topR ea2 ?_
  refine s_aload_n (pc := 4) d_X7_readPart_4 rfl rfl ?_
  refine s_getI (pc := 5) (k := 3) cl_7 d_X7_readPart_5 g1 (by decide) w_663 rfl ?_
  obtain ⟨g3, h⟩ := gd_1 h
  refine s_iald (pc := 8) d_X7_readPart_8 g3 ?_
  obtain ⟨w4, ew4, h⟩ := bd_1 h
  refine s_topI ew4 ?_
  refine s_istore_n (pc := 9) (lc' := [some (vr v0), some (vi w4), none, none]) d_X7_readPart_9 rfl (by decide) rfl ?_
  refine s_iload_n (pc := 10) d_X7_readPart_10 rfl rfl ?_
  refine s_bipush (pc := 11) (v := 83) d_X7_readPart_11 (by decide) ?_
  refine s_icmp_ne (pc := 13) (tgt := 101) d_X7_readPart_13 (by decide) (fun c5 => ?_) (fun c5 => ?_)
  · have h := it_f c5 h
    exact t_X7_readPart_b101 h
  · have h := it_t c5 h
    refine s_aload_n (pc := 16) d_X7_readPart_16 rfl rfl ?_
    refine s_getI (pc := 17) (k := 11) cl_7 d_X7_readPart_17 g1 (by decide) w_671 rfl ?_
    refine s_iconst (pc := 20) (v := 2) d_X7_readPart_20 (by decide) ?_
    refine s_icmp_ge (pc := 21) (tgt := 101) d_X7_readPart_21 (by decide) (fun c6 => ?_) (fun c6 => ?_)
    · have h := it_t c6 h
      exact t_X7_readPart_b101 h
    · have h := it_f c6 h
      refine s_aload_n (pc := 24) d_X7_readPart_24 rfl rfl ?_
      refine s_dup (pc := 25) d_X7_readPart_25 rfl ?_
      refine s_getI (pc := 26) (k := 3) cl_7 d_X7_readPart_26 g1 (by decide) w_663 rfl ?_
      refine s_iconst (pc := 29) (v := 1) d_X7_readPart_29 (by decide) ?_
      refine s_iadd (pc := 30) d_X7_readPart_30 ?_
      refine s_putI (pc := 31) (k := 3) cl_7 d_X7_readPart_31 g1 (by decide) w_663 rfl rfl ?_
      obtain ⟨μ7, eμ7, h⟩ := bd_1 h
      refine s_mu eμ7 ?_
      refine s_aload_n (pc := 34) d_X7_readPart_34 rfl rfl ?_
      refine s_iconst (pc := 35) (v := 0) d_X7_readPart_35 (by decide) ?_
      refine s_bipush (pc := 36) (v := 9) d_X7_readPart_36 (by decide) ?_
      obtain ⟨r8, μ9, er8, h⟩ := ca2_1 h
      refine s_callV (pc := 38) (as := [vi 0, vi 9]) (st := []) (vo := [vi r8]) (t_X7_figure er8) cl_7 g1 d_X7_readPart_38 y_X7_figure w_769 w_771 w_s12 ⟨by decide, by decide⟩ ⟨Nat.le_of_ble_eq_true rfl, Nat.le_of_ble_eq_true rfl⟩ (Nat.le_of_ble_eq_true rfl) rfl rfl rfl ?_
      refine s_as (kc' := 0) (js' := 0) (pc' := 41) (st' := [vi r8]) ⟨rfl, rfl, rfl, rfl⟩ ?_
      refine s_istore_n (pc := 41) (lc' := [some (vr v0), some (vi w4), some (vi r8), none]) d_X7_readPart_41 rfl (by decide) rfl ?_
      refine s_iload_n (pc := 42) d_X7_readPart_42 rfl rfl ?_
      refine s_bipush (pc := 43) (v := (-9)) d_X7_readPart_43 (by decide) ?_
      refine s_icmp_ne (pc := 45) (tgt := 53) d_X7_readPart_45 (by decide) (fun c10 => ?_) (fun c10 => ?_)
      · have h := it_f c10 h
        refine s_aload_n (pc := 53) d_X7_readPart_53 rfl rfl ?_
        refine s_iconst (pc := 54) (v := 1) d_X7_readPart_54 (by decide) ?_
        refine s_bipush (pc := 55) (v := 9) d_X7_readPart_55 (by decide) ?_
        obtain ⟨r11, μ12, er11, h⟩ := ca2_1 h
        refine s_callV (pc := 57) (as := [vi 1, vi 9]) (st := []) (vo := [vi r11]) (t_X7_figure er11) cl_7 g1 d_X7_readPart_57 y_X7_figure w_769 w_771 w_s12 ⟨by decide, by decide⟩ ⟨Nat.le_of_ble_eq_true rfl, Nat.le_of_ble_eq_true rfl⟩ (Nat.le_of_ble_eq_true rfl) rfl rfl rfl ?_
        refine s_as (kc' := 0) (js' := 0) (pc' := 60) (st' := [vi r11]) ⟨rfl, rfl, rfl, rfl⟩ ?_
        refine s_mask [true, false, true, true] rfl ?_
        exact t_X7_readPart_b60 h
      · have h := it_t c10 h
        refine s_bipush (pc := 48) (v := (-9)) d_X7_readPart_48 (by decide) ?_
        refine s_goto (pc := 50) (tgt := 60) d_X7_readPart_50 (by decide) ?_
        refine s_mask [true, false, true, true] rfl ?_
        exact t_X7_readPart_b60 h
/-! StripsOfFourModel.readFair -/
abbrev c_X7_readFair : Cf := (prog_9_method_13_code, 1, "StripsOfFourModel", "readFair", (some .int), { frames := 3, cells := 0, slots := 0, locals := 70 })
theorem d_X7_readFair_0 : decode prog_9_method_13_code 0 = .ok (.aload_n 0, 1) := by decide +kernel
theorem d_X7_readFair_1 : decode prog_9_method_13_code 1 = .ok (.iconst 0, 1) := by decide +kernel
theorem d_X7_readFair_2 : decode prog_9_method_13_code 2 = .ok (.putfield 85, 3) := by decide +kernel
theorem d_X7_readFair_5 : decode prog_9_method_13_code 5 = .ok (.aload_n 0, 1) := by decide +kernel
theorem d_X7_readFair_6 : decode prog_9_method_13_code 6 = .ok (.iconst 0, 1) := by decide +kernel
theorem d_X7_readFair_7 : decode prog_9_method_13_code 7 = .ok (.putfield 88, 3) := by decide +kernel
theorem d_X7_readFair_10 : decode prog_9_method_13_code 10 = .ok (.aload_n 0, 1) := by decide +kernel
theorem d_X7_readFair_11 : decode prog_9_method_13_code 11 = .ok (.iconst 0, 1) := by decide +kernel
theorem d_X7_readFair_12 : decode prog_9_method_13_code 12 = .ok (.putfield 95, 3) := by decide +kernel
theorem d_X7_readFair_15 : decode prog_9_method_13_code 15 = .ok (.aload_n 0, 1) := by decide +kernel
theorem d_X7_readFair_16 : decode prog_9_method_13_code 16 = .ok (.getfield 82, 3) := by decide +kernel
theorem d_X7_readFair_19 : decode prog_9_method_13_code 19 = .ok (.ifCond .eq 14, 3) := by decide +kernel
theorem d_X7_readFair_22 : decode prog_9_method_13_code 22 = .ok (.aload_n 0, 1) := by decide +kernel
theorem d_X7_readFair_23 : decode prog_9_method_13_code 23 = .ok (.getfield 7, 3) := by decide +kernel
theorem d_X7_readFair_26 : decode prog_9_method_13_code 26 = .ok (.iconst 0, 1) := by decide +kernel
theorem d_X7_readFair_27 : decode prog_9_method_13_code 27 = .ok (.iaload, 1) := by decide +kernel
theorem d_X7_readFair_28 : decode prog_9_method_13_code 28 = .ok (.bipush 66, 2) := by decide +kernel
theorem d_X7_readFair_30 : decode prog_9_method_13_code 30 = .ok (.if_icmp .eq 5, 3) := by decide +kernel
theorem d_X7_readFair_33 : decode prog_9_method_13_code 33 = .ok (.iconst 0, 1) := by decide +kernel
theorem d_X7_readFair_34 : decode prog_9_method_13_code 34 = .ok (.ireturn, 1) := by decide +kernel
theorem d_X7_readFair_35 : decode prog_9_method_13_code 35 = .ok (.aload_n 0, 1) := by decide +kernel
theorem d_X7_readFair_36 : decode prog_9_method_13_code 36 = .ok (.iconst 1, 1) := by decide +kernel
theorem d_X7_readFair_37 : decode prog_9_method_13_code 37 = .ok (.putfield 85, 3) := by decide +kernel
theorem d_X7_readFair_40 : decode prog_9_method_13_code 40 = .ok (.aload_n 0, 1) := by decide +kernel
theorem d_X7_readFair_41 : decode prog_9_method_13_code 41 = .ok (.aload_n 0, 1) := by decide +kernel
theorem d_X7_readFair_42 : decode prog_9_method_13_code 42 = .ok (.iconst 0, 1) := by decide +kernel
theorem d_X7_readFair_43 : decode prog_9_method_13_code 43 = .ok (.bipush 9, 2) := by decide +kernel
theorem d_X7_readFair_45 : decode prog_9_method_13_code 45 = .ok (.invokevirtual 91, 3) := by decide +kernel
theorem d_X7_readFair_48 : decode prog_9_method_13_code 48 = .ok (.putfield 98, 3) := by decide +kernel
theorem d_X7_readFair_51 : decode prog_9_method_13_code 51 = .ok (.aload_n 0, 1) := by decide +kernel
theorem d_X7_readFair_52 : decode prog_9_method_13_code 52 = .ok (.getfield 98, 3) := by decide +kernel
theorem d_X7_readFair_55 : decode prog_9_method_13_code 55 = .ok (.bipush (-9), 2) := by decide +kernel
theorem d_X7_readFair_57 : decode prog_9_method_13_code 57 = .ok (.if_icmp .ne 5, 3) := by decide +kernel
theorem d_X7_readFair_60 : decode prog_9_method_13_code 60 = .ok (.iconst 1, 1) := by decide +kernel
theorem d_X7_readFair_61 : decode prog_9_method_13_code 61 = .ok (.ireturn, 1) := by decide +kernel
theorem d_X7_readFair_62 : decode prog_9_method_13_code 62 = .ok (.aload_n 0, 1) := by decide +kernel
theorem d_X7_readFair_63 : decode prog_9_method_13_code 63 = .ok (.getfield 85, 3) := by decide +kernel
theorem d_X7_readFair_66 : decode prog_9_method_13_code 66 = .ok (.aload_n 0, 1) := by decide +kernel
theorem d_X7_readFair_67 : decode prog_9_method_13_code 67 = .ok (.getfield 82, 3) := by decide +kernel
theorem d_X7_readFair_70 : decode prog_9_method_13_code 70 = .ok (.if_icmp .ge 15, 3) := by decide +kernel
theorem d_X7_readFair_73 : decode prog_9_method_13_code 73 = .ok (.aload_n 0, 1) := by decide +kernel
theorem d_X7_readFair_74 : decode prog_9_method_13_code 74 = .ok (.invokevirtual 101, 3) := by decide +kernel
theorem d_X7_readFair_77 : decode prog_9_method_13_code 77 = .ok (.ifCond .ne (-15), 3) := by decide +kernel
theorem d_X7_readFair_80 : decode prog_9_method_13_code 80 = .ok (.aload_n 0, 1) := by decide +kernel
theorem d_X7_readFair_81 : decode prog_9_method_13_code 81 = .ok (.getfield 85, 3) := by decide +kernel
theorem d_X7_readFair_84 : decode prog_9_method_13_code 84 = .ok (.ireturn, 1) := by decide +kernel
theorem d_X7_readFair_85 : decode prog_9_method_13_code 85 = .ok (.bipush (-9), 2) := by decide +kernel
theorem d_X7_readFair_87 : decode prog_9_method_13_code 87 = .ok (.ireturn, 1) := by decide +kernel
def m_X7_readFair_b62 (sh : Sh) (k62 : Mu → Option (Int32 × Mu)) (v0 : Nat) (μ : Mu) : Option (Int32 × Mu) :=
  gd (iz sh 7 v0) <|
  if (gI μ v0 2) ≤ (gI μ v0 3) then
    some ((-9), μ)
  else
    ca2 (m_X7_readPart sh v0 μ) fun r17 μ18 =>
    if r17 = 0 then
      some (gI μ18 v0 3, μ18)
    else
      k62 μ18
def m_X7_readFair_h62 (sh : Sh) (v0 : Nat) : Nat → Mu → Option (Int32 × Mu)
  | 0 => fun _ => none
  | f + 1 => fun μ => m_X7_readFair_b62 sh (m_X7_readFair_h62 sh v0 f) v0 μ
def m_X7_readFair (sh : Sh) (v0 : Nat) (μ : Mu) : Option (Int32 × Mu) :=
  gd (iz sh 7 v0) <|
  bd (sI μ v0 3 0) fun μ2 =>
  bd (sI μ2 v0 11 0) fun μ3 =>
  bd (sI μ3 v0 12 0) fun μ4 =>
  if (gI μ4 v0 2) = 0 then
    some (0, μ4)
  else
    bd (gR μ4 v0 1) fun a6 =>
    gd (ix sh 8 a6 0) <|
    bd (gI μ4 a6 (0 : Int32).toNatClampNeg) fun w8 =>
    if w8 = 66 then
      bd (sI μ4 v0 3 1) fun μ10 =>
      ca2 (m_X7_figure sh v0 0 9 μ10) fun r11 μ12 =>
      bd (sI μ12 v0 10 r11) fun μ13 =>
      if (gI μ13 v0 10) = (-9) then
        some (1, μ13)
      else
        m_X7_readFair_h62 sh v0 FU μ13
    else
      some (0, μ4)
set_option maxHeartbeats 4000000 in
set_option maxRecDepth 20000 in
theorem t_X7_readFair_b62 {l : Launch} {G : Gl} {n : Nat} {sh : Sh} {x : Int32 × Mu} {k62 : Mu → Option (Int32 × Mu)} {v0 : Nat} {μ : Mu} (hk62 : ∀ (μ : Mu), k62 μ = some x → Sj l G (QI G n sh x) c_X7_readFair n sh 0 0 μ 62 [some (vr v0)] []) (h : m_X7_readFair_b62 sh k62 v0 μ = some x) : Sj l G (QI G n sh x) c_X7_readFair n sh 0 0 μ 62 [some (vr v0)] [] := by
  unfold m_X7_readFair_b62 at h
  refine s_aload_n (pc := 62) d_X7_readFair_62 rfl rfl ?_
  obtain ⟨g15, h⟩ := gd_1 h
  refine s_getI (pc := 63) (k := 3) cl_7 d_X7_readFair_63 g15 (by decide) w_663 rfl ?_
  refine s_aload_n (pc := 66) d_X7_readFair_66 rfl rfl ?_
  refine s_getI (pc := 67) (k := 2) cl_7 d_X7_readFair_67 g15 (by decide) w_662 rfl ?_
  refine s_icmp_ge (pc := 70) (tgt := 85) d_X7_readFair_70 (by decide) (fun c16 => ?_) (fun c16 => ?_)
  · have h := it_t c16 h
    refine s_bipush (pc := 85) (v := (-9)) d_X7_readFair_85 (by decide) ?_
    obtain rfl := Option.some.inj h
    exact s_iret (pc := 87) d_X7_readFair_87 rfl
  · have h := it_f c16 h
    refine s_aload_n (pc := 73) d_X7_readFair_73 rfl rfl ?_
    obtain ⟨r17, μ18, er17, h⟩ := ca2_1 h
    refine s_callV (pc := 74) (as := []) (st := []) (vo := [vi r17]) (t_X7_readPart er17) cl_7 g15 d_X7_readFair_74 y_X7_readPart w_773 w_775 w_s13 ⟨by decide, by decide⟩ ⟨Nat.le_of_ble_eq_true rfl, Nat.le_of_ble_eq_true rfl⟩ (Nat.le_of_ble_eq_true rfl) rfl rfl rfl ?_
    refine s_as (kc' := 0) (js' := 0) (pc' := 77) (st' := [vi r17]) ⟨rfl, rfl, rfl, rfl⟩ ?_
    refine s_if_ne (pc := 77) (tgt := 62) d_X7_readFair_77 (by decide) (fun c19 => ?_) (fun c19 => ?_)
    · have h := it_f c19 h
      exact hk62  _ h
    · have h := it_t c19 h
      refine s_aload_n (pc := 80) d_X7_readFair_80 rfl rfl ?_
      refine s_getI (pc := 81) (k := 3) cl_7 d_X7_readFair_81 g15 (by decide) w_663 rfl ?_
      obtain rfl := Option.some.inj h
      exact s_iret (pc := 84) d_X7_readFair_84 rfl
set_option maxHeartbeats 4000000 in
set_option maxRecDepth 20000 in
theorem t_X7_readFair_h62 {l : Launch} {G : Gl} {n : Nat} {sh : Sh} {x : Int32 × Mu} {v0 : Nat} : ∀ (f : Nat) (μ : Mu), m_X7_readFair_h62 sh v0 f μ = some x → Sj l G (QI G n sh x) c_X7_readFair n sh 0 0 μ 62 [some (vr v0)] [] := by
  intro f
  induction f with
  | zero =>
    intro  μ h
    cases h
  | succ f ih =>
    intro  μ h
    exact t_X7_readFair_b62 ih h
set_option maxHeartbeats 4000000 in
set_option maxRecDepth 20000 in
theorem t_X7_readFair {l : Launch} {G : Gl} {n : Nat} {sh : Sh} {x : Int32 × Mu} {v0 : Nat} {μ : Mu} (h : m_X7_readFair sh v0 μ = some x) : Ct l G ⟨"StripsOfFourModel", "readFair", "()I"⟩ prog_9_method_13_code 1 (some .int) { frames := 3, cells := 0, slots := 0, locals := 70 } n sh μ [vr v0] (some (.int x.1)) n sh x.2 := by
  refine Ct.of (lc := [some (vr v0)]) (by decide +kernel) (Nat.le_of_ble_eq_true rfl) rfl ?_
  show Sj l G (QI G n sh x) c_X7_readFair n sh 0 0 μ 0 [some (vr v0)] []
  unfold m_X7_readFair at h
  refine s_aload_n (pc := 0) d_X7_readFair_0 rfl rfl ?_
  refine s_iconst (pc := 1) (v := 0) d_X7_readFair_1 (by decide) ?_
  obtain ⟨g1, h⟩ := gd_1 h
  refine s_putI (pc := 2) (k := 3) cl_7 d_X7_readFair_2 g1 (by decide) w_663 rfl rfl ?_
  obtain ⟨μ2, eμ2, h⟩ := bd_1 h
  refine s_mu eμ2 ?_
  refine s_aload_n (pc := 5) d_X7_readFair_5 rfl rfl ?_
  refine s_iconst (pc := 6) (v := 0) d_X7_readFair_6 (by decide) ?_
  refine s_putI (pc := 7) (k := 11) cl_7 d_X7_readFair_7 g1 (by decide) w_671 rfl rfl ?_
  obtain ⟨μ3, eμ3, h⟩ := bd_1 h
  refine s_mu eμ3 ?_
  refine s_aload_n (pc := 10) d_X7_readFair_10 rfl rfl ?_
  refine s_iconst (pc := 11) (v := 0) d_X7_readFair_11 (by decide) ?_
  refine s_putI (pc := 12) (k := 12) cl_7 d_X7_readFair_12 g1 (by decide) w_672 rfl rfl ?_
  obtain ⟨μ4, eμ4, h⟩ := bd_1 h
  refine s_mu eμ4 ?_
  refine s_aload_n (pc := 15) d_X7_readFair_15 rfl rfl ?_
  refine s_getI (pc := 16) (k := 2) cl_7 d_X7_readFair_16 g1 (by decide) w_662 rfl ?_
  refine s_if_eq (pc := 19) (tgt := 33) d_X7_readFair_19 (by decide) (fun c5 => ?_) (fun c5 => ?_)
  · have h := it_t c5 h
    refine s_iconst (pc := 33) (v := 0) d_X7_readFair_33 (by decide) ?_
    obtain rfl := Option.some.inj h
    exact s_iret (pc := 34) d_X7_readFair_34 rfl
  · have h := it_f c5 h
    refine s_aload_n (pc := 22) d_X7_readFair_22 rfl rfl ?_
    refine s_getR (pc := 23) (k := 1) cl_7 d_X7_readFair_23 g1 (by decide) w_661 (rt_arr _) ?_
    obtain ⟨a6, ea6, h⟩ := bd_1 h
    refine s_topR ea6 ?_
    refine s_iconst (pc := 26) (v := 0) d_X7_readFair_26 (by decide) ?_
    obtain ⟨g7, h⟩ := gd_1 h
    refine s_iald (pc := 27) d_X7_readFair_27 g7 ?_
    obtain ⟨w8, ew8, h⟩ := bd_1 h
    refine s_topI ew8 ?_
    refine s_bipush (pc := 28) (v := 66) d_X7_readFair_28 (by decide) ?_
    refine s_icmp_eq (pc := 30) (tgt := 35) d_X7_readFair_30 (by decide) (fun c9 => ?_) (fun c9 => ?_)
    · have h := it_t c9 h
      refine s_aload_n (pc := 35) d_X7_readFair_35 rfl rfl ?_
      refine s_iconst (pc := 36) (v := 1) d_X7_readFair_36 (by decide) ?_
      refine s_putI (pc := 37) (k := 3) cl_7 d_X7_readFair_37 g1 (by decide) w_663 rfl rfl ?_
      obtain ⟨μ10, eμ10, h⟩ := bd_1 h
      refine s_mu eμ10 ?_
      refine s_aload_n (pc := 40) d_X7_readFair_40 rfl rfl ?_
      refine s_aload_n (pc := 41) d_X7_readFair_41 rfl rfl ?_
      refine s_iconst (pc := 42) (v := 0) d_X7_readFair_42 (by decide) ?_
      refine s_bipush (pc := 43) (v := 9) d_X7_readFair_43 (by decide) ?_
      obtain ⟨r11, μ12, er11, h⟩ := ca2_1 h
      refine s_callV (pc := 45) (as := [vi 0, vi 9]) (st := [vr v0]) (vo := [vi r11]) (t_X7_figure er11) cl_7 g1 d_X7_readFair_45 y_X7_figure w_769 w_771 w_s12 ⟨by decide, by decide⟩ ⟨Nat.le_of_ble_eq_true rfl, Nat.le_of_ble_eq_true rfl⟩ (Nat.le_of_ble_eq_true rfl) rfl rfl rfl ?_
      refine s_as (kc' := 0) (js' := 0) (pc' := 48) (st' := [vi r11, vr v0]) ⟨rfl, rfl, rfl, rfl⟩ ?_
      refine s_putI (pc := 48) (k := 10) cl_7 d_X7_readFair_48 g1 (by decide) w_670 rfl rfl ?_
      obtain ⟨μ13, eμ13, h⟩ := bd_1 h
      refine s_mu eμ13 ?_
      refine s_aload_n (pc := 51) d_X7_readFair_51 rfl rfl ?_
      refine s_getI (pc := 52) (k := 10) cl_7 d_X7_readFair_52 g1 (by decide) w_670 rfl ?_
      refine s_bipush (pc := 55) (v := (-9)) d_X7_readFair_55 (by decide) ?_
      refine s_icmp_ne (pc := 57) (tgt := 62) d_X7_readFair_57 (by decide) (fun c14 => ?_) (fun c14 => ?_)
      · have h := it_f c14 h
        exact t_X7_readFair_h62 FU _ h
      · have h := it_t c14 h
        refine s_iconst (pc := 60) (v := 1) d_X7_readFair_60 (by decide) ?_
        obtain rfl := Option.some.inj h
        exact s_iret (pc := 61) d_X7_readFair_61 rfl
    · have h := it_f c9 h
      refine s_iconst (pc := 33) (v := 0) d_X7_readFair_33 (by decide) ?_
      obtain rfl := Option.some.inj h
      exact s_iret (pc := 34) d_X7_readFair_34 rfl
/-! StripsOfFourModel.fair -/
abbrev c_X7_fair : Cf := (prog_9_method_16_code, 2, "StripsOfFourModel", "fair", (some .int), { frames := 4, cells := 0, slots := 0, locals := 90 })
theorem d_X7_fair_0 : decode prog_9_method_16_code 0 = .ok (.aload_n 0, 1) := by decide +kernel
theorem d_X7_fair_1 : decode prog_9_method_16_code 1 = .ok (.iconst 0, 1) := by decide +kernel
theorem d_X7_fair_2 : decode prog_9_method_16_code 2 = .ok (.putfield 66, 3) := by decide +kernel
theorem d_X7_fair_5 : decode prog_9_method_16_code 5 = .ok (.aload_n 0, 1) := by decide +kernel
theorem d_X7_fair_6 : decode prog_9_method_16_code 6 = .ok (.invokevirtual 105, 3) := by decide +kernel
theorem d_X7_fair_9 : decode prog_9_method_16_code 9 = .ok (.bipush (-9), 2) := by decide +kernel
theorem d_X7_fair_11 : decode prog_9_method_16_code 11 = .ok (.if_icmp .eq 6, 3) := by decide +kernel
theorem d_X7_fair_14 : decode prog_9_method_16_code 14 = .ok (.bipush (-3), 2) := by decide +kernel
theorem d_X7_fair_16 : decode prog_9_method_16_code 16 = .ok (.ireturn, 1) := by decide +kernel
theorem d_X7_fair_17 : decode prog_9_method_16_code 17 = .ok (.aload_n 0, 1) := by decide +kernel
theorem d_X7_fair_18 : decode prog_9_method_16_code 18 = .ok (.aload_n 0, 1) := by decide +kernel
theorem d_X7_fair_19 : decode prog_9_method_16_code 19 = .ok (.getfield 98, 3) := by decide +kernel
theorem d_X7_fair_22 : decode prog_9_method_16_code 22 = .ok (.putfield 112, 3) := by decide +kernel
theorem d_X7_fair_25 : decode prog_9_method_16_code 25 = .ok (.aload_n 0, 1) := by decide +kernel
theorem d_X7_fair_26 : decode prog_9_method_16_code 26 = .ok (.aload_n 0, 1) := by decide +kernel
theorem d_X7_fair_27 : decode prog_9_method_16_code 27 = .ok (.getfield 88, 3) := by decide +kernel
theorem d_X7_fair_30 : decode prog_9_method_16_code 30 = .ok (.putfield 70, 3) := by decide +kernel
theorem d_X7_fair_33 : decode prog_9_method_16_code 33 = .ok (.aload_n 0, 1) := by decide +kernel
theorem d_X7_fair_34 : decode prog_9_method_16_code 34 = .ok (.aload_n 0, 1) := by decide +kernel
theorem d_X7_fair_35 : decode prog_9_method_16_code 35 = .ok (.getfield 95, 3) := by decide +kernel
theorem d_X7_fair_38 : decode prog_9_method_16_code 38 = .ok (.putfield 77, 3) := by decide +kernel
theorem d_X7_fair_41 : decode prog_9_method_16_code 41 = .ok (.iconst 0, 1) := by decide +kernel
theorem d_X7_fair_42 : decode prog_9_method_16_code 42 = .ok (.istore_n 1, 1) := by decide +kernel
theorem d_X7_fair_43 : decode prog_9_method_16_code 43 = .ok (.iload_n 1, 1) := by decide +kernel
theorem d_X7_fair_44 : decode prog_9_method_16_code 44 = .ok (.aload_n 0, 1) := by decide +kernel
theorem d_X7_fair_45 : decode prog_9_method_16_code 45 = .ok (.getfield 70, 3) := by decide +kernel
theorem d_X7_fair_48 : decode prog_9_method_16_code 48 = .ok (.if_icmp .ge 33, 3) := by decide +kernel
theorem d_X7_fair_51 : decode prog_9_method_16_code 51 = .ok (.aload_n 0, 1) := by decide +kernel
theorem d_X7_fair_52 : decode prog_9_method_16_code 52 = .ok (.getfield 13, 3) := by decide +kernel
theorem d_X7_fair_55 : decode prog_9_method_16_code 55 = .ok (.iload_n 1, 1) := by decide +kernel
theorem d_X7_fair_56 : decode prog_9_method_16_code 56 = .ok (.aload_n 0, 1) := by decide +kernel
theorem d_X7_fair_57 : decode prog_9_method_16_code 57 = .ok (.getfield 22, 3) := by decide +kernel
theorem d_X7_fair_60 : decode prog_9_method_16_code 60 = .ok (.iload_n 1, 1) := by decide +kernel
theorem d_X7_fair_61 : decode prog_9_method_16_code 61 = .ok (.iaload, 1) := by decide +kernel
theorem d_X7_fair_62 : decode prog_9_method_16_code 62 = .ok (.iastore, 1) := by decide +kernel
theorem d_X7_fair_63 : decode prog_9_method_16_code 63 = .ok (.aload_n 0, 1) := by decide +kernel
theorem d_X7_fair_64 : decode prog_9_method_16_code 64 = .ok (.getfield 16, 3) := by decide +kernel
theorem d_X7_fair_67 : decode prog_9_method_16_code 67 = .ok (.iload_n 1, 1) := by decide +kernel
theorem d_X7_fair_68 : decode prog_9_method_16_code 68 = .ok (.aload_n 0, 1) := by decide +kernel
theorem d_X7_fair_69 : decode prog_9_method_16_code 69 = .ok (.getfield 25, 3) := by decide +kernel
theorem d_X7_fair_72 : decode prog_9_method_16_code 72 = .ok (.iload_n 1, 1) := by decide +kernel
theorem d_X7_fair_73 : decode prog_9_method_16_code 73 = .ok (.iaload, 1) := by decide +kernel
theorem d_X7_fair_74 : decode prog_9_method_16_code 74 = .ok (.iastore, 1) := by decide +kernel
theorem d_X7_fair_75 : decode prog_9_method_16_code 75 = .ok (.iinc 1 1, 3) := by decide +kernel
theorem d_X7_fair_78 : decode prog_9_method_16_code 78 = .ok (.goto (-35), 3) := by decide +kernel
theorem d_X7_fair_81 : decode prog_9_method_16_code 81 = .ok (.iconst 0, 1) := by decide +kernel
theorem d_X7_fair_82 : decode prog_9_method_16_code 82 = .ok (.istore_n 1, 1) := by decide +kernel
theorem d_X7_fair_83 : decode prog_9_method_16_code 83 = .ok (.iload_n 1, 1) := by decide +kernel
theorem d_X7_fair_84 : decode prog_9_method_16_code 84 = .ok (.aload_n 0, 1) := by decide +kernel
theorem d_X7_fair_85 : decode prog_9_method_16_code 85 = .ok (.getfield 77, 3) := by decide +kernel
theorem d_X7_fair_88 : decode prog_9_method_16_code 88 = .ok (.if_icmp .ge 21, 3) := by decide +kernel
theorem d_X7_fair_91 : decode prog_9_method_16_code 91 = .ok (.aload_n 0, 1) := by decide +kernel
theorem d_X7_fair_92 : decode prog_9_method_16_code 92 = .ok (.getfield 19, 3) := by decide +kernel
theorem d_X7_fair_95 : decode prog_9_method_16_code 95 = .ok (.iload_n 1, 1) := by decide +kernel
theorem d_X7_fair_96 : decode prog_9_method_16_code 96 = .ok (.aload_n 0, 1) := by decide +kernel
theorem d_X7_fair_97 : decode prog_9_method_16_code 97 = .ok (.getfield 28, 3) := by decide +kernel
theorem d_X7_fair_100 : decode prog_9_method_16_code 100 = .ok (.iload_n 1, 1) := by decide +kernel
theorem d_X7_fair_101 : decode prog_9_method_16_code 101 = .ok (.iaload, 1) := by decide +kernel
theorem d_X7_fair_102 : decode prog_9_method_16_code 102 = .ok (.iastore, 1) := by decide +kernel
theorem d_X7_fair_103 : decode prog_9_method_16_code 103 = .ok (.iinc 1 1, 3) := by decide +kernel
theorem d_X7_fair_106 : decode prog_9_method_16_code 106 = .ok (.goto (-23), 3) := by decide +kernel
theorem d_X7_fair_109 : decode prog_9_method_16_code 109 = .ok (.aload_n 0, 1) := by decide +kernel
theorem d_X7_fair_110 : decode prog_9_method_16_code 110 = .ok (.invokevirtual 63, 3) := by decide +kernel
theorem d_X7_fair_113 : decode prog_9_method_16_code 113 = .ok (.bipush 10, 2) := by decide +kernel
theorem d_X7_fair_115 : decode prog_9_method_16_code 115 = .ok (.aload_n 0, 1) := by decide +kernel
theorem d_X7_fair_116 : decode prog_9_method_16_code 116 = .ok (.getfield 70, 3) := by decide +kernel
theorem d_X7_fair_119 : decode prog_9_method_16_code 119 = .ok (.imul, 1) := by decide +kernel
theorem d_X7_fair_120 : decode prog_9_method_16_code 120 = .ok (.aload_n 0, 1) := by decide +kernel
theorem d_X7_fair_121 : decode prog_9_method_16_code 121 = .ok (.getfield 77, 3) := by decide +kernel
theorem d_X7_fair_124 : decode prog_9_method_16_code 124 = .ok (.iadd, 1) := by decide +kernel
theorem d_X7_fair_125 : decode prog_9_method_16_code 125 = .ok (.ireturn, 1) := by decide +kernel
def m_X7_fair_b109 (sh : Sh) (v0 : Nat) (μ : Mu) : Option (Int32 × Mu) :=
  gd (iz sh 7 v0) <|
  ca (m_X7_begin sh v0 μ) fun μ34 =>
  some ((10 * (gI μ34 v0 5)) + (gI μ34 v0 6), μ34)
def m_X7_fair_b83 (sh : Sh) (k83 : Int32 → Mu → Option (Int32 × Mu)) (v0 : Nat) (v1 : Int32) (μ : Mu) : Option (Int32 × Mu) :=
  gd (iz sh 7 v0) <|
  if (gI μ v0 6) ≤ v1 then
    m_X7_fair_b109 sh v0 μ
  else
    bd (gR μ v0 9) fun a26 =>
    bd (gR μ v0 15) fun a27 =>
    gd (ix sh 8 a27 v1) <|
    bd (gI μ a27 v1.toNatClampNeg) fun w29 =>
    gd (ix sh 8 a26 v1) <|
    bd (sI μ a26 v1.toNatClampNeg w29) fun μ31 =>
    bd (v1 + 1) fun w32 =>
    k83 w32 μ31
def m_X7_fair_h83 (sh : Sh) (v0 : Nat) : Nat → Int32 → Mu → Option (Int32 × Mu)
  | 0 => fun _ _ => none
  | f + 1 => fun v1 μ => m_X7_fair_b83 sh (m_X7_fair_h83 sh v0 f) v0 v1 μ
def m_X7_fair_b81 (sh : Sh) (v0 : Nat) (μ : Mu) : Option (Int32 × Mu) :=
  m_X7_fair_h83 sh v0 FU 0 μ
def m_X7_fair_b43 (sh : Sh) (k43 : Int32 → Mu → Option (Int32 × Mu)) (v0 : Nat) (v1 : Int32) (μ : Mu) : Option (Int32 × Mu) :=
  gd (iz sh 7 v0) <|
  if (gI μ v0 5) ≤ v1 then
    m_X7_fair_b81 sh v0 μ
  else
    bd (gR μ v0 7) fun a11 =>
    bd (gR μ v0 13) fun a12 =>
    gd (ix sh 8 a12 v1) <|
    bd (gI μ a12 v1.toNatClampNeg) fun w14 =>
    gd (ix sh 8 a11 v1) <|
    bd (sI μ a11 v1.toNatClampNeg w14) fun μ16 =>
    bd (gR μ16 v0 8) fun a17 =>
    bd (gR μ16 v0 14) fun a18 =>
    gd (ix sh 8 a18 v1) <|
    bd (gI μ16 a18 v1.toNatClampNeg) fun w20 =>
    gd (ix sh 8 a17 v1) <|
    bd (sI μ16 a17 v1.toNatClampNeg w20) fun μ22 =>
    bd (v1 + 1) fun w23 =>
    k43 w23 μ22
def m_X7_fair_h43 (sh : Sh) (v0 : Nat) : Nat → Int32 → Mu → Option (Int32 × Mu)
  | 0 => fun _ _ => none
  | f + 1 => fun v1 μ => m_X7_fair_b43 sh (m_X7_fair_h43 sh v0 f) v0 v1 μ
def m_X7_fair (sh : Sh) (v0 : Nat) (μ : Mu) : Option (Int32 × Mu) :=
  gd (iz sh 7 v0) <|
  bd (sI μ v0 0 0) fun μ2 =>
  ca2 (m_X7_readFair sh v0 μ2) fun r3 μ4 =>
  if r3 = (-9) then
    bd (sI μ4 v0 4 (gI μ4 v0 10)) fun μ6 =>
    bd (sI μ6 v0 5 (gI μ6 v0 11)) fun μ7 =>
    bd (sI μ7 v0 6 (gI μ7 v0 12)) fun μ8 =>
    m_X7_fair_h43 sh v0 FU 0 μ8
  else
    some ((-3), μ4)
set_option maxHeartbeats 4000000 in
set_option maxRecDepth 20000 in
theorem t_X7_fair_b109 {l : Launch} {G : Gl} {n : Nat} {sh : Sh} {x : Int32 × Mu} {v0 : Nat} {μ : Mu} (h : m_X7_fair_b109 sh v0 μ = some x) : Sj l G (QI G n sh x) c_X7_fair n sh 0 0 μ 109 [some (vr v0), none] [] := by
  unfold m_X7_fair_b109 at h
  refine s_aload_n (pc := 109) d_X7_fair_109 rfl rfl ?_
  obtain ⟨g33, h⟩ := gd_1 h
  obtain ⟨μ34, eμ34, h⟩ := ca_1 h
  refine s_callV (pc := 110) (as := []) (st := []) (vo := []) (t_X7_begin eμ34) cl_7 g33 d_X7_fair_110 y_X7_begin w_656 w_658 w_s10 ⟨by decide, by decide⟩ ⟨Nat.le_of_ble_eq_true rfl, Nat.le_of_ble_eq_true rfl⟩ (Nat.le_of_ble_eq_true rfl) rfl rfl rfl ?_
  refine s_as (kc' := 0) (js' := 0) (pc' := 113) (st' := []) ⟨rfl, rfl, rfl, rfl⟩ ?_
  refine s_bipush (pc := 113) (v := 10) d_X7_fair_113 (by decide) ?_
  refine s_aload_n (pc := 115) d_X7_fair_115 rfl rfl ?_
  refine s_getI (pc := 116) (k := 5) cl_7 d_X7_fair_116 g33 (by decide) w_665 rfl ?_
  refine s_imul (pc := 119) d_X7_fair_119 ?_
  refine s_aload_n (pc := 120) d_X7_fair_120 rfl rfl ?_
  refine s_getI (pc := 121) (k := 6) cl_7 d_X7_fair_121 g33 (by decide) w_666 rfl ?_
  refine s_iadd (pc := 124) d_X7_fair_124 ?_
  obtain rfl := Option.some.inj h
  exact s_iret (pc := 125) d_X7_fair_125 rfl
set_option maxHeartbeats 4000000 in
set_option maxRecDepth 20000 in
theorem t_X7_fair_b83 {l : Launch} {G : Gl} {n : Nat} {sh : Sh} {x : Int32 × Mu} {k83 : Int32 → Mu → Option (Int32 × Mu)} {v0 : Nat} {v1 : Int32} {μ : Mu} (hk83 : ∀ (v1 : Int32) (μ : Mu), k83 v1 μ = some x → Sj l G (QI G n sh x) c_X7_fair n sh 0 0 μ 83 [some (vr v0), some (vi v1)] []) (h : m_X7_fair_b83 sh k83 v0 v1 μ = some x) : Sj l G (QI G n sh x) c_X7_fair n sh 0 0 μ 83 [some (vr v0), some (vi v1)] [] := by
  unfold m_X7_fair_b83 at h
  refine s_iload_n (pc := 83) d_X7_fair_83 rfl rfl ?_
  refine s_aload_n (pc := 84) d_X7_fair_84 rfl rfl ?_
  obtain ⟨g24, h⟩ := gd_1 h
  refine s_getI (pc := 85) (k := 6) cl_7 d_X7_fair_85 g24 (by decide) w_666 rfl ?_
  refine s_icmp_ge (pc := 88) (tgt := 109) d_X7_fair_88 (by decide) (fun c25 => ?_) (fun c25 => ?_)
  · have h := it_t c25 h
    refine s_mask [true, false] rfl ?_
    exact t_X7_fair_b109 h
  · have h := it_f c25 h
    refine s_aload_n (pc := 91) d_X7_fair_91 rfl rfl ?_
    refine s_getR (pc := 92) (k := 9) cl_7 d_X7_fair_92 g24 (by decide) w_669 (rt_arr _) ?_
    obtain ⟨a26, ea26, h⟩ := bd_1 h
    refine s_topR ea26 ?_
    refine s_iload_n (pc := 95) d_X7_fair_95 rfl rfl ?_
    refine s_aload_n (pc := 96) d_X7_fair_96 rfl rfl ?_
    refine s_getR (pc := 97) (k := 15) cl_7 d_X7_fair_97 g24 (by decide) w_675 (rt_arr _) ?_
    obtain ⟨a27, ea27, h⟩ := bd_1 h
    refine s_topR ea27 ?_
    refine s_iload_n (pc := 100) d_X7_fair_100 rfl rfl ?_
    obtain ⟨g28, h⟩ := gd_1 h
    refine s_iald (pc := 101) d_X7_fair_101 g28 ?_
    obtain ⟨w29, ew29, h⟩ := bd_1 h
    refine s_topI ew29 ?_
    obtain ⟨g30, h⟩ := gd_1 h
    refine s_iast (pc := 102) d_X7_fair_102 g30 ?_
    obtain ⟨μ31, eμ31, h⟩ := bd_1 h
    refine s_mu eμ31 ?_
    obtain ⟨w32, ew32, h⟩ := bd_1 h
    refine s_iinc (pc := 103) (v := w32) (lc' := [some (vr v0), some (vi w32)]) d_X7_fair_103 rfl (by rw [ew32]; rfl) (by decide) rfl ?_
    refine s_goto (pc := 106) (tgt := 83) d_X7_fair_106 (by decide) ?_
    exact hk83 _ _ h
set_option maxHeartbeats 4000000 in
set_option maxRecDepth 20000 in
theorem t_X7_fair_h83 {l : Launch} {G : Gl} {n : Nat} {sh : Sh} {x : Int32 × Mu} {v0 : Nat} : ∀ (f : Nat) (v1 : Int32) (μ : Mu), m_X7_fair_h83 sh v0 f v1 μ = some x → Sj l G (QI G n sh x) c_X7_fair n sh 0 0 μ 83 [some (vr v0), some (vi v1)] [] := by
  intro f
  induction f with
  | zero =>
    intro v1 μ h
    cases h
  | succ f ih =>
    intro v1 μ h
    exact t_X7_fair_b83 ih h
set_option maxHeartbeats 4000000 in
set_option maxRecDepth 20000 in
theorem t_X7_fair_b81 {l : Launch} {G : Gl} {n : Nat} {sh : Sh} {x : Int32 × Mu} {v0 : Nat} {μ : Mu} (h : m_X7_fair_b81 sh v0 μ = some x) : Sj l G (QI G n sh x) c_X7_fair n sh 0 0 μ 81 [some (vr v0), none] [] := by
  unfold m_X7_fair_b81 at h
  refine s_iconst (pc := 81) (v := 0) d_X7_fair_81 (by decide) ?_
  refine s_istore_n (pc := 82) (lc' := [some (vr v0), some (vi 0)]) d_X7_fair_82 rfl (by decide) rfl ?_
  exact t_X7_fair_h83 FU _ _ h
set_option maxHeartbeats 4000000 in
set_option maxRecDepth 20000 in
theorem t_X7_fair_b43 {l : Launch} {G : Gl} {n : Nat} {sh : Sh} {x : Int32 × Mu} {k43 : Int32 → Mu → Option (Int32 × Mu)} {v0 : Nat} {v1 : Int32} {μ : Mu} (hk43 : ∀ (v1 : Int32) (μ : Mu), k43 v1 μ = some x → Sj l G (QI G n sh x) c_X7_fair n sh 0 0 μ 43 [some (vr v0), some (vi v1)] []) (h : m_X7_fair_b43 sh k43 v0 v1 μ = some x) : Sj l G (QI G n sh x) c_X7_fair n sh 0 0 μ 43 [some (vr v0), some (vi v1)] [] := by
  unfold m_X7_fair_b43 at h
  refine s_iload_n (pc := 43) d_X7_fair_43 rfl rfl ?_
  refine s_aload_n (pc := 44) d_X7_fair_44 rfl rfl ?_
  obtain ⟨g9, h⟩ := gd_1 h
  refine s_getI (pc := 45) (k := 5) cl_7 d_X7_fair_45 g9 (by decide) w_665 rfl ?_
  refine s_icmp_ge (pc := 48) (tgt := 81) d_X7_fair_48 (by decide) (fun c10 => ?_) (fun c10 => ?_)
  · have h := it_t c10 h
    refine s_mask [true, false] rfl ?_
    exact t_X7_fair_b81 h
  · have h := it_f c10 h
    refine s_aload_n (pc := 51) d_X7_fair_51 rfl rfl ?_
    refine s_getR (pc := 52) (k := 7) cl_7 d_X7_fair_52 g9 (by decide) w_667 (rt_arr _) ?_
    obtain ⟨a11, ea11, h⟩ := bd_1 h
    refine s_topR ea11 ?_
    refine s_iload_n (pc := 55) d_X7_fair_55 rfl rfl ?_
    refine s_aload_n (pc := 56) d_X7_fair_56 rfl rfl ?_
    refine s_getR (pc := 57) (k := 13) cl_7 d_X7_fair_57 g9 (by decide) w_673 (rt_arr _) ?_
    obtain ⟨a12, ea12, h⟩ := bd_1 h
    refine s_topR ea12 ?_
    refine s_iload_n (pc := 60) d_X7_fair_60 rfl rfl ?_
    obtain ⟨g13, h⟩ := gd_1 h
    refine s_iald (pc := 61) d_X7_fair_61 g13 ?_
    obtain ⟨w14, ew14, h⟩ := bd_1 h
    refine s_topI ew14 ?_
    obtain ⟨g15, h⟩ := gd_1 h
    refine s_iast (pc := 62) d_X7_fair_62 g15 ?_
    obtain ⟨μ16, eμ16, h⟩ := bd_1 h
    refine s_mu eμ16 ?_
    refine s_aload_n (pc := 63) d_X7_fair_63 rfl rfl ?_
    refine s_getR (pc := 64) (k := 8) cl_7 d_X7_fair_64 g9 (by decide) w_668 (rt_arr _) ?_
    obtain ⟨a17, ea17, h⟩ := bd_1 h
    refine s_topR ea17 ?_
    refine s_iload_n (pc := 67) d_X7_fair_67 rfl rfl ?_
    refine s_aload_n (pc := 68) d_X7_fair_68 rfl rfl ?_
    refine s_getR (pc := 69) (k := 14) cl_7 d_X7_fair_69 g9 (by decide) w_674 (rt_arr _) ?_
    obtain ⟨a18, ea18, h⟩ := bd_1 h
    refine s_topR ea18 ?_
    refine s_iload_n (pc := 72) d_X7_fair_72 rfl rfl ?_
    obtain ⟨g19, h⟩ := gd_1 h
    refine s_iald (pc := 73) d_X7_fair_73 g19 ?_
    obtain ⟨w20, ew20, h⟩ := bd_1 h
    refine s_topI ew20 ?_
    obtain ⟨g21, h⟩ := gd_1 h
    refine s_iast (pc := 74) d_X7_fair_74 g21 ?_
    obtain ⟨μ22, eμ22, h⟩ := bd_1 h
    refine s_mu eμ22 ?_
    obtain ⟨w23, ew23, h⟩ := bd_1 h
    refine s_iinc (pc := 75) (v := w23) (lc' := [some (vr v0), some (vi w23)]) d_X7_fair_75 rfl (by rw [ew23]; rfl) (by decide) rfl ?_
    refine s_goto (pc := 78) (tgt := 43) d_X7_fair_78 (by decide) ?_
    exact hk43 _ _ h
set_option maxHeartbeats 4000000 in
set_option maxRecDepth 20000 in
theorem t_X7_fair_h43 {l : Launch} {G : Gl} {n : Nat} {sh : Sh} {x : Int32 × Mu} {v0 : Nat} : ∀ (f : Nat) (v1 : Int32) (μ : Mu), m_X7_fair_h43 sh v0 f v1 μ = some x → Sj l G (QI G n sh x) c_X7_fair n sh 0 0 μ 43 [some (vr v0), some (vi v1)] [] := by
  intro f
  induction f with
  | zero =>
    intro v1 μ h
    cases h
  | succ f ih =>
    intro v1 μ h
    exact t_X7_fair_b43 ih h
set_option maxHeartbeats 4000000 in
set_option maxRecDepth 20000 in
theorem t_X7_fair {l : Launch} {G : Gl} {n : Nat} {sh : Sh} {x : Int32 × Mu} {v0 : Nat} {μ : Mu} (h : m_X7_fair sh v0 μ = some x) : Ct l G ⟨"StripsOfFourModel", "fair", "()I"⟩ prog_9_method_16_code 2 (some .int) { frames := 4, cells := 0, slots := 0, locals := 90 } n sh μ [vr v0] (some (.int x.1)) n sh x.2 := by
  refine Ct.of (lc := [some (vr v0), none]) (by decide +kernel) (Nat.le_of_ble_eq_true rfl) rfl ?_
  show Sj l G (QI G n sh x) c_X7_fair n sh 0 0 μ 0 [some (vr v0), none] []
  unfold m_X7_fair at h
  refine s_aload_n (pc := 0) d_X7_fair_0 rfl rfl ?_
  refine s_iconst (pc := 1) (v := 0) d_X7_fair_1 (by decide) ?_
  obtain ⟨g1, h⟩ := gd_1 h
  refine s_putI (pc := 2) (k := 0) cl_7 d_X7_fair_2 g1 (by decide) w_660 rfl rfl ?_
  obtain ⟨μ2, eμ2, h⟩ := bd_1 h
  refine s_mu eμ2 ?_
  refine s_aload_n (pc := 5) d_X7_fair_5 rfl rfl ?_
  obtain ⟨r3, μ4, er3, h⟩ := ca2_1 h
  refine s_callV (pc := 6) (as := []) (st := []) (vo := [vi r3]) (t_X7_readFair er3) cl_7 g1 d_X7_fair_6 y_X7_readFair w_765 w_767 w_s11 ⟨by decide, by decide⟩ ⟨Nat.le_of_ble_eq_true rfl, Nat.le_of_ble_eq_true rfl⟩ (Nat.le_of_ble_eq_true rfl) rfl rfl rfl ?_
  refine s_as (kc' := 0) (js' := 0) (pc' := 9) (st' := [vi r3]) ⟨rfl, rfl, rfl, rfl⟩ ?_
  refine s_bipush (pc := 9) (v := (-9)) d_X7_fair_9 (by decide) ?_
  refine s_icmp_eq (pc := 11) (tgt := 17) d_X7_fair_11 (by decide) (fun c5 => ?_) (fun c5 => ?_)
  · have h := it_t c5 h
    refine s_aload_n (pc := 17) d_X7_fair_17 rfl rfl ?_
    refine s_aload_n (pc := 18) d_X7_fair_18 rfl rfl ?_
    refine s_getI (pc := 19) (k := 10) cl_7 d_X7_fair_19 g1 (by decide) w_670 rfl ?_
    refine s_putI (pc := 22) (k := 4) cl_7 d_X7_fair_22 g1 (by decide) w_664 rfl rfl ?_
    obtain ⟨μ6, eμ6, h⟩ := bd_1 h
    refine s_mu eμ6 ?_
    refine s_aload_n (pc := 25) d_X7_fair_25 rfl rfl ?_
    refine s_aload_n (pc := 26) d_X7_fair_26 rfl rfl ?_
    refine s_getI (pc := 27) (k := 11) cl_7 d_X7_fair_27 g1 (by decide) w_671 rfl ?_
    refine s_putI (pc := 30) (k := 5) cl_7 d_X7_fair_30 g1 (by decide) w_665 rfl rfl ?_
    obtain ⟨μ7, eμ7, h⟩ := bd_1 h
    refine s_mu eμ7 ?_
    refine s_aload_n (pc := 33) d_X7_fair_33 rfl rfl ?_
    refine s_aload_n (pc := 34) d_X7_fair_34 rfl rfl ?_
    refine s_getI (pc := 35) (k := 12) cl_7 d_X7_fair_35 g1 (by decide) w_672 rfl ?_
    refine s_putI (pc := 38) (k := 6) cl_7 d_X7_fair_38 g1 (by decide) w_666 rfl rfl ?_
    obtain ⟨μ8, eμ8, h⟩ := bd_1 h
    refine s_mu eμ8 ?_
    refine s_iconst (pc := 41) (v := 0) d_X7_fair_41 (by decide) ?_
    refine s_istore_n (pc := 42) (lc' := [some (vr v0), some (vi 0)]) d_X7_fair_42 rfl (by decide) rfl ?_
    exact t_X7_fair_h43 FU _ _ h
  · have h := it_f c5 h
    refine s_bipush (pc := 14) (v := (-3)) d_X7_fair_14 (by decide) ?_
    obtain rfl := Option.some.inj h
    exact s_iret (pc := 16) d_X7_fair_16 rfl
/-! StripsOfFourModel.fault -/
abbrev c_X7_fault : Cf := (prog_9_method_14_code, 1, "StripsOfFourModel", "fault", (some .int), { frames := 4, cells := 0, slots := 0, locals := 90 })
theorem d_X7_fault_0 : decode prog_9_method_14_code 0 = .ok (.aload_n 0, 1) := by decide +kernel
theorem d_X7_fault_1 : decode prog_9_method_14_code 1 = .ok (.iconst 0, 1) := by decide +kernel
theorem d_X7_fault_2 : decode prog_9_method_14_code 2 = .ok (.putfield 66, 3) := by decide +kernel
theorem d_X7_fault_5 : decode prog_9_method_14_code 5 = .ok (.aload_n 0, 1) := by decide +kernel
theorem d_X7_fault_6 : decode prog_9_method_14_code 6 = .ok (.invokevirtual 105, 3) := by decide +kernel
theorem d_X7_fault_9 : decode prog_9_method_14_code 9 = .ok (.ireturn, 1) := by decide +kernel
def m_X7_fault (sh : Sh) (v0 : Nat) (μ : Mu) : Option (Int32 × Mu) :=
  gd (iz sh 7 v0) <|
  bd (sI μ v0 0 0) fun μ2 =>
  ca2 (m_X7_readFair sh v0 μ2) fun r3 μ4 =>
  some (r3, μ4)
set_option maxHeartbeats 4000000 in
set_option maxRecDepth 20000 in
theorem t_X7_fault {l : Launch} {G : Gl} {n : Nat} {sh : Sh} {x : Int32 × Mu} {v0 : Nat} {μ : Mu} (h : m_X7_fault sh v0 μ = some x) : Ct l G ⟨"StripsOfFourModel", "fault", "()I"⟩ prog_9_method_14_code 1 (some .int) { frames := 4, cells := 0, slots := 0, locals := 90 } n sh μ [vr v0] (some (.int x.1)) n sh x.2 := by
  refine Ct.of (lc := [some (vr v0)]) (by decide +kernel) (Nat.le_of_ble_eq_true rfl) rfl ?_
  show Sj l G (QI G n sh x) c_X7_fault n sh 0 0 μ 0 [some (vr v0)] []
  unfold m_X7_fault at h
  refine s_aload_n (pc := 0) d_X7_fault_0 rfl rfl ?_
  refine s_iconst (pc := 1) (v := 0) d_X7_fault_1 (by decide) ?_
  obtain ⟨g1, h⟩ := gd_1 h
  refine s_putI (pc := 2) (k := 0) cl_7 d_X7_fault_2 g1 (by decide) w_660 rfl rfl ?_
  obtain ⟨μ2, eμ2, h⟩ := bd_1 h
  refine s_mu eμ2 ?_
  refine s_aload_n (pc := 5) d_X7_fault_5 rfl rfl ?_
  obtain ⟨r3, μ4, er3, h⟩ := ca2_1 h
  refine s_callV (pc := 6) (as := []) (st := []) (vo := [vi r3]) (t_X7_readFair er3) cl_7 g1 d_X7_fault_6 y_X7_readFair w_765 w_767 w_s11 ⟨by decide, by decide⟩ ⟨Nat.le_of_ble_eq_true rfl, Nat.le_of_ble_eq_true rfl⟩ (Nat.le_of_ble_eq_true rfl) rfl rfl rfl ?_
  refine s_as (kc' := 0) (js' := 0) (pc' := 9) (st' := [vi r3]) ⟨rfl, rfl, rfl, rfl⟩ ?_
  obtain rfl := Option.some.inj h
  exact s_iret (pc := 9) d_X7_fault_9 rfl
/-! StripsOfFourModel.hundred -/
abbrev c_X7_hundred : Cf := (prog_9_method_38_code, 3, "StripsOfFourModel", "hundred", (some .int), { frames := 0, cells := 0, slots := 0, locals := 0 })
theorem d_X7_hundred_0 : decode prog_9_method_38_code 0 = .ok (.iconst 1, 1) := by decide +kernel
theorem d_X7_hundred_1 : decode prog_9_method_38_code 1 = .ok (.istore_n 1, 1) := by decide +kernel
theorem d_X7_hundred_2 : decode prog_9_method_38_code 2 = .ok (.iconst 0, 1) := by decide +kernel
theorem d_X7_hundred_3 : decode prog_9_method_38_code 3 = .ok (.istore_n 2, 1) := by decide +kernel
theorem d_X7_hundred_4 : decode prog_9_method_38_code 4 = .ok (.iload_n 2, 1) := by decide +kernel
theorem d_X7_hundred_5 : decode prog_9_method_38_code 5 = .ok (.iload_n 0, 1) := by decide +kernel
theorem d_X7_hundred_6 : decode prog_9_method_38_code 6 = .ok (.if_icmp .ge 14, 3) := by decide +kernel
theorem d_X7_hundred_9 : decode prog_9_method_38_code 9 = .ok (.iload_n 1, 1) := by decide +kernel
theorem d_X7_hundred_10 : decode prog_9_method_38_code 10 = .ok (.bipush 100, 2) := by decide +kernel
theorem d_X7_hundred_12 : decode prog_9_method_38_code 12 = .ok (.imul, 1) := by decide +kernel
theorem d_X7_hundred_13 : decode prog_9_method_38_code 13 = .ok (.istore_n 1, 1) := by decide +kernel
theorem d_X7_hundred_14 : decode prog_9_method_38_code 14 = .ok (.iinc 2 1, 3) := by decide +kernel
theorem d_X7_hundred_17 : decode prog_9_method_38_code 17 = .ok (.goto (-13), 3) := by decide +kernel
theorem d_X7_hundred_20 : decode prog_9_method_38_code 20 = .ok (.iload_n 1, 1) := by decide +kernel
theorem d_X7_hundred_21 : decode prog_9_method_38_code 21 = .ok (.ireturn, 1) := by decide +kernel
def m_X7_hundred_b4 (sh : Sh) (k4 : Int32 → Int32 → Mu → Option (Int32 × Mu)) (v0 : Int32) (v1 : Int32) (v2 : Int32) (μ : Mu) : Option (Int32 × Mu) :=
  if v0 ≤ v2 then
    some (v1, μ)
  else
    bd (v1 * 100) fun w2 =>
    bd (v2 + 1) fun w3 =>
    k4 w2 w3 μ
def m_X7_hundred_h4 (sh : Sh) (v0 : Int32) : Nat → Int32 → Int32 → Mu → Option (Int32 × Mu)
  | 0 => fun _ _ _ => none
  | f + 1 => fun v1 v2 μ => m_X7_hundred_b4 sh (m_X7_hundred_h4 sh v0 f) v0 v1 v2 μ
def m_X7_hundred (sh : Sh) (v0 : Int32) (μ : Mu) : Option (Int32 × Mu) :=
  m_X7_hundred_h4 sh v0 FU 1 0 μ
set_option maxHeartbeats 4000000 in
set_option maxRecDepth 20000 in
theorem t_X7_hundred_b4 {l : Launch} {G : Gl} {n : Nat} {sh : Sh} {x : Int32 × Mu} {k4 : Int32 → Int32 → Mu → Option (Int32 × Mu)} {v0 : Int32} {v1 : Int32} {v2 : Int32} {μ : Mu} (hk4 : ∀ (v1 : Int32) (v2 : Int32) (μ : Mu), k4 v1 v2 μ = some x → Sj l G (QI G n sh x) c_X7_hundred n sh 0 0 μ 4 [some (vi v0), some (vi v1), some (vi v2)] []) (h : m_X7_hundred_b4 sh k4 v0 v1 v2 μ = some x) : Sj l G (QI G n sh x) c_X7_hundred n sh 0 0 μ 4 [some (vi v0), some (vi v1), some (vi v2)] [] := by
  unfold m_X7_hundred_b4 at h
  refine s_iload_n (pc := 4) d_X7_hundred_4 rfl rfl ?_
  refine s_iload_n (pc := 5) d_X7_hundred_5 rfl rfl ?_
  refine s_icmp_ge (pc := 6) (tgt := 20) d_X7_hundred_6 (by decide) (fun c1 => ?_) (fun c1 => ?_)
  · have h := it_t c1 h
    refine s_iload_n (pc := 20) d_X7_hundred_20 rfl rfl ?_
    obtain rfl := Option.some.inj h
    exact s_iret (pc := 21) d_X7_hundred_21 rfl
  · have h := it_f c1 h
    refine s_iload_n (pc := 9) d_X7_hundred_9 rfl rfl ?_
    refine s_bipush (pc := 10) (v := 100) d_X7_hundred_10 (by decide) ?_
    refine s_imul (pc := 12) d_X7_hundred_12 ?_
    obtain ⟨w2, ew2, h⟩ := bd_1 h
    refine s_topI ew2 ?_
    refine s_istore_n (pc := 13) (lc' := [some (vi v0), some (vi w2), some (vi v2)]) d_X7_hundred_13 rfl (by decide) rfl ?_
    obtain ⟨w3, ew3, h⟩ := bd_1 h
    refine s_iinc (pc := 14) (v := w3) (lc' := [some (vi v0), some (vi w2), some (vi w3)]) d_X7_hundred_14 rfl (by rw [ew3]; rfl) (by decide) rfl ?_
    refine s_goto (pc := 17) (tgt := 4) d_X7_hundred_17 (by decide) ?_
    exact hk4 _ _ _ h
set_option maxHeartbeats 4000000 in
set_option maxRecDepth 20000 in
theorem t_X7_hundred_h4 {l : Launch} {G : Gl} {n : Nat} {sh : Sh} {x : Int32 × Mu} {v0 : Int32} : ∀ (f : Nat) (v1 : Int32) (v2 : Int32) (μ : Mu), m_X7_hundred_h4 sh v0 f v1 v2 μ = some x → Sj l G (QI G n sh x) c_X7_hundred n sh 0 0 μ 4 [some (vi v0), some (vi v1), some (vi v2)] [] := by
  intro f
  induction f with
  | zero =>
    intro v1 v2 μ h
    cases h
  | succ f ih =>
    intro v1 v2 μ h
    exact t_X7_hundred_b4 ih h
set_option maxHeartbeats 4000000 in
set_option maxRecDepth 20000 in
theorem t_X7_hundred {l : Launch} {G : Gl} {n : Nat} {sh : Sh} {x : Int32 × Mu} {v0 : Int32} {μ : Mu} (h : m_X7_hundred sh v0 μ = some x) : Ct l G ⟨"StripsOfFourModel", "hundred", "(I)I"⟩ prog_9_method_38_code 3 (some .int) { frames := 0, cells := 0, slots := 0, locals := 0 } n sh μ [vi v0] (some (.int x.1)) n sh x.2 := by
  refine Ct.of (lc := [some (vi v0), none, none]) (by decide +kernel) (Nat.le_of_ble_eq_true rfl) rfl ?_
  show Sj l G (QI G n sh x) c_X7_hundred n sh 0 0 μ 0 [some (vi v0), none, none] []
  unfold m_X7_hundred at h
  refine s_iconst (pc := 0) (v := 1) d_X7_hundred_0 (by decide) ?_
  refine s_istore_n (pc := 1) (lc' := [some (vi v0), some (vi 1), none]) d_X7_hundred_1 rfl (by decide) rfl ?_
  refine s_iconst (pc := 2) (v := 0) d_X7_hundred_2 (by decide) ?_
  refine s_istore_n (pc := 3) (lc' := [some (vi v0), some (vi 1), some (vi 0)]) d_X7_hundred_3 rfl (by decide) rfl ?_
  exact t_X7_hundred_h4 FU _ _ _ h
/-! StripsOfFourModel.setOf -/
abbrev c_X7_setOf : Cf := (prog_9_method_39_code, 3, "StripsOfFourModel", "setOf", (some .int), { frames := 1, cells := 0, slots := 0, locals := 22 })
theorem d_X7_setOf_0 : decode prog_9_method_39_code 0 = .ok (.iload_n 1, 1) := by decide +kernel
theorem d_X7_setOf_1 : decode prog_9_method_39_code 1 = .ok (.iload_n 0, 1) := by decide +kernel
theorem d_X7_setOf_2 : decode prog_9_method_39_code 2 = .ok (.iconst 1, 1) := by decide +kernel
theorem d_X7_setOf_3 : decode prog_9_method_39_code 3 = .ok (.isub, 1) := by decide +kernel
theorem d_X7_setOf_4 : decode prog_9_method_39_code 4 = .ok (.iload_n 2, 1) := by decide +kernel
theorem d_X7_setOf_5 : decode prog_9_method_39_code 5 = .ok (.isub, 1) := by decide +kernel
theorem d_X7_setOf_6 : decode prog_9_method_39_code 6 = .ok (.invokestatic 166, 3) := by decide +kernel
theorem d_X7_setOf_9 : decode prog_9_method_39_code 9 = .ok (.idiv, 1) := by decide +kernel
theorem d_X7_setOf_10 : decode prog_9_method_39_code 10 = .ok (.bipush 100, 2) := by decide +kernel
theorem d_X7_setOf_12 : decode prog_9_method_39_code 12 = .ok (.irem, 1) := by decide +kernel
theorem d_X7_setOf_13 : decode prog_9_method_39_code 13 = .ok (.ireturn, 1) := by decide +kernel
def m_X7_setOf (sh : Sh) (v0 : Int32) (v1 : Int32) (v2 : Int32) (μ : Mu) : Option (Int32 × Mu) :=
  ca2 (m_X7_hundred sh ((v0 - 1) - v2) μ) fun r1 μ2 =>
  gd (nzI r1) <|
  gd (nzI 100) <|
  some ((v1 / r1) - (v1 / r1) / 100 * 100, μ2)
set_option maxHeartbeats 4000000 in
set_option maxRecDepth 20000 in
theorem t_X7_setOf {l : Launch} {G : Gl} {n : Nat} {sh : Sh} {x : Int32 × Mu} {v0 : Int32} {v1 : Int32} {v2 : Int32} {μ : Mu} (h : m_X7_setOf sh v0 v1 v2 μ = some x) : Ct l G ⟨"StripsOfFourModel", "setOf", "(III)I"⟩ prog_9_method_39_code 3 (some .int) { frames := 1, cells := 0, slots := 0, locals := 22 } n sh μ [vi v0, vi v1, vi v2] (some (.int x.1)) n sh x.2 := by
  refine Ct.of (lc := [some (vi v0), some (vi v1), some (vi v2)]) (by decide +kernel) (Nat.le_of_ble_eq_true rfl) rfl ?_
  show Sj l G (QI G n sh x) c_X7_setOf n sh 0 0 μ 0 [some (vi v0), some (vi v1), some (vi v2)] []
  unfold m_X7_setOf at h
  refine s_iload_n (pc := 0) d_X7_setOf_0 rfl rfl ?_
  refine s_iload_n (pc := 1) d_X7_setOf_1 rfl rfl ?_
  refine s_iconst (pc := 2) (v := 1) d_X7_setOf_2 (by decide) ?_
  refine s_isub (pc := 3) d_X7_setOf_3 ?_
  refine s_iload_n (pc := 4) d_X7_setOf_4 rfl rfl ?_
  refine s_isub (pc := 5) d_X7_setOf_5 ?_
  obtain ⟨r1, μ2, er1, h⟩ := ca2_1 h
  refine s_callS (pc := 6) (as := [vi ((v0 - 1) - v2)]) (st := [vi v1]) (vo := [vi r1]) (t_X7_hundred er1) d_X7_setOf_6 y_X7_hundred w_893 w_894 ⟨by decide, by decide⟩ ⟨Nat.le_of_ble_eq_true rfl, Nat.le_of_ble_eq_true rfl⟩ (Nat.le_of_ble_eq_true rfl) rfl rfl rfl ?_
  refine s_as (kc' := 0) (js' := 0) (pc' := 9) (st' := [vi r1, vi v1]) ⟨rfl, rfl, rfl, rfl⟩ ?_
  obtain ⟨g3, h⟩ := gd_1 h
  refine s_idiv (pc := 9) d_X7_setOf_9 (nzI_eq g3) ?_
  refine s_bipush (pc := 10) (v := 100) d_X7_setOf_10 (by decide) ?_
  obtain ⟨g4, h⟩ := gd_1 h
  refine s_irem (pc := 12) d_X7_setOf_12 (nzI_eq g4) ?_
  obtain rfl := Option.some.inj h
  exact s_iret (pc := 13) d_X7_setOf_13 rfl
/-! StripsOfFourModel.isRow -/
abbrev c_X7_isRow : Cf := (prog_9_method_40_code, 5, "StripsOfFourModel", "isRow", (some .boolean), { frames := 2, cells := 0, slots := 0, locals := 44 })
theorem d_X7_isRow_0 : decode prog_9_method_40_code 0 = .ok (.iload_n 1, 1) := by decide +kernel
theorem d_X7_isRow_1 : decode prog_9_method_40_code 1 = .ok (.i2l, 1) := by decide +kernel
theorem d_X7_isRow_2 : decode prog_9_method_40_code 2 = .ok (.lconst 0, 1) := by decide +kernel
theorem d_X7_isRow_3 : decode prog_9_method_40_code 3 = .ok (.iload_n 0, 1) := by decide +kernel
theorem d_X7_isRow_4 : decode prog_9_method_40_code 4 = .ok (.invokestatic 166, 3) := by decide +kernel
theorem d_X7_isRow_7 : decode prog_9_method_40_code 7 = .ok (.iconst 1, 1) := by decide +kernel
theorem d_X7_isRow_8 : decode prog_9_method_40_code 8 = .ok (.isub, 1) := by decide +kernel
theorem d_X7_isRow_9 : decode prog_9_method_40_code 9 = .ok (.i2l, 1) := by decide +kernel
theorem d_X7_isRow_10 : decode prog_9_method_40_code 10 = .ok (.invokestatic 73, 3) := by decide +kernel
theorem d_X7_isRow_13 : decode prog_9_method_40_code 13 = .ok (.istore_n 3, 1) := by decide +kernel
theorem d_X7_isRow_14 : decode prog_9_method_40_code 14 = .ok (.iconst 0, 1) := by decide +kernel
theorem d_X7_isRow_15 : decode prog_9_method_40_code 15 = .ok (.istore 4, 2) := by decide +kernel
theorem d_X7_isRow_17 : decode prog_9_method_40_code 17 = .ok (.iload 4, 2) := by decide +kernel
theorem d_X7_isRow_19 : decode prog_9_method_40_code 19 = .ok (.iload_n 0, 1) := by decide +kernel
theorem d_X7_isRow_20 : decode prog_9_method_40_code 20 = .ok (.if_icmp .ge 33, 3) := by decide +kernel
theorem d_X7_isRow_23 : decode prog_9_method_40_code 23 = .ok (.iload_n 3, 1) := by decide +kernel
theorem d_X7_isRow_24 : decode prog_9_method_40_code 24 = .ok (.ifCond .eq 29, 3) := by decide +kernel
theorem d_X7_isRow_27 : decode prog_9_method_40_code 27 = .ok (.iload_n 0, 1) := by decide +kernel
theorem d_X7_isRow_28 : decode prog_9_method_40_code 28 = .ok (.iload_n 1, 1) := by decide +kernel
theorem d_X7_isRow_29 : decode prog_9_method_40_code 29 = .ok (.iload 4, 2) := by decide +kernel
theorem d_X7_isRow_31 : decode prog_9_method_40_code 31 = .ok (.invokestatic 169, 3) := by decide +kernel
theorem d_X7_isRow_34 : decode prog_9_method_40_code 34 = .ok (.iload_n 2, 1) := by decide +kernel
theorem d_X7_isRow_35 : decode prog_9_method_40_code 35 = .ok (.iconst (-1), 1) := by decide +kernel
theorem d_X7_isRow_36 : decode prog_9_method_40_code 36 = .ok (.ixor, 1) := by decide +kernel
theorem d_X7_isRow_37 : decode prog_9_method_40_code 37 = .ok (.iand, 1) := by decide +kernel
theorem d_X7_isRow_38 : decode prog_9_method_40_code 38 = .ok (.ifCond .ne 7, 3) := by decide +kernel
theorem d_X7_isRow_41 : decode prog_9_method_40_code 41 = .ok (.iconst 1, 1) := by decide +kernel
theorem d_X7_isRow_42 : decode prog_9_method_40_code 42 = .ok (.goto 4, 3) := by decide +kernel
theorem d_X7_isRow_45 : decode prog_9_method_40_code 45 = .ok (.iconst 0, 1) := by decide +kernel
theorem d_X7_isRow_46 : decode prog_9_method_40_code 46 = .ok (.istore_n 3, 1) := by decide +kernel
theorem d_X7_isRow_47 : decode prog_9_method_40_code 47 = .ok (.iinc 4 1, 3) := by decide +kernel
theorem d_X7_isRow_50 : decode prog_9_method_40_code 50 = .ok (.goto (-33), 3) := by decide +kernel
theorem d_X7_isRow_53 : decode prog_9_method_40_code 53 = .ok (.iload_n 3, 1) := by decide +kernel
theorem d_X7_isRow_54 : decode prog_9_method_40_code 54 = .ok (.ireturn, 1) := by decide +kernel
def m_X7_isRow_b46 (sh : Sh) (k17 : Int32 → Int32 → Mu → Option (Int32 × Mu)) (v0 : Int32) (v1 : Int32) (v2 : Int32) (v4 : Int32) (s0 : Int32) (μ : Mu) : Option (Int32 × Mu) :=
  bd (v4 + 1) fun w10 =>
  k17 s0 w10 μ
def m_X7_isRow_b17 (sh : Sh) (k17 : Int32 → Int32 → Mu → Option (Int32 × Mu)) (v0 : Int32) (v1 : Int32) (v2 : Int32) (v3 : Int32) (v4 : Int32) (μ : Mu) : Option (Int32 × Mu) :=
  if v0 ≤ v4 then
    some (v3 &&& 1, μ)
  else
    if v3 = 0 then
      some (v3 &&& 1, μ)
    else
      ca2 (m_X7_setOf sh v0 v1 v4 μ) fun r7 μ8 =>
      if (r7 &&& (v2 ^^^ (-1))) = 0 then
        m_X7_isRow_b46 sh k17 v0 v1 v2 v4 1 μ8
      else
        m_X7_isRow_b46 sh k17 v0 v1 v2 v4 0 μ8
def m_X7_isRow_h17 (sh : Sh) (v0 : Int32) (v1 : Int32) (v2 : Int32) : Nat → Int32 → Int32 → Mu → Option (Int32 × Mu)
  | 0 => fun _ _ _ => none
  | f + 1 => fun v3 v4 μ => m_X7_isRow_b17 sh (m_X7_isRow_h17 sh v0 v1 v2 f) v0 v1 v2 v3 v4 μ
def m_X7_isRow (sh : Sh) (v0 : Int32) (v1 : Int32) (v2 : Int32) (μ : Mu) : Option (Int32 × Mu) :=
  ca2 (m_X7_hundred sh v0 μ) fun r1 μ2 =>
  ca2 (m_X7_in sh (v1.toInt64) 0 ((r1 - 1).toInt64) μ2) fun r3 μ4 =>
  m_X7_isRow_h17 sh v0 v1 v2 FU r3 0 μ4
set_option maxHeartbeats 4000000 in
set_option maxRecDepth 20000 in
theorem t_X7_isRow_b46 {l : Launch} {G : Gl} {n : Nat} {sh : Sh} {x : Int32 × Mu} {k17 : Int32 → Int32 → Mu → Option (Int32 × Mu)} {v0 : Int32} {v1 : Int32} {v2 : Int32} {v4 : Int32} {s0 : Int32} {μ : Mu} (hk17 : ∀ (v3 : Int32) (v4 : Int32) (μ : Mu), k17 v3 v4 μ = some x → Sj l G (QI G n sh x) c_X7_isRow n sh 0 0 μ 17 [some (vi v0), some (vi v1), some (vi v2), some (vi v3), some (vi v4)] []) (h : m_X7_isRow_b46 sh k17 v0 v1 v2 v4 s0 μ = some x) : Sj l G (QI G n sh x) c_X7_isRow n sh 0 0 μ 46 [some (vi v0), some (vi v1), some (vi v2), none, some (vi v4)] [vi s0] := by
  unfold m_X7_isRow_b46 at h
  refine s_istore_n (pc := 46) (lc' := [some (vi v0), some (vi v1), some (vi v2), some (vi s0), some (vi v4)]) d_X7_isRow_46 rfl (by decide) rfl ?_
  obtain ⟨w10, ew10, h⟩ := bd_1 h
  refine s_iinc (pc := 47) (v := w10) (lc' := [some (vi v0), some (vi v1), some (vi v2), some (vi s0), some (vi w10)]) d_X7_isRow_47 rfl (by rw [ew10]; rfl) (by decide) rfl ?_
  refine s_goto (pc := 50) (tgt := 17) d_X7_isRow_50 (by decide) ?_
  exact hk17 _ _ _ h
set_option maxHeartbeats 4000000 in
set_option maxRecDepth 20000 in
theorem t_X7_isRow_b17 {l : Launch} {G : Gl} {n : Nat} {sh : Sh} {x : Int32 × Mu} {k17 : Int32 → Int32 → Mu → Option (Int32 × Mu)} {v0 : Int32} {v1 : Int32} {v2 : Int32} {v3 : Int32} {v4 : Int32} {μ : Mu} (hk17 : ∀ (v3 : Int32) (v4 : Int32) (μ : Mu), k17 v3 v4 μ = some x → Sj l G (QI G n sh x) c_X7_isRow n sh 0 0 μ 17 [some (vi v0), some (vi v1), some (vi v2), some (vi v3), some (vi v4)] []) (h : m_X7_isRow_b17 sh k17 v0 v1 v2 v3 v4 μ = some x) : Sj l G (QI G n sh x) c_X7_isRow n sh 0 0 μ 17 [some (vi v0), some (vi v1), some (vi v2), some (vi v3), some (vi v4)] [] := by
  unfold m_X7_isRow_b17 at h
  refine s_iload (pc := 17) d_X7_isRow_17 rfl ?_
  refine s_iload_n (pc := 19) d_X7_isRow_19 rfl rfl ?_
  refine s_icmp_ge (pc := 20) (tgt := 53) d_X7_isRow_20 (by decide) (fun c5 => ?_) (fun c5 => ?_)
  · have h := it_t c5 h
    refine s_iload_n (pc := 53) d_X7_isRow_53 rfl rfl ?_
    obtain rfl := Option.some.inj h
    exact s_zret (pc := 54) d_X7_isRow_54 rfl
  · have h := it_f c5 h
    refine s_iload_n (pc := 23) d_X7_isRow_23 rfl rfl ?_
    refine s_if_eq (pc := 24) (tgt := 53) d_X7_isRow_24 (by decide) (fun c6 => ?_) (fun c6 => ?_)
    · have h := it_t c6 h
      refine s_iload_n (pc := 53) d_X7_isRow_53 rfl rfl ?_
      obtain rfl := Option.some.inj h
      exact s_zret (pc := 54) d_X7_isRow_54 rfl
    · have h := it_f c6 h
      refine s_iload_n (pc := 27) d_X7_isRow_27 rfl rfl ?_
      refine s_iload_n (pc := 28) d_X7_isRow_28 rfl rfl ?_
      refine s_iload (pc := 29) d_X7_isRow_29 rfl ?_
      obtain ⟨r7, μ8, er7, h⟩ := ca2_1 h
      refine s_callS (pc := 31) (as := [vi v0, vi v1, vi v4]) (st := []) (vo := [vi r7]) (t_X7_setOf er7) d_X7_isRow_31 y_X7_setOf w_896 w_897 ⟨by decide, by decide⟩ ⟨Nat.le_of_ble_eq_true rfl, Nat.le_of_ble_eq_true rfl⟩ (Nat.le_of_ble_eq_true rfl) rfl rfl rfl ?_
      refine s_as (kc' := 0) (js' := 0) (pc' := 34) (st' := [vi r7]) ⟨rfl, rfl, rfl, rfl⟩ ?_
      refine s_iload_n (pc := 34) d_X7_isRow_34 rfl rfl ?_
      refine s_iconst (pc := 35) (v := (-1)) d_X7_isRow_35 (by decide) ?_
      refine s_ixor (pc := 36) d_X7_isRow_36 ?_
      refine s_iand (pc := 37) d_X7_isRow_37 ?_
      refine s_if_ne (pc := 38) (tgt := 45) d_X7_isRow_38 (by decide) (fun c9 => ?_) (fun c9 => ?_)
      · have h := it_f c9 h
        refine s_iconst (pc := 45) (v := 0) d_X7_isRow_45 (by decide) ?_
        refine s_mask [true, true, true, false, true] rfl ?_
        exact t_X7_isRow_b46 hk17 h
      · have h := it_t c9 h
        refine s_iconst (pc := 41) (v := 1) d_X7_isRow_41 (by decide) ?_
        refine s_goto (pc := 42) (tgt := 46) d_X7_isRow_42 (by decide) ?_
        refine s_mask [true, true, true, false, true] rfl ?_
        exact t_X7_isRow_b46 hk17 h
set_option maxHeartbeats 4000000 in
set_option maxRecDepth 20000 in
theorem t_X7_isRow_h17 {l : Launch} {G : Gl} {n : Nat} {sh : Sh} {x : Int32 × Mu} {v0 : Int32} {v1 : Int32} {v2 : Int32} : ∀ (f : Nat) (v3 : Int32) (v4 : Int32) (μ : Mu), m_X7_isRow_h17 sh v0 v1 v2 f v3 v4 μ = some x → Sj l G (QI G n sh x) c_X7_isRow n sh 0 0 μ 17 [some (vi v0), some (vi v1), some (vi v2), some (vi v3), some (vi v4)] [] := by
  intro f
  induction f with
  | zero =>
    intro v3 v4 μ h
    cases h
  | succ f ih =>
    intro v3 v4 μ h
    exact t_X7_isRow_b17 ih h
set_option maxHeartbeats 4000000 in
set_option maxRecDepth 20000 in
theorem t_X7_isRow {l : Launch} {G : Gl} {n : Nat} {sh : Sh} {x : Int32 × Mu} {v0 : Int32} {v1 : Int32} {v2 : Int32} {μ : Mu} (h : m_X7_isRow sh v0 v1 v2 μ = some x) : Ct l G ⟨"StripsOfFourModel", "isRow", "(III)Z"⟩ prog_9_method_40_code 5 (some .boolean) { frames := 2, cells := 0, slots := 0, locals := 44 } n sh μ [vi v0, vi v1, vi v2] (some (.int x.1)) n sh x.2 := by
  refine Ct.of (lc := [some (vi v0), some (vi v1), some (vi v2), none, none]) (by decide +kernel) (Nat.le_of_ble_eq_true rfl) rfl ?_
  show Sj l G (QI G n sh x) c_X7_isRow n sh 0 0 μ 0 [some (vi v0), some (vi v1), some (vi v2), none, none] []
  unfold m_X7_isRow at h
  refine s_iload_n (pc := 0) d_X7_isRow_0 rfl rfl ?_
  refine s_i2l (pc := 1) d_X7_isRow_1 ?_
  refine s_lconst (pc := 2) (v := 0) d_X7_isRow_2 (by decide) ?_
  refine s_iload_n (pc := 3) d_X7_isRow_3 rfl rfl ?_
  obtain ⟨r1, μ2, er1, h⟩ := ca2_1 h
  refine s_callS (pc := 4) (as := [vi v0]) (st := [vl 0, vl (v1.toInt64)]) (vo := [vi r1]) (t_X7_hundred er1) d_X7_isRow_4 y_X7_hundred w_893 w_894 ⟨by decide, by decide⟩ ⟨Nat.le_of_ble_eq_true rfl, Nat.le_of_ble_eq_true rfl⟩ (Nat.le_of_ble_eq_true rfl) rfl rfl rfl ?_
  refine s_as (kc' := 0) (js' := 0) (pc' := 7) (st' := [vi r1, vl 0, vl (v1.toInt64)]) ⟨rfl, rfl, rfl, rfl⟩ ?_
  refine s_iconst (pc := 7) (v := 1) d_X7_isRow_7 (by decide) ?_
  refine s_isub (pc := 8) d_X7_isRow_8 ?_
  refine s_i2l (pc := 9) d_X7_isRow_9 ?_
  obtain ⟨r3, μ4, er3, h⟩ := ca2_1 h
  refine s_callS (pc := 10) (as := [vl (v1.toInt64), vl 0, vl ((r1 - 1).toInt64)]) (st := []) (vo := [vi r3]) (t_X7_in er3) d_X7_isRow_10 y_X7_in w_754 w_755 ⟨by decide, by decide⟩ ⟨Nat.le_of_ble_eq_true rfl, Nat.le_of_ble_eq_true rfl⟩ (Nat.le_of_ble_eq_true rfl) rfl rfl rfl ?_
  refine s_as (kc' := 0) (js' := 0) (pc' := 13) (st' := [vi r3]) ⟨rfl, rfl, rfl, rfl⟩ ?_
  refine s_istore_n (pc := 13) (lc' := [some (vi v0), some (vi v1), some (vi v2), some (vi r3), none]) d_X7_isRow_13 rfl (by decide) rfl ?_
  refine s_iconst (pc := 14) (v := 0) d_X7_isRow_14 (by decide) ?_
  refine s_istore (pc := 15) (lc' := [some (vi v0), some (vi v1), some (vi v2), some (vi r3), some (vi 0)]) d_X7_isRow_15 (by decide) rfl ?_
  exact t_X7_isRow_h17 FU _ _ _ h
/-! StripsOfFourModel.forgery -/
abbrev c_X7_forgery : Cf := (prog_9_method_50_code, 10, "StripsOfFourModel", "forgery", (some .int), { frames := 3, cells := 0, slots := 0, locals := 73 })
theorem d_X7_forgery_0 : decode prog_9_method_50_code 0 = .ok (.aload_n 0, 1) := by decide +kernel
theorem d_X7_forgery_1 : decode prog_9_method_50_code 1 = .ok (.iconst 0, 1) := by decide +kernel
theorem d_X7_forgery_2 : decode prog_9_method_50_code 2 = .ok (.putfield 66, 3) := by decide +kernel
theorem d_X7_forgery_5 : decode prog_9_method_50_code 5 = .ok (.aload_n 0, 1) := by decide +kernel
theorem d_X7_forgery_6 : decode prog_9_method_50_code 6 = .ok (.iload_n 1, 1) := by decide +kernel
theorem d_X7_forgery_7 : decode prog_9_method_50_code 7 = .ok (.invokevirtual 121, 3) := by decide +kernel
theorem d_X7_forgery_10 : decode prog_9_method_50_code 10 = .ok (.ifCond .eq 5, 3) := by decide +kernel
theorem d_X7_forgery_13 : decode prog_9_method_50_code 13 = .ok (.iconst (-1), 1) := by decide +kernel
theorem d_X7_forgery_14 : decode prog_9_method_50_code 14 = .ok (.ireturn, 1) := by decide +kernel
theorem d_X7_forgery_15 : decode prog_9_method_50_code 15 = .ok (.iload_n 2, 1) := by decide +kernel
theorem d_X7_forgery_16 : decode prog_9_method_50_code 16 = .ok (.i2l, 1) := by decide +kernel
theorem d_X7_forgery_17 : decode prog_9_method_50_code 17 = .ok (.lconst 0, 1) := by decide +kernel
theorem d_X7_forgery_18 : decode prog_9_method_50_code 18 = .ok (.ldc2_w 193, 3) := by decide +kernel
theorem d_X7_forgery_21 : decode prog_9_method_50_code 21 = .ok (.invokestatic 73, 3) := by decide +kernel
theorem d_X7_forgery_24 : decode prog_9_method_50_code 24 = .ok (.ifCond .eq 13, 3) := by decide +kernel
theorem d_X7_forgery_27 : decode prog_9_method_50_code 27 = .ok (.iconst 4, 1) := by decide +kernel
theorem d_X7_forgery_28 : decode prog_9_method_50_code 28 = .ok (.iload_n 3, 1) := by decide +kernel
theorem d_X7_forgery_29 : decode prog_9_method_50_code 29 = .ok (.bipush 31, 2) := by decide +kernel
theorem d_X7_forgery_31 : decode prog_9_method_50_code 31 = .ok (.invokestatic 174, 3) := by decide +kernel
theorem d_X7_forgery_34 : decode prog_9_method_50_code 34 = .ok (.ifCond .ne 6, 3) := by decide +kernel
theorem d_X7_forgery_37 : decode prog_9_method_50_code 37 = .ok (.bipush (-2), 2) := by decide +kernel
theorem d_X7_forgery_39 : decode prog_9_method_50_code 39 = .ok (.ireturn, 1) := by decide +kernel
theorem d_X7_forgery_40 : decode prog_9_method_50_code 40 = .ok (.iconst 0, 1) := by decide +kernel
theorem d_X7_forgery_41 : decode prog_9_method_50_code 41 = .ok (.istore 4, 2) := by decide +kernel
theorem d_X7_forgery_43 : decode prog_9_method_50_code 43 = .ok (.iload 4, 2) := by decide +kernel
theorem d_X7_forgery_45 : decode prog_9_method_50_code 45 = .ok (.iconst 4, 1) := by decide +kernel
theorem d_X7_forgery_46 : decode prog_9_method_50_code 46 = .ok (.if_icmp .ge 130, 3) := by decide +kernel
theorem d_X7_forgery_49 : decode prog_9_method_50_code 49 = .ok (.iload_n 2, 1) := by decide +kernel
theorem d_X7_forgery_50 : decode prog_9_method_50_code 50 = .ok (.iload 4, 2) := by decide +kernel
theorem d_X7_forgery_52 : decode prog_9_method_50_code 52 = .ok (.aload_n 0, 1) := by decide +kernel
theorem d_X7_forgery_53 : decode prog_9_method_50_code 53 = .ok (.getfield 16, 3) := by decide +kernel
theorem d_X7_forgery_56 : decode prog_9_method_50_code 56 = .ok (.iload_n 1, 1) := by decide +kernel
theorem d_X7_forgery_57 : decode prog_9_method_50_code 57 = .ok (.iaload, 1) := by decide +kernel
theorem d_X7_forgery_58 : decode prog_9_method_50_code 58 = .ok (.imul, 1) := by decide +kernel
theorem d_X7_forgery_59 : decode prog_9_method_50_code 59 = .ok (.iadd, 1) := by decide +kernel
theorem d_X7_forgery_60 : decode prog_9_method_50_code 60 = .ok (.istore 5, 2) := by decide +kernel
theorem d_X7_forgery_62 : decode prog_9_method_50_code 62 = .ok (.iconst 4, 1) := by decide +kernel
theorem d_X7_forgery_63 : decode prog_9_method_50_code 63 = .ok (.iload_n 3, 1) := by decide +kernel
theorem d_X7_forgery_64 : decode prog_9_method_50_code 64 = .ok (.iload 4, 2) := by decide +kernel
theorem d_X7_forgery_66 : decode prog_9_method_50_code 66 = .ok (.invokestatic 169, 3) := by decide +kernel
theorem d_X7_forgery_69 : decode prog_9_method_50_code 69 = .ok (.istore 6, 2) := by decide +kernel
theorem d_X7_forgery_71 : decode prog_9_method_50_code 71 = .ok (.aload_n 0, 1) := by decide +kernel
theorem d_X7_forgery_72 : decode prog_9_method_50_code 72 = .ok (.iload_n 1, 1) := by decide +kernel
theorem d_X7_forgery_73 : decode prog_9_method_50_code 73 = .ok (.iload 5, 2) := by decide +kernel
theorem d_X7_forgery_75 : decode prog_9_method_50_code 75 = .ok (.invokevirtual 195, 3) := by decide +kernel
theorem d_X7_forgery_78 : decode prog_9_method_50_code 78 = .ok (.istore 7, 2) := by decide +kernel
theorem d_X7_forgery_80 : decode prog_9_method_50_code 80 = .ok (.aload_n 0, 1) := by decide +kernel
theorem d_X7_forgery_81 : decode prog_9_method_50_code 81 = .ok (.iload_n 1, 1) := by decide +kernel
theorem d_X7_forgery_82 : decode prog_9_method_50_code 82 = .ok (.iload 5, 2) := by decide +kernel
theorem d_X7_forgery_84 : decode prog_9_method_50_code 84 = .ok (.invokevirtual 125, 3) := by decide +kernel
theorem d_X7_forgery_87 : decode prog_9_method_50_code 87 = .ok (.ifCond .eq 17, 3) := by decide +kernel
theorem d_X7_forgery_90 : decode prog_9_method_50_code 90 = .ok (.iload 7, 2) := by decide +kernel
theorem d_X7_forgery_92 : decode prog_9_method_50_code 92 = .ok (.bipush (-9), 2) := by decide +kernel
theorem d_X7_forgery_94 : decode prog_9_method_50_code 94 = .ok (.if_icmp .eq 14, 3) := by decide +kernel
theorem d_X7_forgery_97 : decode prog_9_method_50_code 97 = .ok (.iload 7, 2) := by decide +kernel
theorem d_X7_forgery_99 : decode prog_9_method_50_code 99 = .ok (.iload 6, 2) := by decide +kernel
theorem d_X7_forgery_101 : decode prog_9_method_50_code 101 = .ok (.if_icmp .eq 7, 3) := by decide +kernel
theorem d_X7_forgery_104 : decode prog_9_method_50_code 104 = .ok (.iconst 1, 1) := by decide +kernel
theorem d_X7_forgery_105 : decode prog_9_method_50_code 105 = .ok (.goto 4, 3) := by decide +kernel
theorem d_X7_forgery_108 : decode prog_9_method_50_code 108 = .ok (.iconst 0, 1) := by decide +kernel
theorem d_X7_forgery_109 : decode prog_9_method_50_code 109 = .ok (.istore 8, 2) := by decide +kernel
theorem d_X7_forgery_111 : decode prog_9_method_50_code 111 = .ok (.iconst 0, 1) := by decide +kernel
theorem d_X7_forgery_112 : decode prog_9_method_50_code 112 = .ok (.istore 9, 2) := by decide +kernel
theorem d_X7_forgery_114 : decode prog_9_method_50_code 114 = .ok (.iload 9, 2) := by decide +kernel
theorem d_X7_forgery_116 : decode prog_9_method_50_code 116 = .ok (.iconst 5, 1) := by decide +kernel
theorem d_X7_forgery_117 : decode prog_9_method_50_code 117 = .ok (.if_icmp .ge 45, 3) := by decide +kernel
theorem d_X7_forgery_120 : decode prog_9_method_50_code 120 = .ok (.iload 8, 2) := by decide +kernel
theorem d_X7_forgery_122 : decode prog_9_method_50_code 122 = .ok (.ifCond .ne 27, 3) := by decide +kernel
theorem d_X7_forgery_125 : decode prog_9_method_50_code 125 = .ok (.iload 6, 2) := by decide +kernel
theorem d_X7_forgery_127 : decode prog_9_method_50_code 127 = .ok (.iload 9, 2) := by decide +kernel
theorem d_X7_forgery_129 : decode prog_9_method_50_code 129 = .ok (.invokestatic 178, 3) := by decide +kernel
theorem d_X7_forgery_132 : decode prog_9_method_50_code 132 = .ok (.ifCond .eq 21, 3) := by decide +kernel
theorem d_X7_forgery_135 : decode prog_9_method_50_code 135 = .ok (.aload_n 0, 1) := by decide +kernel
theorem d_X7_forgery_136 : decode prog_9_method_50_code 136 = .ok (.iload 9, 2) := by decide +kernel
theorem d_X7_forgery_138 : decode prog_9_method_50_code 138 = .ok (.iconst 1, 1) := by decide +kernel
theorem d_X7_forgery_139 : decode prog_9_method_50_code 139 = .ok (.iload_n 1, 1) := by decide +kernel
theorem d_X7_forgery_140 : decode prog_9_method_50_code 140 = .ok (.isub, 1) := by decide +kernel
theorem d_X7_forgery_141 : decode prog_9_method_50_code 141 = .ok (.iload 5, 2) := by decide +kernel
theorem d_X7_forgery_143 : decode prog_9_method_50_code 143 = .ok (.invokevirtual 198, 3) := by decide +kernel
theorem d_X7_forgery_146 : decode prog_9_method_50_code 146 = .ok (.ifCond .eq 7, 3) := by decide +kernel
theorem d_X7_forgery_149 : decode prog_9_method_50_code 149 = .ok (.iconst 1, 1) := by decide +kernel
theorem d_X7_forgery_150 : decode prog_9_method_50_code 150 = .ok (.goto 4, 3) := by decide +kernel
theorem d_X7_forgery_153 : decode prog_9_method_50_code 153 = .ok (.iconst 0, 1) := by decide +kernel
theorem d_X7_forgery_154 : decode prog_9_method_50_code 154 = .ok (.istore 8, 2) := by decide +kernel
theorem d_X7_forgery_156 : decode prog_9_method_50_code 156 = .ok (.iinc 9 1, 3) := by decide +kernel
theorem d_X7_forgery_159 : decode prog_9_method_50_code 159 = .ok (.goto (-45), 3) := by decide +kernel
theorem d_X7_forgery_162 : decode prog_9_method_50_code 162 = .ok (.iload 8, 2) := by decide +kernel
theorem d_X7_forgery_164 : decode prog_9_method_50_code 164 = .ok (.ifCond .eq 6, 3) := by decide +kernel
theorem d_X7_forgery_167 : decode prog_9_method_50_code 167 = .ok (.iload 4, 2) := by decide +kernel
theorem d_X7_forgery_169 : decode prog_9_method_50_code 169 = .ok (.ireturn, 1) := by decide +kernel
theorem d_X7_forgery_170 : decode prog_9_method_50_code 170 = .ok (.iinc 4 1, 3) := by decide +kernel
theorem d_X7_forgery_173 : decode prog_9_method_50_code 173 = .ok (.goto (-130), 3) := by decide +kernel
theorem d_X7_forgery_176 : decode prog_9_method_50_code 176 = .ok (.bipush (-9), 2) := by decide +kernel
theorem d_X7_forgery_178 : decode prog_9_method_50_code 178 = .ok (.ireturn, 1) := by decide +kernel
def m_X7_forgery_b154 (sh : Sh) (k43 : Int32 → Mu → Option (Int32 × Mu)) (k114 : Int32 → Int32 → Mu → Option (Int32 × Mu)) (v0 : Nat) (v1 : Int32) (v2 : Int32) (v3 : Int32) (v4 : Int32) (v5 : Int32) (v6 : Int32) (v9 : Int32) (s0 : Int32) (μ : Mu) : Option (Int32 × Mu) :=
  bd (v9 + 1) fun w38 =>
  k114 s0 w38 μ
def m_X7_forgery_b149 (sh : Sh) (k43 : Int32 → Mu → Option (Int32 × Mu)) (k114 : Int32 → Int32 → Mu → Option (Int32 × Mu)) (v0 : Nat) (v1 : Int32) (v2 : Int32) (v3 : Int32) (v4 : Int32) (v5 : Int32) (v6 : Int32) (v9 : Int32) (μ : Mu) : Option (Int32 × Mu) :=
  m_X7_forgery_b154 sh k43 k114 v0 v1 v2 v3 v4 v5 v6 v9 1 μ
def m_X7_forgery_b153 (sh : Sh) (k43 : Int32 → Mu → Option (Int32 × Mu)) (k114 : Int32 → Int32 → Mu → Option (Int32 × Mu)) (v0 : Nat) (v1 : Int32) (v2 : Int32) (v3 : Int32) (v4 : Int32) (v5 : Int32) (v6 : Int32) (v9 : Int32) (μ : Mu) : Option (Int32 × Mu) :=
  m_X7_forgery_b154 sh k43 k114 v0 v1 v2 v3 v4 v5 v6 v9 0 μ
def m_X7_forgery_b162 (sh : Sh) (k43 : Int32 → Mu → Option (Int32 × Mu)) (v0 : Nat) (v1 : Int32) (v2 : Int32) (v3 : Int32) (v4 : Int32) (v8 : Int32) (μ : Mu) : Option (Int32 × Mu) :=
  if v8 = 0 then
    bd (v4 + 1) fun w37 =>
    k43 w37 μ
  else
    some (v4, μ)
def m_X7_forgery_b114 (sh : Sh) (k43 : Int32 → Mu → Option (Int32 × Mu)) (k114 : Int32 → Int32 → Mu → Option (Int32 × Mu)) (v0 : Nat) (v1 : Int32) (v2 : Int32) (v3 : Int32) (v4 : Int32) (v5 : Int32) (v6 : Int32) (v8 : Int32) (v9 : Int32) (μ : Mu) : Option (Int32 × Mu) :=
  if 5 ≤ v9 then
    m_X7_forgery_b162 sh k43 v0 v1 v2 v3 v4 v8 μ
  else
    if v8 = 0 then
      ca2 (m_X7_has sh v6 v9 μ) fun r29 μ30 =>
      if r29 = 0 then
        m_X7_forgery_b153 sh k43 k114 v0 v1 v2 v3 v4 v5 v6 v9 μ30
      else
        gd (iz sh 7 v0) <|
        ca2 (m_X7_isElsewhere sh v0 v9 (1 - v1) v5 μ30) fun r33 μ34 =>
        if r33 = 0 then
          m_X7_forgery_b153 sh k43 k114 v0 v1 v2 v3 v4 v5 v6 v9 μ34
        else
          m_X7_forgery_b149 sh k43 k114 v0 v1 v2 v3 v4 v5 v6 v9 μ34
    else
      m_X7_forgery_b149 sh k43 k114 v0 v1 v2 v3 v4 v5 v6 v9 μ
def m_X7_forgery_h114 (sh : Sh) (k43 : Int32 → Mu → Option (Int32 × Mu)) (v0 : Nat) (v1 : Int32) (v2 : Int32) (v3 : Int32) (v4 : Int32) (v5 : Int32) (v6 : Int32) : Nat → Int32 → Int32 → Mu → Option (Int32 × Mu)
  | 0 => fun _ _ _ => none
  | f + 1 => fun v8 v9 μ => m_X7_forgery_b114 sh k43 (m_X7_forgery_h114 sh k43 v0 v1 v2 v3 v4 v5 v6 f) v0 v1 v2 v3 v4 v5 v6 v8 v9 μ
def m_X7_forgery_b109 (sh : Sh) (k43 : Int32 → Mu → Option (Int32 × Mu)) (v0 : Nat) (v1 : Int32) (v2 : Int32) (v3 : Int32) (v4 : Int32) (v5 : Int32) (v6 : Int32) (s0 : Int32) (μ : Mu) : Option (Int32 × Mu) :=
  m_X7_forgery_h114 sh k43 v0 v1 v2 v3 v4 v5 v6 FU s0 0 μ
def m_X7_forgery_b104 (sh : Sh) (k43 : Int32 → Mu → Option (Int32 × Mu)) (v0 : Nat) (v1 : Int32) (v2 : Int32) (v3 : Int32) (v4 : Int32) (v5 : Int32) (v6 : Int32) (μ : Mu) : Option (Int32 × Mu) :=
  m_X7_forgery_b109 sh k43 v0 v1 v2 v3 v4 v5 v6 1 μ
def m_X7_forgery_b108 (sh : Sh) (k43 : Int32 → Mu → Option (Int32 × Mu)) (v0 : Nat) (v1 : Int32) (v2 : Int32) (v3 : Int32) (v4 : Int32) (v5 : Int32) (v6 : Int32) (μ : Mu) : Option (Int32 × Mu) :=
  m_X7_forgery_b109 sh k43 v0 v1 v2 v3 v4 v5 v6 0 μ
def m_X7_forgery_b43 (sh : Sh) (k43 : Int32 → Mu → Option (Int32 × Mu)) (v0 : Nat) (v1 : Int32) (v2 : Int32) (v3 : Int32) (v4 : Int32) (μ : Mu) : Option (Int32 × Mu) :=
  if 4 ≤ v4 then
    some ((-9), μ)
  else
    gd (iz sh 7 v0) <|
    bd (gR μ v0 8) fun a14 =>
    gd (ix sh 8 a14 v1) <|
    bd (gI μ a14 v1.toNatClampNeg) fun w16 =>
    bd (v2 + (v4 * w16)) fun w17 =>
    ca2 (m_X7_setOf sh 4 v3 v4 μ) fun r18 μ19 =>
    ca2 (m_X7_shown sh v0 v1 w17 μ19) fun r20 μ21 =>
    ca2 (m_X7_isFlash sh v0 v1 w17 μ21) fun r22 μ23 =>
    if r22 = 0 then
      m_X7_forgery_b104 sh k43 v0 v1 v2 v3 v4 w17 r18 μ23
    else
      if r20 = (-9) then
        m_X7_forgery_b108 sh k43 v0 v1 v2 v3 v4 w17 r18 μ23
      else
        if r20 = r18 then
          m_X7_forgery_b108 sh k43 v0 v1 v2 v3 v4 w17 r18 μ23
        else
          m_X7_forgery_b104 sh k43 v0 v1 v2 v3 v4 w17 r18 μ23
def m_X7_forgery_h43 (sh : Sh) (v0 : Nat) (v1 : Int32) (v2 : Int32) (v3 : Int32) : Nat → Int32 → Mu → Option (Int32 × Mu)
  | 0 => fun _ _ => none
  | f + 1 => fun v4 μ => m_X7_forgery_b43 sh (m_X7_forgery_h43 sh v0 v1 v2 v3 f) v0 v1 v2 v3 v4 μ
def m_X7_forgery (sh : Sh) (v0 : Nat) (v1 : Int32) (v2 : Int32) (v3 : Int32) (μ : Mu) : Option (Int32 × Mu) :=
  gd (iz sh 7 v0) <|
  bd (sI μ v0 0 0) fun μ2 =>
  ca2 (m_X7_noBooth sh v0 v1 μ2) fun r3 μ4 =>
  if r3 = 0 then
    ca2 (m_X7_in sh (v2.toInt64) 0 999 μ4) fun r6 μ7 =>
    if r6 = 0 then
      some ((-2), μ7)
    else
      ca2 (m_X7_isRow sh 4 v3 31 μ7) fun r9 μ10 =>
      if r9 = 0 then
        some ((-2), μ10)
      else
        m_X7_forgery_h43 sh v0 v1 v2 v3 FU 0 μ10
  else
    some ((-1), μ4)
set_option maxHeartbeats 4000000 in
set_option maxRecDepth 20000 in
theorem t_X7_forgery_b154 {l : Launch} {G : Gl} {n : Nat} {sh : Sh} {x : Int32 × Mu} {k43 : Int32 → Mu → Option (Int32 × Mu)} {k114 : Int32 → Int32 → Mu → Option (Int32 × Mu)} {v0 : Nat} {v1 : Int32} {v2 : Int32} {v3 : Int32} {v4 : Int32} {v5 : Int32} {v6 : Int32} {v9 : Int32} {s0 : Int32} {μ : Mu} (hk43 : ∀ (v4 : Int32) (μ : Mu), k43 v4 μ = some x → Sj l G (QI G n sh x) c_X7_forgery n sh 0 0 μ 43 [some (vr v0), some (vi v1), some (vi v2), some (vi v3), some (vi v4), none, none, none, none, none] []) (hk114 : ∀ (v8 : Int32) (v9 : Int32) (μ : Mu), k114 v8 v9 μ = some x → Sj l G (QI G n sh x) c_X7_forgery n sh 0 0 μ 114 [some (vr v0), some (vi v1), some (vi v2), some (vi v3), some (vi v4), some (vi v5), some (vi v6), none, some (vi v8), some (vi v9)] []) (h : m_X7_forgery_b154 sh k43 k114 v0 v1 v2 v3 v4 v5 v6 v9 s0 μ = some x) : Sj l G (QI G n sh x) c_X7_forgery n sh 0 0 μ 154 [some (vr v0), some (vi v1), some (vi v2), some (vi v3), some (vi v4), some (vi v5), some (vi v6), none, none, some (vi v9)] [vi s0] := by
  unfold m_X7_forgery_b154 at h
  refine s_istore (pc := 154) (lc' := [some (vr v0), some (vi v1), some (vi v2), some (vi v3), some (vi v4), some (vi v5), some (vi v6), none, some (vi s0), some (vi v9)]) d_X7_forgery_154 (by decide) rfl ?_
  obtain ⟨w38, ew38, h⟩ := bd_1 h
  refine s_iinc (pc := 156) (v := w38) (lc' := [some (vr v0), some (vi v1), some (vi v2), some (vi v3), some (vi v4), some (vi v5), some (vi v6), none, some (vi s0), some (vi w38)]) d_X7_forgery_156 rfl (by rw [ew38]; rfl) (by decide) rfl ?_
  refine s_goto (pc := 159) (tgt := 114) d_X7_forgery_159 (by decide) ?_
  exact hk114 _ _ _ h
set_option maxHeartbeats 4000000 in
set_option maxRecDepth 20000 in
theorem t_X7_forgery_b149 {l : Launch} {G : Gl} {n : Nat} {sh : Sh} {x : Int32 × Mu} {k43 : Int32 → Mu → Option (Int32 × Mu)} {k114 : Int32 → Int32 → Mu → Option (Int32 × Mu)} {v0 : Nat} {v1 : Int32} {v2 : Int32} {v3 : Int32} {v4 : Int32} {v5 : Int32} {v6 : Int32} {v9 : Int32} {μ : Mu} (hk43 : ∀ (v4 : Int32) (μ : Mu), k43 v4 μ = some x → Sj l G (QI G n sh x) c_X7_forgery n sh 0 0 μ 43 [some (vr v0), some (vi v1), some (vi v2), some (vi v3), some (vi v4), none, none, none, none, none] []) (hk114 : ∀ (v8 : Int32) (v9 : Int32) (μ : Mu), k114 v8 v9 μ = some x → Sj l G (QI G n sh x) c_X7_forgery n sh 0 0 μ 114 [some (vr v0), some (vi v1), some (vi v2), some (vi v3), some (vi v4), some (vi v5), some (vi v6), none, some (vi v8), some (vi v9)] []) (h : m_X7_forgery_b149 sh k43 k114 v0 v1 v2 v3 v4 v5 v6 v9 μ = some x) : Sj l G (QI G n sh x) c_X7_forgery n sh 0 0 μ 149 [some (vr v0), some (vi v1), some (vi v2), some (vi v3), some (vi v4), some (vi v5), some (vi v6), none, none, some (vi v9)] [] := by
  unfold m_X7_forgery_b149 at h
  refine s_iconst (pc := 149) (v := 1) d_X7_forgery_149 (by decide) ?_
  refine s_goto (pc := 150) (tgt := 154) d_X7_forgery_150 (by decide) ?_
  exact t_X7_forgery_b154 hk43 hk114 h
set_option maxHeartbeats 4000000 in
set_option maxRecDepth 20000 in
theorem t_X7_forgery_b153 {l : Launch} {G : Gl} {n : Nat} {sh : Sh} {x : Int32 × Mu} {k43 : Int32 → Mu → Option (Int32 × Mu)} {k114 : Int32 → Int32 → Mu → Option (Int32 × Mu)} {v0 : Nat} {v1 : Int32} {v2 : Int32} {v3 : Int32} {v4 : Int32} {v5 : Int32} {v6 : Int32} {v9 : Int32} {μ : Mu} (hk43 : ∀ (v4 : Int32) (μ : Mu), k43 v4 μ = some x → Sj l G (QI G n sh x) c_X7_forgery n sh 0 0 μ 43 [some (vr v0), some (vi v1), some (vi v2), some (vi v3), some (vi v4), none, none, none, none, none] []) (hk114 : ∀ (v8 : Int32) (v9 : Int32) (μ : Mu), k114 v8 v9 μ = some x → Sj l G (QI G n sh x) c_X7_forgery n sh 0 0 μ 114 [some (vr v0), some (vi v1), some (vi v2), some (vi v3), some (vi v4), some (vi v5), some (vi v6), none, some (vi v8), some (vi v9)] []) (h : m_X7_forgery_b153 sh k43 k114 v0 v1 v2 v3 v4 v5 v6 v9 μ = some x) : Sj l G (QI G n sh x) c_X7_forgery n sh 0 0 μ 153 [some (vr v0), some (vi v1), some (vi v2), some (vi v3), some (vi v4), some (vi v5), some (vi v6), none, none, some (vi v9)] [] := by
  unfold m_X7_forgery_b153 at h
  refine s_iconst (pc := 153) (v := 0) d_X7_forgery_153 (by decide) ?_
  exact t_X7_forgery_b154 hk43 hk114 h
set_option maxHeartbeats 4000000 in
set_option maxRecDepth 20000 in
theorem t_X7_forgery_b162 {l : Launch} {G : Gl} {n : Nat} {sh : Sh} {x : Int32 × Mu} {k43 : Int32 → Mu → Option (Int32 × Mu)} {v0 : Nat} {v1 : Int32} {v2 : Int32} {v3 : Int32} {v4 : Int32} {v8 : Int32} {μ : Mu} (hk43 : ∀ (v4 : Int32) (μ : Mu), k43 v4 μ = some x → Sj l G (QI G n sh x) c_X7_forgery n sh 0 0 μ 43 [some (vr v0), some (vi v1), some (vi v2), some (vi v3), some (vi v4), none, none, none, none, none] []) (h : m_X7_forgery_b162 sh k43 v0 v1 v2 v3 v4 v8 μ = some x) : Sj l G (QI G n sh x) c_X7_forgery n sh 0 0 μ 162 [some (vr v0), some (vi v1), some (vi v2), some (vi v3), some (vi v4), none, none, none, some (vi v8), none] [] := by
  unfold m_X7_forgery_b162 at h
  refine s_iload (pc := 162) d_X7_forgery_162 rfl ?_
  refine s_if_eq (pc := 164) (tgt := 170) d_X7_forgery_164 (by decide) (fun c36 => ?_) (fun c36 => ?_)
  · have h := it_t c36 h
    obtain ⟨w37, ew37, h⟩ := bd_1 h
    refine s_iinc (pc := 170) (v := w37) (lc' := [some (vr v0), some (vi v1), some (vi v2), some (vi v3), some (vi w37), none, none, none, some (vi v8), none]) d_X7_forgery_170 rfl (by rw [ew37]; rfl) (by decide) rfl ?_
    refine s_goto (pc := 173) (tgt := 43) d_X7_forgery_173 (by decide) ?_
    refine s_mask [true, true, true, true, true, true, true, true, false, true] rfl ?_
    exact hk43 _ _ h
  · have h := it_f c36 h
    refine s_iload (pc := 167) d_X7_forgery_167 rfl ?_
    obtain rfl := Option.some.inj h
    exact s_iret (pc := 169) d_X7_forgery_169 rfl
set_option maxHeartbeats 4000000 in
set_option maxRecDepth 20000 in
theorem t_X7_forgery_b114 {l : Launch} {G : Gl} {n : Nat} {sh : Sh} {x : Int32 × Mu} {k43 : Int32 → Mu → Option (Int32 × Mu)} {k114 : Int32 → Int32 → Mu → Option (Int32 × Mu)} {v0 : Nat} {v1 : Int32} {v2 : Int32} {v3 : Int32} {v4 : Int32} {v5 : Int32} {v6 : Int32} {v8 : Int32} {v9 : Int32} {μ : Mu} (hk43 : ∀ (v4 : Int32) (μ : Mu), k43 v4 μ = some x → Sj l G (QI G n sh x) c_X7_forgery n sh 0 0 μ 43 [some (vr v0), some (vi v1), some (vi v2), some (vi v3), some (vi v4), none, none, none, none, none] []) (hk114 : ∀ (v8 : Int32) (v9 : Int32) (μ : Mu), k114 v8 v9 μ = some x → Sj l G (QI G n sh x) c_X7_forgery n sh 0 0 μ 114 [some (vr v0), some (vi v1), some (vi v2), some (vi v3), some (vi v4), some (vi v5), some (vi v6), none, some (vi v8), some (vi v9)] []) (h : m_X7_forgery_b114 sh k43 k114 v0 v1 v2 v3 v4 v5 v6 v8 v9 μ = some x) : Sj l G (QI G n sh x) c_X7_forgery n sh 0 0 μ 114 [some (vr v0), some (vi v1), some (vi v2), some (vi v3), some (vi v4), some (vi v5), some (vi v6), none, some (vi v8), some (vi v9)] [] := by
  unfold m_X7_forgery_b114 at h
  refine s_iload (pc := 114) d_X7_forgery_114 rfl ?_
  refine s_iconst (pc := 116) (v := 5) d_X7_forgery_116 (by decide) ?_
  refine s_icmp_ge (pc := 117) (tgt := 162) d_X7_forgery_117 (by decide) (fun c27 => ?_) (fun c27 => ?_)
  · have h := it_t c27 h
    refine s_mask [true, true, true, true, true, false, false, true, true, false] rfl ?_
    exact t_X7_forgery_b162 hk43 h
  · have h := it_f c27 h
    refine s_iload (pc := 120) d_X7_forgery_120 rfl ?_
    refine s_if_ne (pc := 122) (tgt := 149) d_X7_forgery_122 (by decide) (fun c28 => ?_) (fun c28 => ?_)
    · have h := it_f c28 h
      refine s_mask [true, true, true, true, true, true, true, true, false, true] rfl ?_
      exact t_X7_forgery_b149 hk43 hk114 h
    · have h := it_t c28 h
      refine s_iload (pc := 125) d_X7_forgery_125 rfl ?_
      refine s_iload (pc := 127) d_X7_forgery_127 rfl ?_
      obtain ⟨r29, μ30, er29, h⟩ := ca2_1 h
      refine s_callS (pc := 129) (as := [vi v6, vi v9]) (st := []) (vo := [vi r29]) (t_X7_has er29) d_X7_forgery_129 y_X7_has w_903 w_904 ⟨by decide, by decide⟩ ⟨Nat.le_of_ble_eq_true rfl, Nat.le_of_ble_eq_true rfl⟩ (Nat.le_of_ble_eq_true rfl) rfl rfl rfl ?_
      refine s_as (kc' := 0) (js' := 0) (pc' := 132) (st' := [vi r29]) ⟨rfl, rfl, rfl, rfl⟩ ?_
      refine s_if_eq (pc := 132) (tgt := 153) d_X7_forgery_132 (by decide) (fun c31 => ?_) (fun c31 => ?_)
      · have h := it_t c31 h
        refine s_mask [true, true, true, true, true, true, true, true, false, true] rfl ?_
        exact t_X7_forgery_b153 hk43 hk114 h
      · have h := it_f c31 h
        refine s_aload_n (pc := 135) d_X7_forgery_135 rfl rfl ?_
        refine s_iload (pc := 136) d_X7_forgery_136 rfl ?_
        refine s_iconst (pc := 138) (v := 1) d_X7_forgery_138 (by decide) ?_
        refine s_iload_n (pc := 139) d_X7_forgery_139 rfl rfl ?_
        refine s_isub (pc := 140) d_X7_forgery_140 ?_
        refine s_iload (pc := 141) d_X7_forgery_141 rfl ?_
        obtain ⟨g32, h⟩ := gd_1 h
        obtain ⟨r33, μ34, er33, h⟩ := ca2_1 h
        refine s_callV (pc := 143) (as := [vi v9, vi (1 - v1), vi v5]) (st := []) (vo := [vi r33]) (t_X7_isElsewhere er33) cl_7 g32 d_X7_forgery_143 y_X7_isElsewhere w_935 w_937 w_s28 ⟨by decide, by decide⟩ ⟨Nat.le_of_ble_eq_true rfl, Nat.le_of_ble_eq_true rfl⟩ (Nat.le_of_ble_eq_true rfl) rfl rfl rfl ?_
        refine s_as (kc' := 0) (js' := 0) (pc' := 146) (st' := [vi r33]) ⟨rfl, rfl, rfl, rfl⟩ ?_
        refine s_if_eq (pc := 146) (tgt := 153) d_X7_forgery_146 (by decide) (fun c35 => ?_) (fun c35 => ?_)
        · have h := it_t c35 h
          refine s_mask [true, true, true, true, true, true, true, true, false, true] rfl ?_
          exact t_X7_forgery_b153 hk43 hk114 h
        · have h := it_f c35 h
          refine s_mask [true, true, true, true, true, true, true, true, false, true] rfl ?_
          exact t_X7_forgery_b149 hk43 hk114 h
set_option maxHeartbeats 4000000 in
set_option maxRecDepth 20000 in
theorem t_X7_forgery_h114 {l : Launch} {G : Gl} {n : Nat} {sh : Sh} {x : Int32 × Mu} {k43 : Int32 → Mu → Option (Int32 × Mu)} {v0 : Nat} {v1 : Int32} {v2 : Int32} {v3 : Int32} {v4 : Int32} {v5 : Int32} {v6 : Int32} (hk43 : ∀ (v4 : Int32) (μ : Mu), k43 v4 μ = some x → Sj l G (QI G n sh x) c_X7_forgery n sh 0 0 μ 43 [some (vr v0), some (vi v1), some (vi v2), some (vi v3), some (vi v4), none, none, none, none, none] []) : ∀ (f : Nat) (v8 : Int32) (v9 : Int32) (μ : Mu), m_X7_forgery_h114 sh k43 v0 v1 v2 v3 v4 v5 v6 f v8 v9 μ = some x → Sj l G (QI G n sh x) c_X7_forgery n sh 0 0 μ 114 [some (vr v0), some (vi v1), some (vi v2), some (vi v3), some (vi v4), some (vi v5), some (vi v6), none, some (vi v8), some (vi v9)] [] := by
  intro f
  induction f with
  | zero =>
    intro v8 v9 μ h
    cases h
  | succ f ih =>
    intro v8 v9 μ h
    exact t_X7_forgery_b114 hk43 ih h
set_option maxHeartbeats 4000000 in
set_option maxRecDepth 20000 in
theorem t_X7_forgery_b109 {l : Launch} {G : Gl} {n : Nat} {sh : Sh} {x : Int32 × Mu} {k43 : Int32 → Mu → Option (Int32 × Mu)} {v0 : Nat} {v1 : Int32} {v2 : Int32} {v3 : Int32} {v4 : Int32} {v5 : Int32} {v6 : Int32} {s0 : Int32} {μ : Mu} (hk43 : ∀ (v4 : Int32) (μ : Mu), k43 v4 μ = some x → Sj l G (QI G n sh x) c_X7_forgery n sh 0 0 μ 43 [some (vr v0), some (vi v1), some (vi v2), some (vi v3), some (vi v4), none, none, none, none, none] []) (h : m_X7_forgery_b109 sh k43 v0 v1 v2 v3 v4 v5 v6 s0 μ = some x) : Sj l G (QI G n sh x) c_X7_forgery n sh 0 0 μ 109 [some (vr v0), some (vi v1), some (vi v2), some (vi v3), some (vi v4), some (vi v5), some (vi v6), none, none, none] [vi s0] := by
  unfold m_X7_forgery_b109 at h
  refine s_istore (pc := 109) (lc' := [some (vr v0), some (vi v1), some (vi v2), some (vi v3), some (vi v4), some (vi v5), some (vi v6), none, some (vi s0), none]) d_X7_forgery_109 (by decide) rfl ?_
  refine s_iconst (pc := 111) (v := 0) d_X7_forgery_111 (by decide) ?_
  refine s_istore (pc := 112) (lc' := [some (vr v0), some (vi v1), some (vi v2), some (vi v3), some (vi v4), some (vi v5), some (vi v6), none, some (vi s0), some (vi 0)]) d_X7_forgery_112 (by decide) rfl ?_
  exact t_X7_forgery_h114 hk43 FU _ _ _ h
set_option maxHeartbeats 4000000 in
set_option maxRecDepth 20000 in
theorem t_X7_forgery_b104 {l : Launch} {G : Gl} {n : Nat} {sh : Sh} {x : Int32 × Mu} {k43 : Int32 → Mu → Option (Int32 × Mu)} {v0 : Nat} {v1 : Int32} {v2 : Int32} {v3 : Int32} {v4 : Int32} {v5 : Int32} {v6 : Int32} {μ : Mu} (hk43 : ∀ (v4 : Int32) (μ : Mu), k43 v4 μ = some x → Sj l G (QI G n sh x) c_X7_forgery n sh 0 0 μ 43 [some (vr v0), some (vi v1), some (vi v2), some (vi v3), some (vi v4), none, none, none, none, none] []) (h : m_X7_forgery_b104 sh k43 v0 v1 v2 v3 v4 v5 v6 μ = some x) : Sj l G (QI G n sh x) c_X7_forgery n sh 0 0 μ 104 [some (vr v0), some (vi v1), some (vi v2), some (vi v3), some (vi v4), some (vi v5), some (vi v6), none, none, none] [] := by
  unfold m_X7_forgery_b104 at h
  refine s_iconst (pc := 104) (v := 1) d_X7_forgery_104 (by decide) ?_
  refine s_goto (pc := 105) (tgt := 109) d_X7_forgery_105 (by decide) ?_
  exact t_X7_forgery_b109 hk43 h
set_option maxHeartbeats 4000000 in
set_option maxRecDepth 20000 in
theorem t_X7_forgery_b108 {l : Launch} {G : Gl} {n : Nat} {sh : Sh} {x : Int32 × Mu} {k43 : Int32 → Mu → Option (Int32 × Mu)} {v0 : Nat} {v1 : Int32} {v2 : Int32} {v3 : Int32} {v4 : Int32} {v5 : Int32} {v6 : Int32} {μ : Mu} (hk43 : ∀ (v4 : Int32) (μ : Mu), k43 v4 μ = some x → Sj l G (QI G n sh x) c_X7_forgery n sh 0 0 μ 43 [some (vr v0), some (vi v1), some (vi v2), some (vi v3), some (vi v4), none, none, none, none, none] []) (h : m_X7_forgery_b108 sh k43 v0 v1 v2 v3 v4 v5 v6 μ = some x) : Sj l G (QI G n sh x) c_X7_forgery n sh 0 0 μ 108 [some (vr v0), some (vi v1), some (vi v2), some (vi v3), some (vi v4), some (vi v5), some (vi v6), none, none, none] [] := by
  unfold m_X7_forgery_b108 at h
  refine s_iconst (pc := 108) (v := 0) d_X7_forgery_108 (by decide) ?_
  exact t_X7_forgery_b109 hk43 h
set_option maxHeartbeats 4000000 in
set_option maxRecDepth 20000 in
theorem t_X7_forgery_b43 {l : Launch} {G : Gl} {n : Nat} {sh : Sh} {x : Int32 × Mu} {k43 : Int32 → Mu → Option (Int32 × Mu)} {v0 : Nat} {v1 : Int32} {v2 : Int32} {v3 : Int32} {v4 : Int32} {μ : Mu} (hk43 : ∀ (v4 : Int32) (μ : Mu), k43 v4 μ = some x → Sj l G (QI G n sh x) c_X7_forgery n sh 0 0 μ 43 [some (vr v0), some (vi v1), some (vi v2), some (vi v3), some (vi v4), none, none, none, none, none] []) (h : m_X7_forgery_b43 sh k43 v0 v1 v2 v3 v4 μ = some x) : Sj l G (QI G n sh x) c_X7_forgery n sh 0 0 μ 43 [some (vr v0), some (vi v1), some (vi v2), some (vi v3), some (vi v4), none, none, none, none, none] [] := by
  unfold m_X7_forgery_b43 at h
  refine s_iload (pc := 43) d_X7_forgery_43 rfl ?_
  refine s_iconst (pc := 45) (v := 4) d_X7_forgery_45 (by decide) ?_
  refine s_icmp_ge (pc := 46) (tgt := 176) d_X7_forgery_46 (by decide) (fun c12 => ?_) (fun c12 => ?_)
  · have h := it_t c12 h
    refine s_bipush (pc := 176) (v := (-9)) d_X7_forgery_176 (by decide) ?_
    obtain rfl := Option.some.inj h
    exact s_iret (pc := 178) d_X7_forgery_178 rfl
  · have h := it_f c12 h
    refine s_iload_n (pc := 49) d_X7_forgery_49 rfl rfl ?_
    refine s_iload (pc := 50) d_X7_forgery_50 rfl ?_
    refine s_aload_n (pc := 52) d_X7_forgery_52 rfl rfl ?_
    obtain ⟨g13, h⟩ := gd_1 h
    refine s_getR (pc := 53) (k := 8) cl_7 d_X7_forgery_53 g13 (by decide) w_668 (rt_arr _) ?_
    obtain ⟨a14, ea14, h⟩ := bd_1 h
    refine s_topR ea14 ?_
    refine s_iload_n (pc := 56) d_X7_forgery_56 rfl rfl ?_
    obtain ⟨g15, h⟩ := gd_1 h
    refine s_iald (pc := 57) d_X7_forgery_57 g15 ?_
    obtain ⟨w16, ew16, h⟩ := bd_1 h
    refine s_topI ew16 ?_
    refine s_imul (pc := 58) d_X7_forgery_58 ?_
    refine s_iadd (pc := 59) d_X7_forgery_59 ?_
    obtain ⟨w17, ew17, h⟩ := bd_1 h
    refine s_topI ew17 ?_
    refine s_istore (pc := 60) (lc' := [some (vr v0), some (vi v1), some (vi v2), some (vi v3), some (vi v4), some (vi w17), none, none, none, none]) d_X7_forgery_60 (by decide) rfl ?_
    refine s_iconst (pc := 62) (v := 4) d_X7_forgery_62 (by decide) ?_
    refine s_iload_n (pc := 63) d_X7_forgery_63 rfl rfl ?_
    refine s_iload (pc := 64) d_X7_forgery_64 rfl ?_
    obtain ⟨r18, μ19, er18, h⟩ := ca2_1 h
    refine s_callS (pc := 66) (as := [vi 4, vi v3, vi v4]) (st := []) (vo := [vi r18]) (t_X7_setOf er18) d_X7_forgery_66 y_X7_setOf w_896 w_897 ⟨by decide, by decide⟩ ⟨Nat.le_of_ble_eq_true rfl, Nat.le_of_ble_eq_true rfl⟩ (Nat.le_of_ble_eq_true rfl) rfl rfl rfl ?_
    refine s_as (kc' := 0) (js' := 0) (pc' := 69) (st' := [vi r18]) ⟨rfl, rfl, rfl, rfl⟩ ?_
    refine s_istore (pc := 69) (lc' := [some (vr v0), some (vi v1), some (vi v2), some (vi v3), some (vi v4), some (vi w17), some (vi r18), none, none, none]) d_X7_forgery_69 (by decide) rfl ?_
    refine s_aload_n (pc := 71) d_X7_forgery_71 rfl rfl ?_
    refine s_iload_n (pc := 72) d_X7_forgery_72 rfl rfl ?_
    refine s_iload (pc := 73) d_X7_forgery_73 rfl ?_
    obtain ⟨r20, μ21, er20, h⟩ := ca2_1 h
    refine s_callV (pc := 75) (as := [vi v1, vi w17]) (st := []) (vo := [vi r20]) (t_X7_shown er20) cl_7 g13 d_X7_forgery_75 y_X7_shown w_931 w_933 w_s27 ⟨by decide, by decide⟩ ⟨Nat.le_of_ble_eq_true rfl, Nat.le_of_ble_eq_true rfl⟩ (Nat.le_of_ble_eq_true rfl) rfl rfl rfl ?_
    refine s_as (kc' := 0) (js' := 0) (pc' := 78) (st' := [vi r20]) ⟨rfl, rfl, rfl, rfl⟩ ?_
    refine s_istore (pc := 78) (lc' := [some (vr v0), some (vi v1), some (vi v2), some (vi v3), some (vi v4), some (vi w17), some (vi r18), some (vi r20), none, none]) d_X7_forgery_78 (by decide) rfl ?_
    refine s_aload_n (pc := 80) d_X7_forgery_80 rfl rfl ?_
    refine s_iload_n (pc := 81) d_X7_forgery_81 rfl rfl ?_
    refine s_iload (pc := 82) d_X7_forgery_82 rfl ?_
    obtain ⟨r22, μ23, er22, h⟩ := ca2_1 h
    refine s_callV (pc := 84) (as := [vi v1, vi w17]) (st := []) (vo := [vi r22]) (t_X7_isFlash er22) cl_7 g13 d_X7_forgery_84 y_X7_isFlash w_801 w_803 w_s17 ⟨by decide, by decide⟩ ⟨Nat.le_of_ble_eq_true rfl, Nat.le_of_ble_eq_true rfl⟩ (Nat.le_of_ble_eq_true rfl) rfl rfl rfl ?_
    refine s_as (kc' := 0) (js' := 0) (pc' := 87) (st' := [vi r22]) ⟨rfl, rfl, rfl, rfl⟩ ?_
    refine s_if_eq (pc := 87) (tgt := 104) d_X7_forgery_87 (by decide) (fun c24 => ?_) (fun c24 => ?_)
    · have h := it_t c24 h
      refine s_mask [true, true, true, true, true, true, true, false, true, true] rfl ?_
      exact t_X7_forgery_b104 hk43 h
    · have h := it_f c24 h
      refine s_iload (pc := 90) d_X7_forgery_90 rfl ?_
      refine s_bipush (pc := 92) (v := (-9)) d_X7_forgery_92 (by decide) ?_
      refine s_icmp_eq (pc := 94) (tgt := 108) d_X7_forgery_94 (by decide) (fun c25 => ?_) (fun c25 => ?_)
      · have h := it_t c25 h
        refine s_mask [true, true, true, true, true, true, true, false, true, true] rfl ?_
        exact t_X7_forgery_b108 hk43 h
      · have h := it_f c25 h
        refine s_iload (pc := 97) d_X7_forgery_97 rfl ?_
        refine s_iload (pc := 99) d_X7_forgery_99 rfl ?_
        refine s_icmp_eq (pc := 101) (tgt := 108) d_X7_forgery_101 (by decide) (fun c26 => ?_) (fun c26 => ?_)
        · have h := it_t c26 h
          refine s_mask [true, true, true, true, true, true, true, false, true, true] rfl ?_
          exact t_X7_forgery_b108 hk43 h
        · have h := it_f c26 h
          refine s_mask [true, true, true, true, true, true, true, false, true, true] rfl ?_
          exact t_X7_forgery_b104 hk43 h
set_option maxHeartbeats 4000000 in
set_option maxRecDepth 20000 in
theorem t_X7_forgery_h43 {l : Launch} {G : Gl} {n : Nat} {sh : Sh} {x : Int32 × Mu} {v0 : Nat} {v1 : Int32} {v2 : Int32} {v3 : Int32} : ∀ (f : Nat) (v4 : Int32) (μ : Mu), m_X7_forgery_h43 sh v0 v1 v2 v3 f v4 μ = some x → Sj l G (QI G n sh x) c_X7_forgery n sh 0 0 μ 43 [some (vr v0), some (vi v1), some (vi v2), some (vi v3), some (vi v4), none, none, none, none, none] [] := by
  intro f
  induction f with
  | zero =>
    intro v4 μ h
    cases h
  | succ f ih =>
    intro v4 μ h
    exact t_X7_forgery_b43 ih h
set_option maxHeartbeats 4000000 in
set_option maxRecDepth 20000 in
theorem t_X7_forgery {l : Launch} {G : Gl} {n : Nat} {sh : Sh} {x : Int32 × Mu} {v0 : Nat} {v1 : Int32} {v2 : Int32} {v3 : Int32} {μ : Mu} (h : m_X7_forgery sh v0 v1 v2 v3 μ = some x) : Ct l G ⟨"StripsOfFourModel", "forgery", "(III)I"⟩ prog_9_method_50_code 10 (some .int) { frames := 3, cells := 0, slots := 0, locals := 73 } n sh μ [vr v0, vi v1, vi v2, vi v3] (some (.int x.1)) n sh x.2 := by
  refine Ct.of (lc := [some (vr v0), some (vi v1), some (vi v2), some (vi v3), none, none, none, none, none, none]) (by decide +kernel) (Nat.le_of_ble_eq_true rfl) rfl ?_
  show Sj l G (QI G n sh x) c_X7_forgery n sh 0 0 μ 0 [some (vr v0), some (vi v1), some (vi v2), some (vi v3), none, none, none, none, none, none] []
  unfold m_X7_forgery at h
  refine s_aload_n (pc := 0) d_X7_forgery_0 rfl rfl ?_
  refine s_iconst (pc := 1) (v := 0) d_X7_forgery_1 (by decide) ?_
  obtain ⟨g1, h⟩ := gd_1 h
  refine s_putI (pc := 2) (k := 0) cl_7 d_X7_forgery_2 g1 (by decide) w_660 rfl rfl ?_
  obtain ⟨μ2, eμ2, h⟩ := bd_1 h
  refine s_mu eμ2 ?_
  refine s_aload_n (pc := 5) d_X7_forgery_5 rfl rfl ?_
  refine s_iload_n (pc := 6) d_X7_forgery_6 rfl rfl ?_
  obtain ⟨r3, μ4, er3, h⟩ := ca2_1 h
  refine s_callV (pc := 7) (as := [vi v1]) (st := []) (vo := [vi r3]) (t_X7_noBooth er3) cl_7 g1 d_X7_forgery_7 y_X7_noBooth w_797 w_799 w_s16 ⟨by decide, by decide⟩ ⟨Nat.le_of_ble_eq_true rfl, Nat.le_of_ble_eq_true rfl⟩ (Nat.le_of_ble_eq_true rfl) rfl rfl rfl ?_
  refine s_as (kc' := 0) (js' := 0) (pc' := 10) (st' := [vi r3]) ⟨rfl, rfl, rfl, rfl⟩ ?_
  refine s_if_eq (pc := 10) (tgt := 15) d_X7_forgery_10 (by decide) (fun c5 => ?_) (fun c5 => ?_)
  · have h := it_t c5 h
    refine s_iload_n (pc := 15) d_X7_forgery_15 rfl rfl ?_
    refine s_i2l (pc := 16) d_X7_forgery_16 ?_
    refine s_lconst (pc := 17) (v := 0) d_X7_forgery_17 (by decide) ?_
    refine s_ldc2 (pc := 18) (v := 999) d_X7_forgery_18 w_930 ?_
    obtain ⟨r6, μ7, er6, h⟩ := ca2_1 h
    refine s_callS (pc := 21) (as := [vl (v2.toInt64), vl 0, vl 999]) (st := []) (vo := [vi r6]) (t_X7_in er6) d_X7_forgery_21 y_X7_in w_754 w_755 ⟨by decide, by decide⟩ ⟨Nat.le_of_ble_eq_true rfl, Nat.le_of_ble_eq_true rfl⟩ (Nat.le_of_ble_eq_true rfl) rfl rfl rfl ?_
    refine s_as (kc' := 0) (js' := 0) (pc' := 24) (st' := [vi r6]) ⟨rfl, rfl, rfl, rfl⟩ ?_
    refine s_if_eq (pc := 24) (tgt := 37) d_X7_forgery_24 (by decide) (fun c8 => ?_) (fun c8 => ?_)
    · have h := it_t c8 h
      refine s_bipush (pc := 37) (v := (-2)) d_X7_forgery_37 (by decide) ?_
      obtain rfl := Option.some.inj h
      exact s_iret (pc := 39) d_X7_forgery_39 rfl
    · have h := it_f c8 h
      refine s_iconst (pc := 27) (v := 4) d_X7_forgery_27 (by decide) ?_
      refine s_iload_n (pc := 28) d_X7_forgery_28 rfl rfl ?_
      refine s_bipush (pc := 29) (v := 31) d_X7_forgery_29 (by decide) ?_
      obtain ⟨r9, μ10, er9, h⟩ := ca2_1 h
      refine s_callS (pc := 31) (as := [vi 4, vi v3, vi 31]) (st := []) (vo := [vi r9]) (t_X7_isRow er9) d_X7_forgery_31 y_X7_isRow w_890 w_891 ⟨by decide, by decide⟩ ⟨Nat.le_of_ble_eq_true rfl, Nat.le_of_ble_eq_true rfl⟩ (Nat.le_of_ble_eq_true rfl) rfl rfl rfl ?_
      refine s_as (kc' := 0) (js' := 0) (pc' := 34) (st' := [vi r9]) ⟨rfl, rfl, rfl, rfl⟩ ?_
      refine s_if_ne (pc := 34) (tgt := 40) d_X7_forgery_34 (by decide) (fun c11 => ?_) (fun c11 => ?_)
      · have h := it_f c11 h
        refine s_iconst (pc := 40) (v := 0) d_X7_forgery_40 (by decide) ?_
        refine s_istore (pc := 41) (lc' := [some (vr v0), some (vi v1), some (vi v2), some (vi v3), some (vi 0), none, none, none, none, none]) d_X7_forgery_41 (by decide) rfl ?_
        exact t_X7_forgery_h43 FU _ _ h
      · have h := it_t c11 h
        refine s_bipush (pc := 37) (v := (-2)) d_X7_forgery_37 (by decide) ?_
        obtain rfl := Option.some.inj h
        exact s_iret (pc := 39) d_X7_forgery_39 rfl
  · have h := it_f c5 h
    refine s_iconst (pc := 13) (v := (-1)) d_X7_forgery_13 (by decide) ?_
    obtain rfl := Option.some.inj h
    exact s_iret (pc := 14) d_X7_forgery_14 rfl
/-! StripsOfFourModel.noStrip -/
abbrev c_X7_noStrip : Cf := (prog_9_method_8_code, 2, "StripsOfFourModel", "noStrip", (some .boolean), { frames := 1, cells := 0, slots := 0, locals := 25 })
theorem d_X7_noStrip_0 : decode prog_9_method_8_code 0 = .ok (.iload_n 1, 1) := by decide +kernel
theorem d_X7_noStrip_1 : decode prog_9_method_8_code 1 = .ok (.i2l, 1) := by decide +kernel
theorem d_X7_noStrip_2 : decode prog_9_method_8_code 2 = .ok (.lconst 0, 1) := by decide +kernel
theorem d_X7_noStrip_3 : decode prog_9_method_8_code 3 = .ok (.aload_n 0, 1) := by decide +kernel
theorem d_X7_noStrip_4 : decode prog_9_method_8_code 4 = .ok (.getfield 31, 3) := by decide +kernel
theorem d_X7_noStrip_7 : decode prog_9_method_8_code 7 = .ok (.sipush 202, 3) := by decide +kernel
theorem d_X7_noStrip_10 : decode prog_9_method_8_code 10 = .ok (.iaload, 1) := by decide +kernel
theorem d_X7_noStrip_11 : decode prog_9_method_8_code 11 = .ok (.iconst 1, 1) := by decide +kernel
theorem d_X7_noStrip_12 : decode prog_9_method_8_code 12 = .ok (.isub, 1) := by decide +kernel
theorem d_X7_noStrip_13 : decode prog_9_method_8_code 13 = .ok (.i2l, 1) := by decide +kernel
theorem d_X7_noStrip_14 : decode prog_9_method_8_code 14 = .ok (.invokestatic 73, 3) := by decide +kernel
theorem d_X7_noStrip_17 : decode prog_9_method_8_code 17 = .ok (.ifCond .ne 7, 3) := by decide +kernel
theorem d_X7_noStrip_20 : decode prog_9_method_8_code 20 = .ok (.iconst 1, 1) := by decide +kernel
theorem d_X7_noStrip_21 : decode prog_9_method_8_code 21 = .ok (.goto 4, 3) := by decide +kernel
theorem d_X7_noStrip_24 : decode prog_9_method_8_code 24 = .ok (.iconst 0, 1) := by decide +kernel
theorem d_X7_noStrip_25 : decode prog_9_method_8_code 25 = .ok (.ireturn, 1) := by decide +kernel
def m_X7_noStrip (sh : Sh) (v0 : Nat) (v1 : Int32) (μ : Mu) : Option (Int32 × Mu) :=
  gd (iz sh 7 v0) <|
  bd (gR μ v0 16) fun a2 =>
  gd (ix sh 8 a2 202) <|
  bd (gI μ a2 (202 : Int32).toNatClampNeg) fun w4 =>
  ca2 (m_X7_in sh (v1.toInt64) 0 ((w4 - 1).toInt64) μ) fun r5 μ6 =>
  if r5 = 0 then
    some (1, μ6)
  else
    some (0, μ6)
set_option maxHeartbeats 4000000 in
set_option maxRecDepth 20000 in
theorem t_X7_noStrip {l : Launch} {G : Gl} {n : Nat} {sh : Sh} {x : Int32 × Mu} {v0 : Nat} {v1 : Int32} {μ : Mu} (h : m_X7_noStrip sh v0 v1 μ = some x) : Ct l G ⟨"StripsOfFourModel", "noStrip", "(I)Z"⟩ prog_9_method_8_code 2 (some .boolean) { frames := 1, cells := 0, slots := 0, locals := 25 } n sh μ [vr v0, vi v1] (some (.int x.1)) n sh x.2 := by
  refine Ct.of (lc := [some (vr v0), some (vi v1)]) (by decide +kernel) (Nat.le_of_ble_eq_true rfl) rfl ?_
  show Sj l G (QI G n sh x) c_X7_noStrip n sh 0 0 μ 0 [some (vr v0), some (vi v1)] []
  unfold m_X7_noStrip at h
  refine s_iload_n (pc := 0) d_X7_noStrip_0 rfl rfl ?_
  refine s_i2l (pc := 1) d_X7_noStrip_1 ?_
  refine s_lconst (pc := 2) (v := 0) d_X7_noStrip_2 (by decide) ?_
  refine s_aload_n (pc := 3) d_X7_noStrip_3 rfl rfl ?_
  obtain ⟨g1, h⟩ := gd_1 h
  refine s_getR (pc := 4) (k := 16) cl_7 d_X7_noStrip_4 g1 (by decide) w_676 (rt_arr _) ?_
  obtain ⟨a2, ea2, h⟩ := bd_1 h
  refine s_topR ea2 ?_
  refine s_sipush (pc := 7) (v := 202) d_X7_noStrip_7 (by decide) ?_
  obtain ⟨g3, h⟩ := gd_1 h
  refine s_iald (pc := 10) d_X7_noStrip_10 g3 ?_
  obtain ⟨w4, ew4, h⟩ := bd_1 h
  refine s_topI ew4 ?_
  refine s_iconst (pc := 11) (v := 1) d_X7_noStrip_11 (by decide) ?_
  refine s_isub (pc := 12) d_X7_noStrip_12 ?_
  refine s_i2l (pc := 13) d_X7_noStrip_13 ?_
  obtain ⟨r5, μ6, er5, h⟩ := ca2_1 h
  refine s_callS (pc := 14) (as := [vl (v1.toInt64), vl 0, vl ((w4 - 1).toInt64)]) (st := []) (vo := [vi r5]) (t_X7_in er5) d_X7_noStrip_14 y_X7_in w_754 w_755 ⟨by decide, by decide⟩ ⟨Nat.le_of_ble_eq_true rfl, Nat.le_of_ble_eq_true rfl⟩ (Nat.le_of_ble_eq_true rfl) rfl rfl rfl ?_
  refine s_as (kc' := 0) (js' := 0) (pc' := 17) (st' := [vi r5]) ⟨rfl, rfl, rfl, rfl⟩ ?_
  refine s_if_ne (pc := 17) (tgt := 24) d_X7_noStrip_17 (by decide) (fun c7 => ?_) (fun c7 => ?_)
  · have h := it_f c7 h
    refine s_iconst (pc := 24) (v := 0) d_X7_noStrip_24 (by decide) ?_
    obtain rfl := Option.some.inj h
    exact s_zret0 (pc := 25) rfl d_X7_noStrip_25 rfl
  · have h := it_t c7 h
    refine s_iconst (pc := 20) (v := 1) d_X7_noStrip_20 (by decide) ?_
    refine s_goto (pc := 21) (tgt := 25) d_X7_noStrip_21 (by decide) ?_
    obtain rfl := Option.some.inj h
    exact s_zret0 (pc := 25) rfl d_X7_noStrip_25 rfl
/-! StripsOfFourModel.found -/
abbrev c_X7_found : Cf := (prog_9_method_41_code, 8, "StripsOfFourModel", "found", (some .int), { frames := 3, cells := 0, slots := 0, locals := 68 })
theorem d_X7_found_0 : decode prog_9_method_41_code 0 = .ok (.aload_n 0, 1) := by decide +kernel
theorem d_X7_found_1 : decode prog_9_method_41_code 1 = .ok (.iconst 0, 1) := by decide +kernel
theorem d_X7_found_2 : decode prog_9_method_41_code 2 = .ok (.putfield 66, 3) := by decide +kernel
theorem d_X7_found_5 : decode prog_9_method_41_code 5 = .ok (.aload_n 0, 1) := by decide +kernel
theorem d_X7_found_6 : decode prog_9_method_41_code 6 = .ok (.iload_n 1, 1) := by decide +kernel
theorem d_X7_found_7 : decode prog_9_method_41_code 7 = .ok (.invokevirtual 138, 3) := by decide +kernel
theorem d_X7_found_10 : decode prog_9_method_41_code 10 = .ok (.ifCond .eq 5, 3) := by decide +kernel
theorem d_X7_found_13 : decode prog_9_method_41_code 13 = .ok (.iconst (-1), 1) := by decide +kernel
theorem d_X7_found_14 : decode prog_9_method_41_code 14 = .ok (.ireturn, 1) := by decide +kernel
theorem d_X7_found_15 : decode prog_9_method_41_code 15 = .ok (.iload_n 2, 1) := by decide +kernel
theorem d_X7_found_16 : decode prog_9_method_41_code 16 = .ok (.i2l, 1) := by decide +kernel
theorem d_X7_found_17 : decode prog_9_method_41_code 17 = .ok (.lconst 1, 1) := by decide +kernel
theorem d_X7_found_18 : decode prog_9_method_41_code 18 = .ok (.ldc2_w 172, 3) := by decide +kernel
theorem d_X7_found_21 : decode prog_9_method_41_code 21 = .ok (.invokestatic 73, 3) := by decide +kernel
theorem d_X7_found_24 : decode prog_9_method_41_code 24 = .ok (.ifCond .eq 13, 3) := by decide +kernel
theorem d_X7_found_27 : decode prog_9_method_41_code 27 = .ok (.iload_n 2, 1) := by decide +kernel
theorem d_X7_found_28 : decode prog_9_method_41_code 28 = .ok (.iload_n 3, 1) := by decide +kernel
theorem d_X7_found_29 : decode prog_9_method_41_code 29 = .ok (.bipush 31, 2) := by decide +kernel
theorem d_X7_found_31 : decode prog_9_method_41_code 31 = .ok (.invokestatic 174, 3) := by decide +kernel
theorem d_X7_found_34 : decode prog_9_method_41_code 34 = .ok (.ifCond .ne 6, 3) := by decide +kernel
theorem d_X7_found_37 : decode prog_9_method_41_code 37 = .ok (.bipush (-2), 2) := by decide +kernel
theorem d_X7_found_39 : decode prog_9_method_41_code 39 = .ok (.ireturn, 1) := by decide +kernel
theorem d_X7_found_40 : decode prog_9_method_41_code 40 = .ok (.iconst 0, 1) := by decide +kernel
theorem d_X7_found_41 : decode prog_9_method_41_code 41 = .ok (.istore 4, 2) := by decide +kernel
theorem d_X7_found_43 : decode prog_9_method_41_code 43 = .ok (.iload 4, 2) := by decide +kernel
theorem d_X7_found_45 : decode prog_9_method_41_code 45 = .ok (.iload_n 2, 1) := by decide +kernel
theorem d_X7_found_46 : decode prog_9_method_41_code 46 = .ok (.iadd, 1) := by decide +kernel
theorem d_X7_found_47 : decode prog_9_method_41_code 47 = .ok (.iconst 4, 1) := by decide +kernel
theorem d_X7_found_48 : decode prog_9_method_41_code 48 = .ok (.if_icmp .gt 96, 3) := by decide +kernel
theorem d_X7_found_51 : decode prog_9_method_41_code 51 = .ok (.aload_n 0, 1) := by decide +kernel
theorem d_X7_found_52 : decode prog_9_method_41_code 52 = .ok (.iload_n 1, 1) := by decide +kernel
theorem d_X7_found_53 : decode prog_9_method_41_code 53 = .ok (.iconst 1, 1) := by decide +kernel
theorem d_X7_found_54 : decode prog_9_method_41_code 54 = .ok (.invokevirtual 115, 3) := by decide +kernel
theorem d_X7_found_57 : decode prog_9_method_41_code 57 = .ok (.istore 5, 2) := by decide +kernel
theorem d_X7_found_59 : decode prog_9_method_41_code 59 = .ok (.iload 5, 2) := by decide +kernel
theorem d_X7_found_61 : decode prog_9_method_41_code 61 = .ok (.iload 4, 2) := by decide +kernel
theorem d_X7_found_63 : decode prog_9_method_41_code 63 = .ok (.if_icmp .le 12, 3) := by decide +kernel
theorem d_X7_found_66 : decode prog_9_method_41_code 66 = .ok (.iload 5, 2) := by decide +kernel
theorem d_X7_found_68 : decode prog_9_method_41_code 68 = .ok (.iload 4, 2) := by decide +kernel
theorem d_X7_found_70 : decode prog_9_method_41_code 70 = .ok (.iload_n 2, 1) := by decide +kernel
theorem d_X7_found_71 : decode prog_9_method_41_code 71 = .ok (.iadd, 1) := by decide +kernel
theorem d_X7_found_72 : decode prog_9_method_41_code 72 = .ok (.if_icmp .lt 7, 3) := by decide +kernel
theorem d_X7_found_75 : decode prog_9_method_41_code 75 = .ok (.iconst 1, 1) := by decide +kernel
theorem d_X7_found_76 : decode prog_9_method_41_code 76 = .ok (.goto 4, 3) := by decide +kernel
theorem d_X7_found_79 : decode prog_9_method_41_code 79 = .ok (.iconst 0, 1) := by decide +kernel
theorem d_X7_found_80 : decode prog_9_method_41_code 80 = .ok (.istore 6, 2) := by decide +kernel
theorem d_X7_found_82 : decode prog_9_method_41_code 82 = .ok (.iconst 0, 1) := by decide +kernel
theorem d_X7_found_83 : decode prog_9_method_41_code 83 = .ok (.istore 7, 2) := by decide +kernel
theorem d_X7_found_85 : decode prog_9_method_41_code 85 = .ok (.iload 7, 2) := by decide +kernel
theorem d_X7_found_87 : decode prog_9_method_41_code 87 = .ok (.iload_n 2, 1) := by decide +kernel
theorem d_X7_found_88 : decode prog_9_method_41_code 88 = .ok (.if_icmp .ge 42, 3) := by decide +kernel
theorem d_X7_found_91 : decode prog_9_method_41_code 91 = .ok (.iload 6, 2) := by decide +kernel
theorem d_X7_found_93 : decode prog_9_method_41_code 93 = .ok (.ifCond .eq 37, 3) := by decide +kernel
theorem d_X7_found_96 : decode prog_9_method_41_code 96 = .ok (.aload_n 0, 1) := by decide +kernel
theorem d_X7_found_97 : decode prog_9_method_41_code 97 = .ok (.iload_n 1, 1) := by decide +kernel
theorem d_X7_found_98 : decode prog_9_method_41_code 98 = .ok (.iload 4, 2) := by decide +kernel
theorem d_X7_found_100 : decode prog_9_method_41_code 100 = .ok (.iload 7, 2) := by decide +kernel
theorem d_X7_found_102 : decode prog_9_method_41_code 102 = .ok (.iadd, 1) := by decide +kernel
theorem d_X7_found_103 : decode prog_9_method_41_code 103 = .ok (.iconst 1, 1) := by decide +kernel
theorem d_X7_found_104 : decode prog_9_method_41_code 104 = .ok (.invokevirtual 141, 3) := by decide +kernel
theorem d_X7_found_107 : decode prog_9_method_41_code 107 = .ok (.iload_n 2, 1) := by decide +kernel
theorem d_X7_found_108 : decode prog_9_method_41_code 108 = .ok (.iload_n 3, 1) := by decide +kernel
theorem d_X7_found_109 : decode prog_9_method_41_code 109 = .ok (.iload 7, 2) := by decide +kernel
theorem d_X7_found_111 : decode prog_9_method_41_code 111 = .ok (.invokestatic 169, 3) := by decide +kernel
theorem d_X7_found_114 : decode prog_9_method_41_code 114 = .ok (.if_icmp .ne 7, 3) := by decide +kernel
theorem d_X7_found_117 : decode prog_9_method_41_code 117 = .ok (.iconst 1, 1) := by decide +kernel
theorem d_X7_found_118 : decode prog_9_method_41_code 118 = .ok (.goto 4, 3) := by decide +kernel
theorem d_X7_found_121 : decode prog_9_method_41_code 121 = .ok (.iconst 0, 1) := by decide +kernel
theorem d_X7_found_122 : decode prog_9_method_41_code 122 = .ok (.istore 6, 2) := by decide +kernel
theorem d_X7_found_124 : decode prog_9_method_41_code 124 = .ok (.iinc 7 1, 3) := by decide +kernel
theorem d_X7_found_127 : decode prog_9_method_41_code 127 = .ok (.goto (-42), 3) := by decide +kernel
theorem d_X7_found_130 : decode prog_9_method_41_code 130 = .ok (.iload 6, 2) := by decide +kernel
theorem d_X7_found_132 : decode prog_9_method_41_code 132 = .ok (.ifCond .eq 6, 3) := by decide +kernel
theorem d_X7_found_135 : decode prog_9_method_41_code 135 = .ok (.iload 4, 2) := by decide +kernel
theorem d_X7_found_137 : decode prog_9_method_41_code 137 = .ok (.ireturn, 1) := by decide +kernel
theorem d_X7_found_138 : decode prog_9_method_41_code 138 = .ok (.iinc 4 1, 3) := by decide +kernel
theorem d_X7_found_141 : decode prog_9_method_41_code 141 = .ok (.goto (-98), 3) := by decide +kernel
theorem d_X7_found_144 : decode prog_9_method_41_code 144 = .ok (.bipush (-9), 2) := by decide +kernel
theorem d_X7_found_146 : decode prog_9_method_41_code 146 = .ok (.ireturn, 1) := by decide +kernel
def m_X7_found_b122 (sh : Sh) (k43 : Int32 → Mu → Option (Int32 × Mu)) (k85 : Int32 → Int32 → Mu → Option (Int32 × Mu)) (v0 : Nat) (v1 : Int32) (v2 : Int32) (v3 : Int32) (v4 : Int32) (v7 : Int32) (s0 : Int32) (μ : Mu) : Option (Int32 × Mu) :=
  bd (v7 + 1) fun w28 =>
  k85 s0 w28 μ
def m_X7_found_b130 (sh : Sh) (k43 : Int32 → Mu → Option (Int32 × Mu)) (v0 : Nat) (v1 : Int32) (v2 : Int32) (v3 : Int32) (v4 : Int32) (v6 : Int32) (μ : Mu) : Option (Int32 × Mu) :=
  if v6 = 0 then
    bd (v4 + 1) fun w27 =>
    k43 w27 μ
  else
    some (v4, μ)
def m_X7_found_b85 (sh : Sh) (k43 : Int32 → Mu → Option (Int32 × Mu)) (k85 : Int32 → Int32 → Mu → Option (Int32 × Mu)) (v0 : Nat) (v1 : Int32) (v2 : Int32) (v3 : Int32) (v4 : Int32) (v6 : Int32) (v7 : Int32) (μ : Mu) : Option (Int32 × Mu) :=
  if v2 ≤ v7 then
    m_X7_found_b130 sh k43 v0 v1 v2 v3 v4 v6 μ
  else
    if v6 = 0 then
      m_X7_found_b130 sh k43 v0 v1 v2 v3 v4 v6 μ
    else
      gd (iz sh 7 v0) <|
      ca2 (m_X7_lookOf sh v0 v1 (v4 + v7) 1 μ) fun r21 μ22 =>
      ca2 (m_X7_setOf sh v2 v3 v7 μ22) fun r23 μ24 =>
      if r21 = r23 then
        m_X7_found_b122 sh k43 k85 v0 v1 v2 v3 v4 v7 1 μ24
      else
        m_X7_found_b122 sh k43 k85 v0 v1 v2 v3 v4 v7 0 μ24
def m_X7_found_h85 (sh : Sh) (k43 : Int32 → Mu → Option (Int32 × Mu)) (v0 : Nat) (v1 : Int32) (v2 : Int32) (v3 : Int32) (v4 : Int32) : Nat → Int32 → Int32 → Mu → Option (Int32 × Mu)
  | 0 => fun _ _ _ => none
  | f + 1 => fun v6 v7 μ => m_X7_found_b85 sh k43 (m_X7_found_h85 sh k43 v0 v1 v2 v3 v4 f) v0 v1 v2 v3 v4 v6 v7 μ
def m_X7_found_b80 (sh : Sh) (k43 : Int32 → Mu → Option (Int32 × Mu)) (v0 : Nat) (v1 : Int32) (v2 : Int32) (v3 : Int32) (v4 : Int32) (s0 : Int32) (μ : Mu) : Option (Int32 × Mu) :=
  m_X7_found_h85 sh k43 v0 v1 v2 v3 v4 FU s0 0 μ
def m_X7_found_b75 (sh : Sh) (k43 : Int32 → Mu → Option (Int32 × Mu)) (v0 : Nat) (v1 : Int32) (v2 : Int32) (v3 : Int32) (v4 : Int32) (μ : Mu) : Option (Int32 × Mu) :=
  m_X7_found_b80 sh k43 v0 v1 v2 v3 v4 1 μ
def m_X7_found_b43 (sh : Sh) (k43 : Int32 → Mu → Option (Int32 × Mu)) (v0 : Nat) (v1 : Int32) (v2 : Int32) (v3 : Int32) (v4 : Int32) (μ : Mu) : Option (Int32 × Mu) :=
  if 4 < (v4 + v2) then
    some ((-9), μ)
  else
    gd (iz sh 7 v0) <|
    ca2 (m_X7_of sh v0 v1 1 μ) fun r14 μ15 =>
    if r14 ≤ v4 then
      m_X7_found_b75 sh k43 v0 v1 v2 v3 v4 μ15
    else
      if r14 < (v4 + v2) then
        m_X7_found_b80 sh k43 v0 v1 v2 v3 v4 0 μ15
      else
        m_X7_found_b75 sh k43 v0 v1 v2 v3 v4 μ15
def m_X7_found_h43 (sh : Sh) (v0 : Nat) (v1 : Int32) (v2 : Int32) (v3 : Int32) : Nat → Int32 → Mu → Option (Int32 × Mu)
  | 0 => fun _ _ => none
  | f + 1 => fun v4 μ => m_X7_found_b43 sh (m_X7_found_h43 sh v0 v1 v2 v3 f) v0 v1 v2 v3 v4 μ
def m_X7_found (sh : Sh) (v0 : Nat) (v1 : Int32) (v2 : Int32) (v3 : Int32) (μ : Mu) : Option (Int32 × Mu) :=
  gd (iz sh 7 v0) <|
  bd (sI μ v0 0 0) fun μ2 =>
  ca2 (m_X7_noStrip sh v0 v1 μ2) fun r3 μ4 =>
  if r3 = 0 then
    ca2 (m_X7_in sh (v2.toInt64) 1 4 μ4) fun r6 μ7 =>
    if r6 = 0 then
      some ((-2), μ7)
    else
      ca2 (m_X7_isRow sh v2 v3 31 μ7) fun r9 μ10 =>
      if r9 = 0 then
        some ((-2), μ10)
      else
        m_X7_found_h43 sh v0 v1 v2 v3 FU 0 μ10
  else
    some ((-1), μ4)
set_option maxHeartbeats 4000000 in
set_option maxRecDepth 20000 in
theorem t_X7_found_b122 {l : Launch} {G : Gl} {n : Nat} {sh : Sh} {x : Int32 × Mu} {k43 : Int32 → Mu → Option (Int32 × Mu)} {k85 : Int32 → Int32 → Mu → Option (Int32 × Mu)} {v0 : Nat} {v1 : Int32} {v2 : Int32} {v3 : Int32} {v4 : Int32} {v7 : Int32} {s0 : Int32} {μ : Mu} (hk43 : ∀ (v4 : Int32) (μ : Mu), k43 v4 μ = some x → Sj l G (QI G n sh x) c_X7_found n sh 0 0 μ 43 [some (vr v0), some (vi v1), some (vi v2), some (vi v3), some (vi v4), none, none, none] []) (hk85 : ∀ (v6 : Int32) (v7 : Int32) (μ : Mu), k85 v6 v7 μ = some x → Sj l G (QI G n sh x) c_X7_found n sh 0 0 μ 85 [some (vr v0), some (vi v1), some (vi v2), some (vi v3), some (vi v4), none, some (vi v6), some (vi v7)] []) (h : m_X7_found_b122 sh k43 k85 v0 v1 v2 v3 v4 v7 s0 μ = some x) : Sj l G (QI G n sh x) c_X7_found n sh 0 0 μ 122 [some (vr v0), some (vi v1), some (vi v2), some (vi v3), some (vi v4), none, none, some (vi v7)] [vi s0] := by
  unfold m_X7_found_b122 at h
  refine s_istore (pc := 122) (lc' := [some (vr v0), some (vi v1), some (vi v2), some (vi v3), some (vi v4), none, some (vi s0), some (vi v7)]) d_X7_found_122 (by decide) rfl ?_
  obtain ⟨w28, ew28, h⟩ := bd_1 h
  refine s_iinc (pc := 124) (v := w28) (lc' := [some (vr v0), some (vi v1), some (vi v2), some (vi v3), some (vi v4), none, some (vi s0), some (vi w28)]) d_X7_found_124 rfl (by rw [ew28]; rfl) (by decide) rfl ?_
  refine s_goto (pc := 127) (tgt := 85) d_X7_found_127 (by decide) ?_
  exact hk85 _ _ _ h
set_option maxHeartbeats 4000000 in
set_option maxRecDepth 20000 in
theorem t_X7_found_b130 {l : Launch} {G : Gl} {n : Nat} {sh : Sh} {x : Int32 × Mu} {k43 : Int32 → Mu → Option (Int32 × Mu)} {v0 : Nat} {v1 : Int32} {v2 : Int32} {v3 : Int32} {v4 : Int32} {v6 : Int32} {μ : Mu} (hk43 : ∀ (v4 : Int32) (μ : Mu), k43 v4 μ = some x → Sj l G (QI G n sh x) c_X7_found n sh 0 0 μ 43 [some (vr v0), some (vi v1), some (vi v2), some (vi v3), some (vi v4), none, none, none] []) (h : m_X7_found_b130 sh k43 v0 v1 v2 v3 v4 v6 μ = some x) : Sj l G (QI G n sh x) c_X7_found n sh 0 0 μ 130 [some (vr v0), some (vi v1), some (vi v2), some (vi v3), some (vi v4), none, some (vi v6), none] [] := by
  unfold m_X7_found_b130 at h
  refine s_iload (pc := 130) d_X7_found_130 rfl ?_
  refine s_if_eq (pc := 132) (tgt := 138) d_X7_found_132 (by decide) (fun c26 => ?_) (fun c26 => ?_)
  · have h := it_t c26 h
    obtain ⟨w27, ew27, h⟩ := bd_1 h
    refine s_iinc (pc := 138) (v := w27) (lc' := [some (vr v0), some (vi v1), some (vi v2), some (vi v3), some (vi w27), none, some (vi v6), none]) d_X7_found_138 rfl (by rw [ew27]; rfl) (by decide) rfl ?_
    refine s_goto (pc := 141) (tgt := 43) d_X7_found_141 (by decide) ?_
    refine s_mask [true, true, true, true, true, true, false, true] rfl ?_
    exact hk43 _ _ h
  · have h := it_f c26 h
    refine s_iload (pc := 135) d_X7_found_135 rfl ?_
    obtain rfl := Option.some.inj h
    exact s_iret (pc := 137) d_X7_found_137 rfl
set_option maxHeartbeats 4000000 in
set_option maxRecDepth 20000 in
theorem t_X7_found_b85 {l : Launch} {G : Gl} {n : Nat} {sh : Sh} {x : Int32 × Mu} {k43 : Int32 → Mu → Option (Int32 × Mu)} {k85 : Int32 → Int32 → Mu → Option (Int32 × Mu)} {v0 : Nat} {v1 : Int32} {v2 : Int32} {v3 : Int32} {v4 : Int32} {v6 : Int32} {v7 : Int32} {μ : Mu} (hk43 : ∀ (v4 : Int32) (μ : Mu), k43 v4 μ = some x → Sj l G (QI G n sh x) c_X7_found n sh 0 0 μ 43 [some (vr v0), some (vi v1), some (vi v2), some (vi v3), some (vi v4), none, none, none] []) (hk85 : ∀ (v6 : Int32) (v7 : Int32) (μ : Mu), k85 v6 v7 μ = some x → Sj l G (QI G n sh x) c_X7_found n sh 0 0 μ 85 [some (vr v0), some (vi v1), some (vi v2), some (vi v3), some (vi v4), none, some (vi v6), some (vi v7)] []) (h : m_X7_found_b85 sh k43 k85 v0 v1 v2 v3 v4 v6 v7 μ = some x) : Sj l G (QI G n sh x) c_X7_found n sh 0 0 μ 85 [some (vr v0), some (vi v1), some (vi v2), some (vi v3), some (vi v4), none, some (vi v6), some (vi v7)] [] := by
  unfold m_X7_found_b85 at h
  refine s_iload (pc := 85) d_X7_found_85 rfl ?_
  refine s_iload_n (pc := 87) d_X7_found_87 rfl rfl ?_
  refine s_icmp_ge (pc := 88) (tgt := 130) d_X7_found_88 (by decide) (fun c18 => ?_) (fun c18 => ?_)
  · have h := it_t c18 h
    refine s_mask [true, true, true, true, true, true, true, false] rfl ?_
    exact t_X7_found_b130 hk43 h
  · have h := it_f c18 h
    refine s_iload (pc := 91) d_X7_found_91 rfl ?_
    refine s_if_eq (pc := 93) (tgt := 130) d_X7_found_93 (by decide) (fun c19 => ?_) (fun c19 => ?_)
    · have h := it_t c19 h
      refine s_mask [true, true, true, true, true, true, true, false] rfl ?_
      exact t_X7_found_b130 hk43 h
    · have h := it_f c19 h
      refine s_aload_n (pc := 96) d_X7_found_96 rfl rfl ?_
      refine s_iload_n (pc := 97) d_X7_found_97 rfl rfl ?_
      refine s_iload (pc := 98) d_X7_found_98 rfl ?_
      refine s_iload (pc := 100) d_X7_found_100 rfl ?_
      refine s_iadd (pc := 102) d_X7_found_102 ?_
      refine s_iconst (pc := 103) (v := 1) d_X7_found_103 (by decide) ?_
      obtain ⟨g20, h⟩ := gd_1 h
      obtain ⟨r21, μ22, er21, h⟩ := ca2_1 h
      refine s_callV (pc := 104) (as := [vi v1, vi (v4 + v7), vi 1]) (st := []) (vo := [vi r21]) (t_X7_lookOf er21) cl_7 g20 d_X7_found_104 y_X7_lookOf w_826 w_828 w_s21 ⟨by decide, by decide⟩ ⟨Nat.le_of_ble_eq_true rfl, Nat.le_of_ble_eq_true rfl⟩ (Nat.le_of_ble_eq_true rfl) rfl rfl rfl ?_
      refine s_as (kc' := 0) (js' := 0) (pc' := 107) (st' := [vi r21]) ⟨rfl, rfl, rfl, rfl⟩ ?_
      refine s_iload_n (pc := 107) d_X7_found_107 rfl rfl ?_
      refine s_iload_n (pc := 108) d_X7_found_108 rfl rfl ?_
      refine s_iload (pc := 109) d_X7_found_109 rfl ?_
      obtain ⟨r23, μ24, er23, h⟩ := ca2_1 h
      refine s_callS (pc := 111) (as := [vi v2, vi v3, vi v7]) (st := [vi r21]) (vo := [vi r23]) (t_X7_setOf er23) d_X7_found_111 y_X7_setOf w_896 w_897 ⟨by decide, by decide⟩ ⟨Nat.le_of_ble_eq_true rfl, Nat.le_of_ble_eq_true rfl⟩ (Nat.le_of_ble_eq_true rfl) rfl rfl rfl ?_
      refine s_as (kc' := 0) (js' := 0) (pc' := 114) (st' := [vi r23, vi r21]) ⟨rfl, rfl, rfl, rfl⟩ ?_
      refine s_icmp_ne (pc := 114) (tgt := 121) d_X7_found_114 (by decide) (fun c25 => ?_) (fun c25 => ?_)
      · have h := it_f c25 h
        refine s_iconst (pc := 121) (v := 0) d_X7_found_121 (by decide) ?_
        refine s_mask [true, true, true, true, true, true, false, true] rfl ?_
        exact t_X7_found_b122 hk43 hk85 h
      · have h := it_t c25 h
        refine s_iconst (pc := 117) (v := 1) d_X7_found_117 (by decide) ?_
        refine s_goto (pc := 118) (tgt := 122) d_X7_found_118 (by decide) ?_
        refine s_mask [true, true, true, true, true, true, false, true] rfl ?_
        exact t_X7_found_b122 hk43 hk85 h
set_option maxHeartbeats 4000000 in
set_option maxRecDepth 20000 in
theorem t_X7_found_h85 {l : Launch} {G : Gl} {n : Nat} {sh : Sh} {x : Int32 × Mu} {k43 : Int32 → Mu → Option (Int32 × Mu)} {v0 : Nat} {v1 : Int32} {v2 : Int32} {v3 : Int32} {v4 : Int32} (hk43 : ∀ (v4 : Int32) (μ : Mu), k43 v4 μ = some x → Sj l G (QI G n sh x) c_X7_found n sh 0 0 μ 43 [some (vr v0), some (vi v1), some (vi v2), some (vi v3), some (vi v4), none, none, none] []) : ∀ (f : Nat) (v6 : Int32) (v7 : Int32) (μ : Mu), m_X7_found_h85 sh k43 v0 v1 v2 v3 v4 f v6 v7 μ = some x → Sj l G (QI G n sh x) c_X7_found n sh 0 0 μ 85 [some (vr v0), some (vi v1), some (vi v2), some (vi v3), some (vi v4), none, some (vi v6), some (vi v7)] [] := by
  intro f
  induction f with
  | zero =>
    intro v6 v7 μ h
    cases h
  | succ f ih =>
    intro v6 v7 μ h
    exact t_X7_found_b85 hk43 ih h
set_option maxHeartbeats 4000000 in
set_option maxRecDepth 20000 in
theorem t_X7_found_b80 {l : Launch} {G : Gl} {n : Nat} {sh : Sh} {x : Int32 × Mu} {k43 : Int32 → Mu → Option (Int32 × Mu)} {v0 : Nat} {v1 : Int32} {v2 : Int32} {v3 : Int32} {v4 : Int32} {s0 : Int32} {μ : Mu} (hk43 : ∀ (v4 : Int32) (μ : Mu), k43 v4 μ = some x → Sj l G (QI G n sh x) c_X7_found n sh 0 0 μ 43 [some (vr v0), some (vi v1), some (vi v2), some (vi v3), some (vi v4), none, none, none] []) (h : m_X7_found_b80 sh k43 v0 v1 v2 v3 v4 s0 μ = some x) : Sj l G (QI G n sh x) c_X7_found n sh 0 0 μ 80 [some (vr v0), some (vi v1), some (vi v2), some (vi v3), some (vi v4), none, none, none] [vi s0] := by
  unfold m_X7_found_b80 at h
  refine s_istore (pc := 80) (lc' := [some (vr v0), some (vi v1), some (vi v2), some (vi v3), some (vi v4), none, some (vi s0), none]) d_X7_found_80 (by decide) rfl ?_
  refine s_iconst (pc := 82) (v := 0) d_X7_found_82 (by decide) ?_
  refine s_istore (pc := 83) (lc' := [some (vr v0), some (vi v1), some (vi v2), some (vi v3), some (vi v4), none, some (vi s0), some (vi 0)]) d_X7_found_83 (by decide) rfl ?_
  exact t_X7_found_h85 hk43 FU _ _ _ h
set_option maxHeartbeats 4000000 in
set_option maxRecDepth 20000 in
theorem t_X7_found_b75 {l : Launch} {G : Gl} {n : Nat} {sh : Sh} {x : Int32 × Mu} {k43 : Int32 → Mu → Option (Int32 × Mu)} {v0 : Nat} {v1 : Int32} {v2 : Int32} {v3 : Int32} {v4 : Int32} {μ : Mu} (hk43 : ∀ (v4 : Int32) (μ : Mu), k43 v4 μ = some x → Sj l G (QI G n sh x) c_X7_found n sh 0 0 μ 43 [some (vr v0), some (vi v1), some (vi v2), some (vi v3), some (vi v4), none, none, none] []) (h : m_X7_found_b75 sh k43 v0 v1 v2 v3 v4 μ = some x) : Sj l G (QI G n sh x) c_X7_found n sh 0 0 μ 75 [some (vr v0), some (vi v1), some (vi v2), some (vi v3), some (vi v4), none, none, none] [] := by
  unfold m_X7_found_b75 at h
  refine s_iconst (pc := 75) (v := 1) d_X7_found_75 (by decide) ?_
  refine s_goto (pc := 76) (tgt := 80) d_X7_found_76 (by decide) ?_
  exact t_X7_found_b80 hk43 h
set_option maxHeartbeats 4000000 in
set_option maxRecDepth 20000 in
theorem t_X7_found_b43 {l : Launch} {G : Gl} {n : Nat} {sh : Sh} {x : Int32 × Mu} {k43 : Int32 → Mu → Option (Int32 × Mu)} {v0 : Nat} {v1 : Int32} {v2 : Int32} {v3 : Int32} {v4 : Int32} {μ : Mu} (hk43 : ∀ (v4 : Int32) (μ : Mu), k43 v4 μ = some x → Sj l G (QI G n sh x) c_X7_found n sh 0 0 μ 43 [some (vr v0), some (vi v1), some (vi v2), some (vi v3), some (vi v4), none, none, none] []) (h : m_X7_found_b43 sh k43 v0 v1 v2 v3 v4 μ = some x) : Sj l G (QI G n sh x) c_X7_found n sh 0 0 μ 43 [some (vr v0), some (vi v1), some (vi v2), some (vi v3), some (vi v4), none, none, none] [] := by
  unfold m_X7_found_b43 at h
  refine s_iload (pc := 43) d_X7_found_43 rfl ?_
  refine s_iload_n (pc := 45) d_X7_found_45 rfl rfl ?_
  refine s_iadd (pc := 46) d_X7_found_46 ?_
  refine s_iconst (pc := 47) (v := 4) d_X7_found_47 (by decide) ?_
  refine s_icmp_gt (pc := 48) (tgt := 144) d_X7_found_48 (by decide) (fun c12 => ?_) (fun c12 => ?_)
  · have h := it_t c12 h
    refine s_bipush (pc := 144) (v := (-9)) d_X7_found_144 (by decide) ?_
    obtain rfl := Option.some.inj h
    exact s_iret (pc := 146) d_X7_found_146 rfl
  · have h := it_f c12 h
    refine s_aload_n (pc := 51) d_X7_found_51 rfl rfl ?_
    refine s_iload_n (pc := 52) d_X7_found_52 rfl rfl ?_
    refine s_iconst (pc := 53) (v := 1) d_X7_found_53 (by decide) ?_
    obtain ⟨g13, h⟩ := gd_1 h
    obtain ⟨r14, μ15, er14, h⟩ := ca2_1 h
    refine s_callV (pc := 54) (as := [vi v1, vi 1]) (st := []) (vo := [vi r14]) (t_X7_of er14) cl_7 g13 d_X7_found_54 y_X7_of w_789 w_791 w_s15 ⟨by decide, by decide⟩ ⟨Nat.le_of_ble_eq_true rfl, Nat.le_of_ble_eq_true rfl⟩ (Nat.le_of_ble_eq_true rfl) rfl rfl rfl ?_
    refine s_as (kc' := 0) (js' := 0) (pc' := 57) (st' := [vi r14]) ⟨rfl, rfl, rfl, rfl⟩ ?_
    refine s_istore (pc := 57) (lc' := [some (vr v0), some (vi v1), some (vi v2), some (vi v3), some (vi v4), some (vi r14), none, none]) d_X7_found_57 (by decide) rfl ?_
    refine s_iload (pc := 59) d_X7_found_59 rfl ?_
    refine s_iload (pc := 61) d_X7_found_61 rfl ?_
    refine s_icmp_le (pc := 63) (tgt := 75) d_X7_found_63 (by decide) (fun c16 => ?_) (fun c16 => ?_)
    · have h := it_t c16 h
      refine s_mask [true, true, true, true, true, false, true, true] rfl ?_
      exact t_X7_found_b75 hk43 h
    · have h := it_f c16 h
      refine s_iload (pc := 66) d_X7_found_66 rfl ?_
      refine s_iload (pc := 68) d_X7_found_68 rfl ?_
      refine s_iload_n (pc := 70) d_X7_found_70 rfl rfl ?_
      refine s_iadd (pc := 71) d_X7_found_71 ?_
      refine s_icmp_lt (pc := 72) (tgt := 79) d_X7_found_72 (by decide) (fun c17 => ?_) (fun c17 => ?_)
      · have h := it_t c17 h
        refine s_iconst (pc := 79) (v := 0) d_X7_found_79 (by decide) ?_
        refine s_mask [true, true, true, true, true, false, true, true] rfl ?_
        exact t_X7_found_b80 hk43 h
      · have h := it_f c17 h
        refine s_mask [true, true, true, true, true, false, true, true] rfl ?_
        exact t_X7_found_b75 hk43 h
set_option maxHeartbeats 4000000 in
set_option maxRecDepth 20000 in
theorem t_X7_found_h43 {l : Launch} {G : Gl} {n : Nat} {sh : Sh} {x : Int32 × Mu} {v0 : Nat} {v1 : Int32} {v2 : Int32} {v3 : Int32} : ∀ (f : Nat) (v4 : Int32) (μ : Mu), m_X7_found_h43 sh v0 v1 v2 v3 f v4 μ = some x → Sj l G (QI G n sh x) c_X7_found n sh 0 0 μ 43 [some (vr v0), some (vi v1), some (vi v2), some (vi v3), some (vi v4), none, none, none] [] := by
  intro f
  induction f with
  | zero =>
    intro v4 μ h
    cases h
  | succ f ih =>
    intro v4 μ h
    exact t_X7_found_b43 ih h
set_option maxHeartbeats 4000000 in
set_option maxRecDepth 20000 in
theorem t_X7_found {l : Launch} {G : Gl} {n : Nat} {sh : Sh} {x : Int32 × Mu} {v0 : Nat} {v1 : Int32} {v2 : Int32} {v3 : Int32} {μ : Mu} (h : m_X7_found sh v0 v1 v2 v3 μ = some x) : Ct l G ⟨"StripsOfFourModel", "found", "(III)I"⟩ prog_9_method_41_code 8 (some .int) { frames := 3, cells := 0, slots := 0, locals := 68 } n sh μ [vr v0, vi v1, vi v2, vi v3] (some (.int x.1)) n sh x.2 := by
  refine Ct.of (lc := [some (vr v0), some (vi v1), some (vi v2), some (vi v3), none, none, none, none]) (by decide +kernel) (Nat.le_of_ble_eq_true rfl) rfl ?_
  show Sj l G (QI G n sh x) c_X7_found n sh 0 0 μ 0 [some (vr v0), some (vi v1), some (vi v2), some (vi v3), none, none, none, none] []
  unfold m_X7_found at h
  refine s_aload_n (pc := 0) d_X7_found_0 rfl rfl ?_
  refine s_iconst (pc := 1) (v := 0) d_X7_found_1 (by decide) ?_
  obtain ⟨g1, h⟩ := gd_1 h
  refine s_putI (pc := 2) (k := 0) cl_7 d_X7_found_2 g1 (by decide) w_660 rfl rfl ?_
  obtain ⟨μ2, eμ2, h⟩ := bd_1 h
  refine s_mu eμ2 ?_
  refine s_aload_n (pc := 5) d_X7_found_5 rfl rfl ?_
  refine s_iload_n (pc := 6) d_X7_found_6 rfl rfl ?_
  obtain ⟨r3, μ4, er3, h⟩ := ca2_1 h
  refine s_callV (pc := 7) (as := [vi v1]) (st := []) (vo := [vi r3]) (t_X7_noStrip er3) cl_7 g1 d_X7_found_7 y_X7_noStrip w_822 w_824 w_s20 ⟨by decide, by decide⟩ ⟨Nat.le_of_ble_eq_true rfl, Nat.le_of_ble_eq_true rfl⟩ (Nat.le_of_ble_eq_true rfl) rfl rfl rfl ?_
  refine s_as (kc' := 0) (js' := 0) (pc' := 10) (st' := [vi r3]) ⟨rfl, rfl, rfl, rfl⟩ ?_
  refine s_if_eq (pc := 10) (tgt := 15) d_X7_found_10 (by decide) (fun c5 => ?_) (fun c5 => ?_)
  · have h := it_t c5 h
    refine s_iload_n (pc := 15) d_X7_found_15 rfl rfl ?_
    refine s_i2l (pc := 16) d_X7_found_16 ?_
    refine s_lconst (pc := 17) (v := 1) d_X7_found_17 (by decide) ?_
    refine s_ldc2 (pc := 18) (v := 4) d_X7_found_18 w_889 ?_
    obtain ⟨r6, μ7, er6, h⟩ := ca2_1 h
    refine s_callS (pc := 21) (as := [vl (v2.toInt64), vl 1, vl 4]) (st := []) (vo := [vi r6]) (t_X7_in er6) d_X7_found_21 y_X7_in w_754 w_755 ⟨by decide, by decide⟩ ⟨Nat.le_of_ble_eq_true rfl, Nat.le_of_ble_eq_true rfl⟩ (Nat.le_of_ble_eq_true rfl) rfl rfl rfl ?_
    refine s_as (kc' := 0) (js' := 0) (pc' := 24) (st' := [vi r6]) ⟨rfl, rfl, rfl, rfl⟩ ?_
    refine s_if_eq (pc := 24) (tgt := 37) d_X7_found_24 (by decide) (fun c8 => ?_) (fun c8 => ?_)
    · have h := it_t c8 h
      refine s_bipush (pc := 37) (v := (-2)) d_X7_found_37 (by decide) ?_
      obtain rfl := Option.some.inj h
      exact s_iret (pc := 39) d_X7_found_39 rfl
    · have h := it_f c8 h
      refine s_iload_n (pc := 27) d_X7_found_27 rfl rfl ?_
      refine s_iload_n (pc := 28) d_X7_found_28 rfl rfl ?_
      refine s_bipush (pc := 29) (v := 31) d_X7_found_29 (by decide) ?_
      obtain ⟨r9, μ10, er9, h⟩ := ca2_1 h
      refine s_callS (pc := 31) (as := [vi v2, vi v3, vi 31]) (st := []) (vo := [vi r9]) (t_X7_isRow er9) d_X7_found_31 y_X7_isRow w_890 w_891 ⟨by decide, by decide⟩ ⟨Nat.le_of_ble_eq_true rfl, Nat.le_of_ble_eq_true rfl⟩ (Nat.le_of_ble_eq_true rfl) rfl rfl rfl ?_
      refine s_as (kc' := 0) (js' := 0) (pc' := 34) (st' := [vi r9]) ⟨rfl, rfl, rfl, rfl⟩ ?_
      refine s_if_ne (pc := 34) (tgt := 40) d_X7_found_34 (by decide) (fun c11 => ?_) (fun c11 => ?_)
      · have h := it_f c11 h
        refine s_iconst (pc := 40) (v := 0) d_X7_found_40 (by decide) ?_
        refine s_istore (pc := 41) (lc' := [some (vr v0), some (vi v1), some (vi v2), some (vi v3), some (vi 0), none, none, none]) d_X7_found_41 (by decide) rfl ?_
        exact t_X7_found_h43 FU _ _ h
      · have h := it_t c11 h
        refine s_bipush (pc := 37) (v := (-2)) d_X7_found_37 (by decide) ?_
        obtain rfl := Option.some.inj h
        exact s_iret (pc := 39) d_X7_found_39 rfl
  · have h := it_f c5 h
    refine s_iconst (pc := 13) (v := (-1)) d_X7_found_13 (by decide) ?_
    obtain rfl := Option.some.inj h
    exact s_iret (pc := 14) d_X7_found_14 rfl
/-! StripsOfFourModel.hat -/
abbrev c_X7_hat : Cf := (prog_9_method_31_code, 3, "StripsOfFourModel", "hat", (some .int), { frames := 2, cells := 0, slots := 0, locals := 46 })
theorem d_X7_hat_0 : decode prog_9_method_31_code 0 = .ok (.aload_n 0, 1) := by decide +kernel
theorem d_X7_hat_1 : decode prog_9_method_31_code 1 = .ok (.iconst 0, 1) := by decide +kernel
theorem d_X7_hat_2 : decode prog_9_method_31_code 2 = .ok (.putfield 66, 3) := by decide +kernel
theorem d_X7_hat_5 : decode prog_9_method_31_code 5 = .ok (.aload_n 0, 1) := by decide +kernel
theorem d_X7_hat_6 : decode prog_9_method_31_code 6 = .ok (.iload_n 1, 1) := by decide +kernel
theorem d_X7_hat_7 : decode prog_9_method_31_code 7 = .ok (.invokevirtual 133, 3) := by decide +kernel
theorem d_X7_hat_10 : decode prog_9_method_31_code 10 = .ok (.ifCond .eq 5, 3) := by decide +kernel
theorem d_X7_hat_13 : decode prog_9_method_31_code 13 = .ok (.iconst (-1), 1) := by decide +kernel
theorem d_X7_hat_14 : decode prog_9_method_31_code 14 = .ok (.ireturn, 1) := by decide +kernel
theorem d_X7_hat_15 : decode prog_9_method_31_code 15 = .ok (.aload_n 0, 1) := by decide +kernel
theorem d_X7_hat_16 : decode prog_9_method_31_code 16 = .ok (.getfield 31, 3) := by decide +kernel
theorem d_X7_hat_19 : decode prog_9_method_31_code 19 = .ok (.bipush 15, 2) := by decide +kernel
theorem d_X7_hat_21 : decode prog_9_method_31_code 21 = .ok (.iaload, 1) := by decide +kernel
theorem d_X7_hat_22 : decode prog_9_method_31_code 22 = .ok (.istore_n 2, 1) := by decide +kernel
theorem d_X7_hat_23 : decode prog_9_method_31_code 23 = .ok (.aload_n 0, 1) := by decide +kernel
theorem d_X7_hat_24 : decode prog_9_method_31_code 24 = .ok (.getfield 31, 3) := by decide +kernel
theorem d_X7_hat_27 : decode prog_9_method_31_code 27 = .ok (.iload_n 1, 1) := by decide +kernel
theorem d_X7_hat_28 : decode prog_9_method_31_code 28 = .ok (.iaload, 1) := by decide +kernel
theorem d_X7_hat_29 : decode prog_9_method_31_code 29 = .ok (.bipush (-9), 2) := by decide +kernel
theorem d_X7_hat_31 : decode prog_9_method_31_code 31 = .ok (.if_icmp .eq 29, 3) := by decide +kernel
theorem d_X7_hat_34 : decode prog_9_method_31_code 34 = .ok (.iload_n 2, 1) := by decide +kernel
theorem d_X7_hat_35 : decode prog_9_method_31_code 35 = .ok (.iload_n 1, 1) := by decide +kernel
theorem d_X7_hat_36 : decode prog_9_method_31_code 36 = .ok (.if_icmp .eq 24, 3) := by decide +kernel
theorem d_X7_hat_39 : decode prog_9_method_31_code 39 = .ok (.iload_n 2, 1) := by decide +kernel
theorem d_X7_hat_40 : decode prog_9_method_31_code 40 = .ok (.bipush (-9), 2) := by decide +kernel
theorem d_X7_hat_42 : decode prog_9_method_31_code 42 = .ok (.if_icmp .eq 21, 3) := by decide +kernel
theorem d_X7_hat_45 : decode prog_9_method_31_code 45 = .ok (.aload_n 0, 1) := by decide +kernel
theorem d_X7_hat_46 : decode prog_9_method_31_code 46 = .ok (.getfield 31, 3) := by decide +kernel
theorem d_X7_hat_49 : decode prog_9_method_31_code 49 = .ok (.iload_n 2, 1) := by decide +kernel
theorem d_X7_hat_50 : decode prog_9_method_31_code 50 = .ok (.iaload, 1) := by decide +kernel
theorem d_X7_hat_51 : decode prog_9_method_31_code 51 = .ok (.aload_n 0, 1) := by decide +kernel
theorem d_X7_hat_52 : decode prog_9_method_31_code 52 = .ok (.getfield 31, 3) := by decide +kernel
theorem d_X7_hat_55 : decode prog_9_method_31_code 55 = .ok (.iload_n 1, 1) := by decide +kernel
theorem d_X7_hat_56 : decode prog_9_method_31_code 56 = .ok (.iaload, 1) := by decide +kernel
theorem d_X7_hat_57 : decode prog_9_method_31_code 57 = .ok (.if_icmp .eq 6, 3) := by decide +kernel
theorem d_X7_hat_60 : decode prog_9_method_31_code 60 = .ok (.bipush (-3), 2) := by decide +kernel
theorem d_X7_hat_62 : decode prog_9_method_31_code 62 = .ok (.ireturn, 1) := by decide +kernel
theorem d_X7_hat_63 : decode prog_9_method_31_code 63 = .ok (.aload_n 0, 1) := by decide +kernel
theorem d_X7_hat_64 : decode prog_9_method_31_code 64 = .ok (.invokevirtual 154, 3) := by decide +kernel
theorem d_X7_hat_67 : decode prog_9_method_31_code 67 = .ok (.aload_n 0, 1) := by decide +kernel
theorem d_X7_hat_68 : decode prog_9_method_31_code 68 = .ok (.getfield 31, 3) := by decide +kernel
theorem d_X7_hat_71 : decode prog_9_method_31_code 71 = .ok (.bipush 15, 2) := by decide +kernel
theorem d_X7_hat_73 : decode prog_9_method_31_code 73 = .ok (.iload_n 1, 1) := by decide +kernel
theorem d_X7_hat_74 : decode prog_9_method_31_code 74 = .ok (.iastore, 1) := by decide +kernel
theorem d_X7_hat_75 : decode prog_9_method_31_code 75 = .ok (.iload_n 2, 1) := by decide +kernel
theorem d_X7_hat_76 : decode prog_9_method_31_code 76 = .ok (.ireturn, 1) := by decide +kernel
def m_X7_hat_b63 (sh : Sh) (v0 : Nat) (v1 : Int32) (v2 : Int32) (μ : Mu) : Option (Int32 × Mu) :=
  gd (iz sh 7 v0) <|
  ca (m_X7_note sh v0 μ) fun μ23 =>
  bd (gR μ23 v0 16) fun a24 =>
  gd (ix sh 8 a24 15) <|
  bd (sI μ23 a24 (15 : Int32).toNatClampNeg v1) fun μ26 =>
  some (v2, μ26)
def m_X7_hat (sh : Sh) (v0 : Nat) (v1 : Int32) (μ : Mu) : Option (Int32 × Mu) :=
  gd (iz sh 7 v0) <|
  bd (sI μ v0 0 0) fun μ2 =>
  ca2 (m_X7_noOne sh v0 v1 μ2) fun r3 μ4 =>
  if r3 = 0 then
    bd (gR μ4 v0 16) fun a6 =>
    gd (ix sh 8 a6 15) <|
    bd (gI μ4 a6 (15 : Int32).toNatClampNeg) fun w8 =>
    bd (gR μ4 v0 16) fun a9 =>
    gd (ix sh 8 a9 v1) <|
    bd (gI μ4 a9 v1.toNatClampNeg) fun w11 =>
    if w11 = (-9) then
      some ((-3), μ4)
    else
      if w8 = v1 then
        some ((-3), μ4)
      else
        if w8 = (-9) then
          m_X7_hat_b63 sh v0 v1 w8 μ4
        else
          bd (gR μ4 v0 16) fun a15 =>
          gd (ix sh 8 a15 w8) <|
          bd (gI μ4 a15 w8.toNatClampNeg) fun w17 =>
          bd (gR μ4 v0 16) fun a18 =>
          gd (ix sh 8 a18 v1) <|
          bd (gI μ4 a18 v1.toNatClampNeg) fun w20 =>
          if w17 = w20 then
            m_X7_hat_b63 sh v0 v1 w8 μ4
          else
            some ((-3), μ4)
  else
    some ((-1), μ4)
set_option maxHeartbeats 4000000 in
set_option maxRecDepth 20000 in
theorem t_X7_hat_b63 {l : Launch} {G : Gl} {n : Nat} {sh : Sh} {x : Int32 × Mu} {v0 : Nat} {v1 : Int32} {v2 : Int32} {μ : Mu} (h : m_X7_hat_b63 sh v0 v1 v2 μ = some x) : Sj l G (QI G n sh x) c_X7_hat n sh 0 0 μ 63 [some (vr v0), some (vi v1), some (vi v2)] [] := by
  unfold m_X7_hat_b63 at h
  refine s_aload_n (pc := 63) d_X7_hat_63 rfl rfl ?_
  obtain ⟨g22, h⟩ := gd_1 h
  obtain ⟨μ23, eμ23, h⟩ := ca_1 h
  refine s_callV (pc := 64) (as := []) (st := []) (vo := []) (t_X7_note eμ23) cl_7 g22 d_X7_hat_64 y_X7_note w_846 w_848 w_s22 ⟨by decide, by decide⟩ ⟨Nat.le_of_ble_eq_true rfl, Nat.le_of_ble_eq_true rfl⟩ (Nat.le_of_ble_eq_true rfl) rfl rfl rfl ?_
  refine s_as (kc' := 0) (js' := 0) (pc' := 67) (st' := []) ⟨rfl, rfl, rfl, rfl⟩ ?_
  refine s_aload_n (pc := 67) d_X7_hat_67 rfl rfl ?_
  refine s_getR (pc := 68) (k := 16) cl_7 d_X7_hat_68 g22 (by decide) w_676 (rt_arr _) ?_
  obtain ⟨a24, ea24, h⟩ := bd_1 h
  refine s_topR ea24 ?_
  refine s_bipush (pc := 71) (v := 15) d_X7_hat_71 (by decide) ?_
  refine s_iload_n (pc := 73) d_X7_hat_73 rfl rfl ?_
  obtain ⟨g25, h⟩ := gd_1 h
  refine s_iast (pc := 74) d_X7_hat_74 g25 ?_
  obtain ⟨μ26, eμ26, h⟩ := bd_1 h
  refine s_mu eμ26 ?_
  refine s_iload_n (pc := 75) d_X7_hat_75 rfl rfl ?_
  obtain rfl := Option.some.inj h
  exact s_iret (pc := 76) d_X7_hat_76 rfl
set_option maxHeartbeats 4000000 in
set_option maxRecDepth 20000 in
theorem t_X7_hat {l : Launch} {G : Gl} {n : Nat} {sh : Sh} {x : Int32 × Mu} {v0 : Nat} {v1 : Int32} {μ : Mu} (h : m_X7_hat sh v0 v1 μ = some x) : Ct l G ⟨"StripsOfFourModel", "hat", "(I)I"⟩ prog_9_method_31_code 3 (some .int) { frames := 2, cells := 0, slots := 0, locals := 46 } n sh μ [vr v0, vi v1] (some (.int x.1)) n sh x.2 := by
  refine Ct.of (lc := [some (vr v0), some (vi v1), none]) (by decide +kernel) (Nat.le_of_ble_eq_true rfl) rfl ?_
  show Sj l G (QI G n sh x) c_X7_hat n sh 0 0 μ 0 [some (vr v0), some (vi v1), none] []
  unfold m_X7_hat at h
  refine s_aload_n (pc := 0) d_X7_hat_0 rfl rfl ?_
  refine s_iconst (pc := 1) (v := 0) d_X7_hat_1 (by decide) ?_
  obtain ⟨g1, h⟩ := gd_1 h
  refine s_putI (pc := 2) (k := 0) cl_7 d_X7_hat_2 g1 (by decide) w_660 rfl rfl ?_
  obtain ⟨μ2, eμ2, h⟩ := bd_1 h
  refine s_mu eμ2 ?_
  refine s_aload_n (pc := 5) d_X7_hat_5 rfl rfl ?_
  refine s_iload_n (pc := 6) d_X7_hat_6 rfl rfl ?_
  obtain ⟨r3, μ4, er3, h⟩ := ca2_1 h
  refine s_callV (pc := 7) (as := [vi v1]) (st := []) (vo := [vi r3]) (t_X7_noOne er3) cl_7 g1 d_X7_hat_7 y_X7_noOne w_813 w_815 w_s19 ⟨by decide, by decide⟩ ⟨Nat.le_of_ble_eq_true rfl, Nat.le_of_ble_eq_true rfl⟩ (Nat.le_of_ble_eq_true rfl) rfl rfl rfl ?_
  refine s_as (kc' := 0) (js' := 0) (pc' := 10) (st' := [vi r3]) ⟨rfl, rfl, rfl, rfl⟩ ?_
  refine s_if_eq (pc := 10) (tgt := 15) d_X7_hat_10 (by decide) (fun c5 => ?_) (fun c5 => ?_)
  · have h := it_t c5 h
    refine s_aload_n (pc := 15) d_X7_hat_15 rfl rfl ?_
    refine s_getR (pc := 16) (k := 16) cl_7 d_X7_hat_16 g1 (by decide) w_676 (rt_arr _) ?_
    obtain ⟨a6, ea6, h⟩ := bd_1 h
    refine s_topR ea6 ?_
    refine s_bipush (pc := 19) (v := 15) d_X7_hat_19 (by decide) ?_
    obtain ⟨g7, h⟩ := gd_1 h
    refine s_iald (pc := 21) d_X7_hat_21 g7 ?_
    obtain ⟨w8, ew8, h⟩ := bd_1 h
    refine s_topI ew8 ?_
    refine s_istore_n (pc := 22) (lc' := [some (vr v0), some (vi v1), some (vi w8)]) d_X7_hat_22 rfl (by decide) rfl ?_
    refine s_aload_n (pc := 23) d_X7_hat_23 rfl rfl ?_
    refine s_getR (pc := 24) (k := 16) cl_7 d_X7_hat_24 g1 (by decide) w_676 (rt_arr _) ?_
    obtain ⟨a9, ea9, h⟩ := bd_1 h
    refine s_topR ea9 ?_
    refine s_iload_n (pc := 27) d_X7_hat_27 rfl rfl ?_
    obtain ⟨g10, h⟩ := gd_1 h
    refine s_iald (pc := 28) d_X7_hat_28 g10 ?_
    obtain ⟨w11, ew11, h⟩ := bd_1 h
    refine s_topI ew11 ?_
    refine s_bipush (pc := 29) (v := (-9)) d_X7_hat_29 (by decide) ?_
    refine s_icmp_eq (pc := 31) (tgt := 60) d_X7_hat_31 (by decide) (fun c12 => ?_) (fun c12 => ?_)
    · have h := it_t c12 h
      refine s_bipush (pc := 60) (v := (-3)) d_X7_hat_60 (by decide) ?_
      obtain rfl := Option.some.inj h
      exact s_iret (pc := 62) d_X7_hat_62 rfl
    · have h := it_f c12 h
      refine s_iload_n (pc := 34) d_X7_hat_34 rfl rfl ?_
      refine s_iload_n (pc := 35) d_X7_hat_35 rfl rfl ?_
      refine s_icmp_eq (pc := 36) (tgt := 60) d_X7_hat_36 (by decide) (fun c13 => ?_) (fun c13 => ?_)
      · have h := it_t c13 h
        refine s_bipush (pc := 60) (v := (-3)) d_X7_hat_60 (by decide) ?_
        obtain rfl := Option.some.inj h
        exact s_iret (pc := 62) d_X7_hat_62 rfl
      · have h := it_f c13 h
        refine s_iload_n (pc := 39) d_X7_hat_39 rfl rfl ?_
        refine s_bipush (pc := 40) (v := (-9)) d_X7_hat_40 (by decide) ?_
        refine s_icmp_eq (pc := 42) (tgt := 63) d_X7_hat_42 (by decide) (fun c14 => ?_) (fun c14 => ?_)
        · have h := it_t c14 h
          exact t_X7_hat_b63 h
        · have h := it_f c14 h
          refine s_aload_n (pc := 45) d_X7_hat_45 rfl rfl ?_
          refine s_getR (pc := 46) (k := 16) cl_7 d_X7_hat_46 g1 (by decide) w_676 (rt_arr _) ?_
          obtain ⟨a15, ea15, h⟩ := bd_1 h
          refine s_topR ea15 ?_
          refine s_iload_n (pc := 49) d_X7_hat_49 rfl rfl ?_
          obtain ⟨g16, h⟩ := gd_1 h
          refine s_iald (pc := 50) d_X7_hat_50 g16 ?_
          obtain ⟨w17, ew17, h⟩ := bd_1 h
          refine s_topI ew17 ?_
          refine s_aload_n (pc := 51) d_X7_hat_51 rfl rfl ?_
          refine s_getR (pc := 52) (k := 16) cl_7 d_X7_hat_52 g1 (by decide) w_676 (rt_arr _) ?_
          obtain ⟨a18, ea18, h⟩ := bd_1 h
          refine s_topR ea18 ?_
          refine s_iload_n (pc := 55) d_X7_hat_55 rfl rfl ?_
          obtain ⟨g19, h⟩ := gd_1 h
          refine s_iald (pc := 56) d_X7_hat_56 g19 ?_
          obtain ⟨w20, ew20, h⟩ := bd_1 h
          refine s_topI ew20 ?_
          refine s_icmp_eq (pc := 57) (tgt := 63) d_X7_hat_57 (by decide) (fun c21 => ?_) (fun c21 => ?_)
          · have h := it_t c21 h
            exact t_X7_hat_b63 h
          · have h := it_f c21 h
            refine s_bipush (pc := 60) (v := (-3)) d_X7_hat_60 (by decide) ?_
            obtain rfl := Option.some.inj h
            exact s_iret (pc := 62) d_X7_hat_62 rfl
  · have h := it_f c5 h
    refine s_iconst (pc := 13) (v := (-1)) d_X7_hat_13 (by decide) ?_
    obtain rfl := Option.some.inj h
    exact s_iret (pc := 14) d_X7_hat_14 rfl
/-! StripsOfFourModel.<init> -/
abbrev c_X7_init : Cf := (prog_9_method_1_code, 1, "StripsOfFourModel", "<init>", none, { frames := 1, cells := 17, slots := 3657, locals := 21 })
theorem d_X7_init_0 : decode prog_9_method_1_code 0 = .ok (.aload_n 0, 1) := by decide +kernel
theorem d_X7_init_1 : decode prog_9_method_1_code 1 = .ok (.invokespecial 1, 3) := by decide +kernel
theorem d_X7_init_4 : decode prog_9_method_1_code 4 = .ok (.aload_n 0, 1) := by decide +kernel
theorem d_X7_init_5 : decode prog_9_method_1_code 5 = .ok (.bipush 24, 2) := by decide +kernel
theorem d_X7_init_7 : decode prog_9_method_1_code 7 = .ok (.newarray .int, 2) := by decide +kernel
theorem d_X7_init_9 : decode prog_9_method_1_code 9 = .ok (.putfield 7, 3) := by decide +kernel
theorem d_X7_init_12 : decode prog_9_method_1_code 12 = .ok (.aload_n 0, 1) := by decide +kernel
theorem d_X7_init_13 : decode prog_9_method_1_code 13 = .ok (.iconst 2, 1) := by decide +kernel
theorem d_X7_init_14 : decode prog_9_method_1_code 14 = .ok (.newarray .int, 2) := by decide +kernel
theorem d_X7_init_16 : decode prog_9_method_1_code 16 = .ok (.putfield 13, 3) := by decide +kernel
theorem d_X7_init_19 : decode prog_9_method_1_code 19 = .ok (.aload_n 0, 1) := by decide +kernel
theorem d_X7_init_20 : decode prog_9_method_1_code 20 = .ok (.iconst 2, 1) := by decide +kernel
theorem d_X7_init_21 : decode prog_9_method_1_code 21 = .ok (.newarray .int, 2) := by decide +kernel
theorem d_X7_init_23 : decode prog_9_method_1_code 23 = .ok (.putfield 16, 3) := by decide +kernel
theorem d_X7_init_26 : decode prog_9_method_1_code 26 = .ok (.aload_n 0, 1) := by decide +kernel
theorem d_X7_init_27 : decode prog_9_method_1_code 27 = .ok (.iconst 5, 1) := by decide +kernel
theorem d_X7_init_28 : decode prog_9_method_1_code 28 = .ok (.newarray .int, 2) := by decide +kernel
theorem d_X7_init_30 : decode prog_9_method_1_code 30 = .ok (.putfield 19, 3) := by decide +kernel
theorem d_X7_init_33 : decode prog_9_method_1_code 33 = .ok (.aload_n 0, 1) := by decide +kernel
theorem d_X7_init_34 : decode prog_9_method_1_code 34 = .ok (.iconst 2, 1) := by decide +kernel
theorem d_X7_init_35 : decode prog_9_method_1_code 35 = .ok (.newarray .int, 2) := by decide +kernel
theorem d_X7_init_37 : decode prog_9_method_1_code 37 = .ok (.putfield 22, 3) := by decide +kernel
theorem d_X7_init_40 : decode prog_9_method_1_code 40 = .ok (.aload_n 0, 1) := by decide +kernel
theorem d_X7_init_41 : decode prog_9_method_1_code 41 = .ok (.iconst 2, 1) := by decide +kernel
theorem d_X7_init_42 : decode prog_9_method_1_code 42 = .ok (.newarray .int, 2) := by decide +kernel
theorem d_X7_init_44 : decode prog_9_method_1_code 44 = .ok (.putfield 25, 3) := by decide +kernel
theorem d_X7_init_47 : decode prog_9_method_1_code 47 = .ok (.aload_n 0, 1) := by decide +kernel
theorem d_X7_init_48 : decode prog_9_method_1_code 48 = .ok (.iconst 5, 1) := by decide +kernel
theorem d_X7_init_49 : decode prog_9_method_1_code 49 = .ok (.newarray .int, 2) := by decide +kernel
theorem d_X7_init_51 : decode prog_9_method_1_code 51 = .ok (.putfield 28, 3) := by decide +kernel
theorem d_X7_init_54 : decode prog_9_method_1_code 54 = .ok (.aload_n 0, 1) := by decide +kernel
theorem d_X7_init_55 : decode prog_9_method_1_code 55 = .ok (.sipush 205, 3) := by decide +kernel
theorem d_X7_init_58 : decode prog_9_method_1_code 58 = .ok (.newarray .int, 2) := by decide +kernel
theorem d_X7_init_60 : decode prog_9_method_1_code 60 = .ok (.putfield 31, 3) := by decide +kernel
theorem d_X7_init_63 : decode prog_9_method_1_code 63 = .ok (.aload_n 0, 1) := by decide +kernel
theorem d_X7_init_64 : decode prog_9_method_1_code 64 = .ok (.sipush 2460, 3) := by decide +kernel
theorem d_X7_init_67 : decode prog_9_method_1_code 67 = .ok (.newarray .int, 2) := by decide +kernel
theorem d_X7_init_69 : decode prog_9_method_1_code 69 = .ok (.putfield 34, 3) := by decide +kernel
theorem d_X7_init_72 : decode prog_9_method_1_code 72 = .ok (.aload_n 0, 1) := by decide +kernel
theorem d_X7_init_73 : decode prog_9_method_1_code 73 = .ok (.bipush 12, 2) := by decide +kernel
theorem d_X7_init_75 : decode prog_9_method_1_code 75 = .ok (.newarray .long, 2) := by decide +kernel
theorem d_X7_init_77 : decode prog_9_method_1_code 77 = .ok (.putfield 37, 3) := by decide +kernel
theorem d_X7_init_80 : decode prog_9_method_1_code 80 = .ok (.aload_n 0, 1) := by decide +kernel
theorem d_X7_init_81 : decode prog_9_method_1_code 81 = .ok (.sipush 410, 3) := by decide +kernel
theorem d_X7_init_84 : decode prog_9_method_1_code 84 = .ok (.newarray .int, 2) := by decide +kernel
theorem d_X7_init_86 : decode prog_9_method_1_code 86 = .ok (.putfield 41, 3) := by decide +kernel
theorem d_X7_init_89 : decode prog_9_method_1_code 89 = .ok (.aload_n 0, 1) := by decide +kernel
theorem d_X7_init_90 : decode prog_9_method_1_code 90 = .ok (.iconst 2, 1) := by decide +kernel
theorem d_X7_init_91 : decode prog_9_method_1_code 91 = .ok (.newarray .long, 2) := by decide +kernel
theorem d_X7_init_93 : decode prog_9_method_1_code 93 = .ok (.putfield 44, 3) := by decide +kernel
theorem d_X7_init_96 : decode prog_9_method_1_code 96 = .ok (.aload_n 0, 1) := by decide +kernel
theorem d_X7_init_97 : decode prog_9_method_1_code 97 = .ok (.iconst 2, 1) := by decide +kernel
theorem d_X7_init_98 : decode prog_9_method_1_code 98 = .ok (.newarray .boolean, 2) := by decide +kernel
theorem d_X7_init_100 : decode prog_9_method_1_code 100 = .ok (.putfield 47, 3) := by decide +kernel
theorem d_X7_init_103 : decode prog_9_method_1_code 103 = .ok (.aload_n 0, 1) := by decide +kernel
theorem d_X7_init_104 : decode prog_9_method_1_code 104 = .ok (.sipush 256, 3) := by decide +kernel
theorem d_X7_init_107 : decode prog_9_method_1_code 107 = .ok (.newarray .int, 2) := by decide +kernel
theorem d_X7_init_109 : decode prog_9_method_1_code 109 = .ok (.putfield 51, 3) := by decide +kernel
theorem d_X7_init_112 : decode prog_9_method_1_code 112 = .ok (.aload_n 0, 1) := by decide +kernel
theorem d_X7_init_113 : decode prog_9_method_1_code 113 = .ok (.sipush 256, 3) := by decide +kernel
theorem d_X7_init_116 : decode prog_9_method_1_code 116 = .ok (.newarray .int, 2) := by decide +kernel
theorem d_X7_init_118 : decode prog_9_method_1_code 118 = .ok (.putfield 54, 3) := by decide +kernel
theorem d_X7_init_121 : decode prog_9_method_1_code 121 = .ok (.aload_n 0, 1) := by decide +kernel
theorem d_X7_init_122 : decode prog_9_method_1_code 122 = .ok (.bipush 6, 2) := by decide +kernel
theorem d_X7_init_124 : decode prog_9_method_1_code 124 = .ok (.newarray .int, 2) := by decide +kernel
theorem d_X7_init_126 : decode prog_9_method_1_code 126 = .ok (.putfield 57, 3) := by decide +kernel
theorem d_X7_init_129 : decode prog_9_method_1_code 129 = .ok (.aload_n 0, 1) := by decide +kernel
theorem d_X7_init_130 : decode prog_9_method_1_code 130 = .ok (.bipush 6, 2) := by decide +kernel
theorem d_X7_init_132 : decode prog_9_method_1_code 132 = .ok (.newarray .int, 2) := by decide +kernel
theorem d_X7_init_134 : decode prog_9_method_1_code 134 = .ok (.putfield 60, 3) := by decide +kernel
theorem d_X7_init_137 : decode prog_9_method_1_code 137 = .ok (.aload_n 0, 1) := by decide +kernel
theorem d_X7_init_138 : decode prog_9_method_1_code 138 = .ok (.invokevirtual 63, 3) := by decide +kernel
theorem d_X7_init_141 : decode prog_9_method_1_code 141 = .ok (.return_, 1) := by decide +kernel
def m_X7_init (n : Nat) (sh : Sh) (v0 : Nat) (μ : Mu) : Option (Nat × Sh × Mu) :=
  gd (nn0 v0) <|
  gd (roomB (0 + 1) 17 (0 + 24) 3657) <|
  bd (n + 1) fun n3 =>
  bd (0 + 1) fun kc4 =>
  bd (0 + 24) fun js5 =>
  bd (shn sh n3 8 24) fun sh6 =>
  bd (zr μ n3) fun μ7 =>
  gd (iz sh6 7 v0) <|
  bd (sR μ7 v0 1 n3) fun μ9 =>
  gd (roomB (kc4 + 1) 17 (js5 + 2) 3657) <|
  bd (n3 + 1) fun n11 =>
  bd (kc4 + 1) fun kc12 =>
  bd (js5 + 2) fun js13 =>
  bd (shn sh6 n11 8 2) fun sh14 =>
  bd (zr μ9 n11) fun μ15 =>
  gd (iz sh14 7 v0) <|
  bd (sR μ15 v0 7 n11) fun μ17 =>
  gd (roomB (kc12 + 1) 17 (js13 + 2) 3657) <|
  bd (n11 + 1) fun n19 =>
  bd (kc12 + 1) fun kc20 =>
  bd (js13 + 2) fun js21 =>
  bd (shn sh14 n19 8 2) fun sh22 =>
  bd (zr μ17 n19) fun μ23 =>
  gd (iz sh22 7 v0) <|
  bd (sR μ23 v0 8 n19) fun μ25 =>
  gd (roomB (kc20 + 1) 17 (js21 + 5) 3657) <|
  bd (n19 + 1) fun n27 =>
  bd (kc20 + 1) fun kc28 =>
  bd (js21 + 5) fun js29 =>
  bd (shn sh22 n27 8 5) fun sh30 =>
  bd (zr μ25 n27) fun μ31 =>
  gd (iz sh30 7 v0) <|
  bd (sR μ31 v0 9 n27) fun μ33 =>
  gd (roomB (kc28 + 1) 17 (js29 + 2) 3657) <|
  bd (n27 + 1) fun n35 =>
  bd (kc28 + 1) fun kc36 =>
  bd (js29 + 2) fun js37 =>
  bd (shn sh30 n35 8 2) fun sh38 =>
  bd (zr μ33 n35) fun μ39 =>
  gd (iz sh38 7 v0) <|
  bd (sR μ39 v0 13 n35) fun μ41 =>
  gd (roomB (kc36 + 1) 17 (js37 + 2) 3657) <|
  bd (n35 + 1) fun n43 =>
  bd (kc36 + 1) fun kc44 =>
  bd (js37 + 2) fun js45 =>
  bd (shn sh38 n43 8 2) fun sh46 =>
  bd (zr μ41 n43) fun μ47 =>
  gd (iz sh46 7 v0) <|
  bd (sR μ47 v0 14 n43) fun μ49 =>
  gd (roomB (kc44 + 1) 17 (js45 + 5) 3657) <|
  bd (n43 + 1) fun n51 =>
  bd (kc44 + 1) fun kc52 =>
  bd (js45 + 5) fun js53 =>
  bd (shn sh46 n51 8 5) fun sh54 =>
  bd (zr μ49 n51) fun μ55 =>
  gd (iz sh54 7 v0) <|
  bd (sR μ55 v0 15 n51) fun μ57 =>
  gd (roomB (kc52 + 1) 17 (js53 + 205) 3657) <|
  bd (n51 + 1) fun n59 =>
  bd (kc52 + 1) fun kc60 =>
  bd (js53 + 205) fun js61 =>
  bd (shn sh54 n59 8 205) fun sh62 =>
  bd (zr μ57 n59) fun μ63 =>
  gd (iz sh62 7 v0) <|
  bd (sR μ63 v0 16 n59) fun μ65 =>
  gd (roomB (kc60 + 1) 17 (js61 + 2460) 3657) <|
  bd (n59 + 1) fun n67 =>
  bd (kc60 + 1) fun kc68 =>
  bd (js61 + 2460) fun js69 =>
  bd (shn sh62 n67 8 2460) fun sh70 =>
  bd (zr μ65 n67) fun μ71 =>
  gd (iz sh70 7 v0) <|
  bd (sR μ71 v0 18 n67) fun μ73 =>
  gd (roomB (kc68 + 1) 17 (js69 + 12) 3657) <|
  bd (n67 + 1) fun n75 =>
  bd (kc68 + 1) fun kc76 =>
  bd (js69 + 12) fun js77 =>
  bd (shn sh70 n75 9 12) fun sh78 =>
  bd (zr μ73 n75) fun μ79 =>
  gd (iz sh78 7 v0) <|
  bd (sR μ79 v0 19 n75) fun μ81 =>
  gd (roomB (kc76 + 1) 17 (js77 + 410) 3657) <|
  bd (n75 + 1) fun n83 =>
  bd (kc76 + 1) fun kc84 =>
  bd (js77 + 410) fun js85 =>
  bd (shn sh78 n83 8 410) fun sh86 =>
  bd (zr μ81 n83) fun μ87 =>
  gd (iz sh86 7 v0) <|
  bd (sR μ87 v0 21 n83) fun μ89 =>
  gd (roomB (kc84 + 1) 17 (js85 + 2) 3657) <|
  bd (n83 + 1) fun n91 =>
  bd (kc84 + 1) fun kc92 =>
  bd (js85 + 2) fun js93 =>
  bd (shn sh86 n91 9 2) fun sh94 =>
  bd (zr μ89 n91) fun μ95 =>
  gd (iz sh94 7 v0) <|
  bd (sR μ95 v0 22 n91) fun μ97 =>
  gd (roomB (kc92 + 1) 17 (js93 + 2) 3657) <|
  bd (n91 + 1) fun n99 =>
  bd (kc92 + 1) fun kc100 =>
  bd (js93 + 2) fun js101 =>
  bd (shn sh94 n99 10 2) fun sh102 =>
  bd (zr μ97 n99) fun μ103 =>
  gd (iz sh102 7 v0) <|
  bd (sR μ103 v0 23 n99) fun μ105 =>
  gd (roomB (kc100 + 1) 17 (js101 + 256) 3657) <|
  bd (n99 + 1) fun n107 =>
  bd (kc100 + 1) fun kc108 =>
  bd (js101 + 256) fun js109 =>
  bd (shn sh102 n107 8 256) fun sh110 =>
  bd (zr μ105 n107) fun μ111 =>
  gd (iz sh110 7 v0) <|
  bd (sR μ111 v0 24 n107) fun μ113 =>
  gd (roomB (kc108 + 1) 17 (js109 + 256) 3657) <|
  bd (n107 + 1) fun n115 =>
  bd (kc108 + 1) fun kc116 =>
  bd (js109 + 256) fun js117 =>
  bd (shn sh110 n115 8 256) fun sh118 =>
  bd (zr μ113 n115) fun μ119 =>
  gd (iz sh118 7 v0) <|
  bd (sR μ119 v0 25 n115) fun μ121 =>
  gd (roomB (kc116 + 1) 17 (js117 + 6) 3657) <|
  bd (n115 + 1) fun n123 =>
  bd (kc116 + 1) fun kc124 =>
  bd (js117 + 6) fun js125 =>
  bd (shn sh118 n123 8 6) fun sh126 =>
  bd (zr μ121 n123) fun μ127 =>
  gd (iz sh126 7 v0) <|
  bd (sR μ127 v0 26 n123) fun μ129 =>
  gd (roomB (kc124 + 1) 17 (js125 + 6) 3657) <|
  bd (n123 + 1) fun n131 =>
  bd (kc124 + 1) fun kc132 =>
  bd (js125 + 6) fun js133 =>
  bd (shn sh126 n131 8 6) fun sh134 =>
  bd (zr μ129 n131) fun μ135 =>
  gd (iz sh134 7 v0) <|
  bd (sR μ135 v0 28 n131) fun μ137 =>
  ca (m_X7_begin sh134 v0 μ137) fun μ138 =>
  gd (roomB kc132 17 js133 3657) <|
  gd (eqB kc132 17 js133 3657) <|
  some (n131, sh134, μ138)
set_option maxHeartbeats 4000000 in
set_option maxRecDepth 20000 in
theorem t_X7_init {l : Launch} {G : Gl} {n : Nat} {sh : Sh} {x : Nat × Sh × Mu} {v0 : Nat} {μ : Mu} (h : m_X7_init n sh v0 μ = some x) : Ct l G ⟨"StripsOfFourModel", "<init>", "()V"⟩ prog_9_method_1_code 1 none { frames := 1, cells := 17, slots := 3657, locals := 21 } n sh μ [vr v0] none x.1 x.2.1 x.2.2 := by
  refine Ct.of (lc := [some (vr v0)]) (by decide +kernel) (Nat.le_of_ble_eq_true rfl) rfl ?_
  show Sj l G (QA G 17 3657 x) c_X7_init n sh 0 0 μ 0 [some (vr v0)] []
  unfold m_X7_init at h
  refine s_aload_n (pc := 0) d_X7_init_0 rfl rfl ?_
  obtain ⟨g1, h⟩ := gd_1 h
  refine s_objInit (pc := 1) d_X7_init_1 (nn0_eq g1) w_655 w_18 w_19 (by decide) (Nat.le_of_ble_eq_true rfl) ?_
  refine s_aload_n (pc := 4) d_X7_init_4 rfl rfl ?_
  refine s_bipush (pc := 5) (v := 24) d_X7_init_5 (by decide) ?_
  obtain ⟨g2, h⟩ := gd_1 h
  refine s_newa (pc := 7) (kd := 8) (ty := .int) (N := 24) (Or.inl ⟨rfl, rfl⟩) d_X7_init_7 rfl w_48 (by decide) (by decide) (by decide) (roomB_eq g2) ?_
  obtain ⟨n3, en3, h⟩ := bd_1 h
  obtain ⟨kc4, ekc4, h⟩ := bd_1 h
  obtain ⟨js5, ejs5, h⟩ := bd_1 h
  obtain ⟨sh6, esh6, h⟩ := bd_1 h
  obtain ⟨μ7, eμ7, h⟩ := bd_1 h
  rw [← en3]
  refine s_nsm (n' := n3) (sh' := sh6) (μ' := μ7) ⟨rfl, esh6, eμ7⟩ ?_
  refine s_as (kc' := kc4) (js' := js5) (pc' := 9) (st' := [vr n3, vr v0]) ⟨ekc4, ejs5, rfl, rfl⟩ ?_
  obtain ⟨g8, h⟩ := gd_1 h
  refine s_putFR (pc := 9) (k := 1) cl_7 d_X7_init_9 g8 (by decide) w_661 rfl rfl rfl (rt_arr _) ?_
  obtain ⟨μ9, eμ9, h⟩ := bd_1 h
  refine s_mu eμ9 ?_
  refine s_aload_n (pc := 12) d_X7_init_12 rfl rfl ?_
  refine s_iconst (pc := 13) (v := 2) d_X7_init_13 (by decide) ?_
  obtain ⟨g10, h⟩ := gd_1 h
  refine s_newa (pc := 14) (kd := 8) (ty := .int) (N := 2) (Or.inl ⟨rfl, rfl⟩) d_X7_init_14 rfl w_48 (by decide) (by decide) (by decide) (roomB_eq g10) ?_
  obtain ⟨n11, en11, h⟩ := bd_1 h
  obtain ⟨kc12, ekc12, h⟩ := bd_1 h
  obtain ⟨js13, ejs13, h⟩ := bd_1 h
  obtain ⟨sh14, esh14, h⟩ := bd_1 h
  obtain ⟨μ15, eμ15, h⟩ := bd_1 h
  rw [← en11]
  refine s_nsm (n' := n11) (sh' := sh14) (μ' := μ15) ⟨rfl, esh14, eμ15⟩ ?_
  refine s_as (kc' := kc12) (js' := js13) (pc' := 16) (st' := [vr n11, vr v0]) ⟨ekc12, ejs13, rfl, rfl⟩ ?_
  obtain ⟨g16, h⟩ := gd_1 h
  refine s_putFR (pc := 16) (k := 7) cl_7 d_X7_init_16 g16 (by decide) w_667 rfl rfl rfl (rt_arr _) ?_
  obtain ⟨μ17, eμ17, h⟩ := bd_1 h
  refine s_mu eμ17 ?_
  refine s_aload_n (pc := 19) d_X7_init_19 rfl rfl ?_
  refine s_iconst (pc := 20) (v := 2) d_X7_init_20 (by decide) ?_
  obtain ⟨g18, h⟩ := gd_1 h
  refine s_newa (pc := 21) (kd := 8) (ty := .int) (N := 2) (Or.inl ⟨rfl, rfl⟩) d_X7_init_21 rfl w_48 (by decide) (by decide) (by decide) (roomB_eq g18) ?_
  obtain ⟨n19, en19, h⟩ := bd_1 h
  obtain ⟨kc20, ekc20, h⟩ := bd_1 h
  obtain ⟨js21, ejs21, h⟩ := bd_1 h
  obtain ⟨sh22, esh22, h⟩ := bd_1 h
  obtain ⟨μ23, eμ23, h⟩ := bd_1 h
  rw [← en19]
  refine s_nsm (n' := n19) (sh' := sh22) (μ' := μ23) ⟨rfl, esh22, eμ23⟩ ?_
  refine s_as (kc' := kc20) (js' := js21) (pc' := 23) (st' := [vr n19, vr v0]) ⟨ekc20, ejs21, rfl, rfl⟩ ?_
  obtain ⟨g24, h⟩ := gd_1 h
  refine s_putFR (pc := 23) (k := 8) cl_7 d_X7_init_23 g24 (by decide) w_668 rfl rfl rfl (rt_arr _) ?_
  obtain ⟨μ25, eμ25, h⟩ := bd_1 h
  refine s_mu eμ25 ?_
  refine s_aload_n (pc := 26) d_X7_init_26 rfl rfl ?_
  refine s_iconst (pc := 27) (v := 5) d_X7_init_27 (by decide) ?_
  obtain ⟨g26, h⟩ := gd_1 h
  refine s_newa (pc := 28) (kd := 8) (ty := .int) (N := 5) (Or.inl ⟨rfl, rfl⟩) d_X7_init_28 rfl w_48 (by decide) (by decide) (by decide) (roomB_eq g26) ?_
  obtain ⟨n27, en27, h⟩ := bd_1 h
  obtain ⟨kc28, ekc28, h⟩ := bd_1 h
  obtain ⟨js29, ejs29, h⟩ := bd_1 h
  obtain ⟨sh30, esh30, h⟩ := bd_1 h
  obtain ⟨μ31, eμ31, h⟩ := bd_1 h
  rw [← en27]
  refine s_nsm (n' := n27) (sh' := sh30) (μ' := μ31) ⟨rfl, esh30, eμ31⟩ ?_
  refine s_as (kc' := kc28) (js' := js29) (pc' := 30) (st' := [vr n27, vr v0]) ⟨ekc28, ejs29, rfl, rfl⟩ ?_
  obtain ⟨g32, h⟩ := gd_1 h
  refine s_putFR (pc := 30) (k := 9) cl_7 d_X7_init_30 g32 (by decide) w_669 rfl rfl rfl (rt_arr _) ?_
  obtain ⟨μ33, eμ33, h⟩ := bd_1 h
  refine s_mu eμ33 ?_
  refine s_aload_n (pc := 33) d_X7_init_33 rfl rfl ?_
  refine s_iconst (pc := 34) (v := 2) d_X7_init_34 (by decide) ?_
  obtain ⟨g34, h⟩ := gd_1 h
  refine s_newa (pc := 35) (kd := 8) (ty := .int) (N := 2) (Or.inl ⟨rfl, rfl⟩) d_X7_init_35 rfl w_48 (by decide) (by decide) (by decide) (roomB_eq g34) ?_
  obtain ⟨n35, en35, h⟩ := bd_1 h
  obtain ⟨kc36, ekc36, h⟩ := bd_1 h
  obtain ⟨js37, ejs37, h⟩ := bd_1 h
  obtain ⟨sh38, esh38, h⟩ := bd_1 h
  obtain ⟨μ39, eμ39, h⟩ := bd_1 h
  rw [← en35]
  refine s_nsm (n' := n35) (sh' := sh38) (μ' := μ39) ⟨rfl, esh38, eμ39⟩ ?_
  refine s_as (kc' := kc36) (js' := js37) (pc' := 37) (st' := [vr n35, vr v0]) ⟨ekc36, ejs37, rfl, rfl⟩ ?_
  obtain ⟨g40, h⟩ := gd_1 h
  refine s_putFR (pc := 37) (k := 13) cl_7 d_X7_init_37 g40 (by decide) w_673 rfl rfl rfl (rt_arr _) ?_
  obtain ⟨μ41, eμ41, h⟩ := bd_1 h
  refine s_mu eμ41 ?_
  refine s_aload_n (pc := 40) d_X7_init_40 rfl rfl ?_
  refine s_iconst (pc := 41) (v := 2) d_X7_init_41 (by decide) ?_
  obtain ⟨g42, h⟩ := gd_1 h
  refine s_newa (pc := 42) (kd := 8) (ty := .int) (N := 2) (Or.inl ⟨rfl, rfl⟩) d_X7_init_42 rfl w_48 (by decide) (by decide) (by decide) (roomB_eq g42) ?_
  obtain ⟨n43, en43, h⟩ := bd_1 h
  obtain ⟨kc44, ekc44, h⟩ := bd_1 h
  obtain ⟨js45, ejs45, h⟩ := bd_1 h
  obtain ⟨sh46, esh46, h⟩ := bd_1 h
  obtain ⟨μ47, eμ47, h⟩ := bd_1 h
  rw [← en43]
  refine s_nsm (n' := n43) (sh' := sh46) (μ' := μ47) ⟨rfl, esh46, eμ47⟩ ?_
  refine s_as (kc' := kc44) (js' := js45) (pc' := 44) (st' := [vr n43, vr v0]) ⟨ekc44, ejs45, rfl, rfl⟩ ?_
  obtain ⟨g48, h⟩ := gd_1 h
  refine s_putFR (pc := 44) (k := 14) cl_7 d_X7_init_44 g48 (by decide) w_674 rfl rfl rfl (rt_arr _) ?_
  obtain ⟨μ49, eμ49, h⟩ := bd_1 h
  refine s_mu eμ49 ?_
  refine s_aload_n (pc := 47) d_X7_init_47 rfl rfl ?_
  refine s_iconst (pc := 48) (v := 5) d_X7_init_48 (by decide) ?_
  obtain ⟨g50, h⟩ := gd_1 h
  refine s_newa (pc := 49) (kd := 8) (ty := .int) (N := 5) (Or.inl ⟨rfl, rfl⟩) d_X7_init_49 rfl w_48 (by decide) (by decide) (by decide) (roomB_eq g50) ?_
  obtain ⟨n51, en51, h⟩ := bd_1 h
  obtain ⟨kc52, ekc52, h⟩ := bd_1 h
  obtain ⟨js53, ejs53, h⟩ := bd_1 h
  obtain ⟨sh54, esh54, h⟩ := bd_1 h
  obtain ⟨μ55, eμ55, h⟩ := bd_1 h
  rw [← en51]
  refine s_nsm (n' := n51) (sh' := sh54) (μ' := μ55) ⟨rfl, esh54, eμ55⟩ ?_
  refine s_as (kc' := kc52) (js' := js53) (pc' := 51) (st' := [vr n51, vr v0]) ⟨ekc52, ejs53, rfl, rfl⟩ ?_
  obtain ⟨g56, h⟩ := gd_1 h
  refine s_putFR (pc := 51) (k := 15) cl_7 d_X7_init_51 g56 (by decide) w_675 rfl rfl rfl (rt_arr _) ?_
  obtain ⟨μ57, eμ57, h⟩ := bd_1 h
  refine s_mu eμ57 ?_
  refine s_aload_n (pc := 54) d_X7_init_54 rfl rfl ?_
  refine s_sipush (pc := 55) (v := 205) d_X7_init_55 (by decide) ?_
  obtain ⟨g58, h⟩ := gd_1 h
  refine s_newa (pc := 58) (kd := 8) (ty := .int) (N := 205) (Or.inl ⟨rfl, rfl⟩) d_X7_init_58 rfl w_48 (by decide) (by decide) (by decide) (roomB_eq g58) ?_
  obtain ⟨n59, en59, h⟩ := bd_1 h
  obtain ⟨kc60, ekc60, h⟩ := bd_1 h
  obtain ⟨js61, ejs61, h⟩ := bd_1 h
  obtain ⟨sh62, esh62, h⟩ := bd_1 h
  obtain ⟨μ63, eμ63, h⟩ := bd_1 h
  rw [← en59]
  refine s_nsm (n' := n59) (sh' := sh62) (μ' := μ63) ⟨rfl, esh62, eμ63⟩ ?_
  refine s_as (kc' := kc60) (js' := js61) (pc' := 60) (st' := [vr n59, vr v0]) ⟨ekc60, ejs61, rfl, rfl⟩ ?_
  obtain ⟨g64, h⟩ := gd_1 h
  refine s_putFR (pc := 60) (k := 16) cl_7 d_X7_init_60 g64 (by decide) w_676 rfl rfl rfl (rt_arr _) ?_
  obtain ⟨μ65, eμ65, h⟩ := bd_1 h
  refine s_mu eμ65 ?_
  refine s_aload_n (pc := 63) d_X7_init_63 rfl rfl ?_
  refine s_sipush (pc := 64) (v := 2460) d_X7_init_64 (by decide) ?_
  obtain ⟨g66, h⟩ := gd_1 h
  refine s_newa (pc := 67) (kd := 8) (ty := .int) (N := 2460) (Or.inl ⟨rfl, rfl⟩) d_X7_init_67 rfl w_48 (by decide) (by decide) (by decide) (roomB_eq g66) ?_
  obtain ⟨n67, en67, h⟩ := bd_1 h
  obtain ⟨kc68, ekc68, h⟩ := bd_1 h
  obtain ⟨js69, ejs69, h⟩ := bd_1 h
  obtain ⟨sh70, esh70, h⟩ := bd_1 h
  obtain ⟨μ71, eμ71, h⟩ := bd_1 h
  rw [← en67]
  refine s_nsm (n' := n67) (sh' := sh70) (μ' := μ71) ⟨rfl, esh70, eμ71⟩ ?_
  refine s_as (kc' := kc68) (js' := js69) (pc' := 69) (st' := [vr n67, vr v0]) ⟨ekc68, ejs69, rfl, rfl⟩ ?_
  obtain ⟨g72, h⟩ := gd_1 h
  refine s_putFR (pc := 69) (k := 18) cl_7 d_X7_init_69 g72 (by decide) w_678 rfl rfl rfl (rt_arr _) ?_
  obtain ⟨μ73, eμ73, h⟩ := bd_1 h
  refine s_mu eμ73 ?_
  refine s_aload_n (pc := 72) d_X7_init_72 rfl rfl ?_
  refine s_bipush (pc := 73) (v := 12) d_X7_init_73 (by decide) ?_
  obtain ⟨g74, h⟩ := gd_1 h
  refine s_newa (pc := 75) (kd := 9) (ty := .long) (N := 12) (Or.inr (Or.inl ⟨rfl, rfl⟩)) d_X7_init_75 rfl w_748 (by decide) (by decide) (by decide) (roomB_eq g74) ?_
  obtain ⟨n75, en75, h⟩ := bd_1 h
  obtain ⟨kc76, ekc76, h⟩ := bd_1 h
  obtain ⟨js77, ejs77, h⟩ := bd_1 h
  obtain ⟨sh78, esh78, h⟩ := bd_1 h
  obtain ⟨μ79, eμ79, h⟩ := bd_1 h
  rw [← en75]
  refine s_nsm (n' := n75) (sh' := sh78) (μ' := μ79) ⟨rfl, esh78, eμ79⟩ ?_
  refine s_as (kc' := kc76) (js' := js77) (pc' := 77) (st' := [vr n75, vr v0]) ⟨ekc76, ejs77, rfl, rfl⟩ ?_
  obtain ⟨g80, h⟩ := gd_1 h
  refine s_putFR (pc := 77) (k := 19) cl_7 d_X7_init_77 g80 (by decide) w_679 rfl rfl rfl (rt_arr _) ?_
  obtain ⟨μ81, eμ81, h⟩ := bd_1 h
  refine s_mu eμ81 ?_
  refine s_aload_n (pc := 80) d_X7_init_80 rfl rfl ?_
  refine s_sipush (pc := 81) (v := 410) d_X7_init_81 (by decide) ?_
  obtain ⟨g82, h⟩ := gd_1 h
  refine s_newa (pc := 84) (kd := 8) (ty := .int) (N := 410) (Or.inl ⟨rfl, rfl⟩) d_X7_init_84 rfl w_48 (by decide) (by decide) (by decide) (roomB_eq g82) ?_
  obtain ⟨n83, en83, h⟩ := bd_1 h
  obtain ⟨kc84, ekc84, h⟩ := bd_1 h
  obtain ⟨js85, ejs85, h⟩ := bd_1 h
  obtain ⟨sh86, esh86, h⟩ := bd_1 h
  obtain ⟨μ87, eμ87, h⟩ := bd_1 h
  rw [← en83]
  refine s_nsm (n' := n83) (sh' := sh86) (μ' := μ87) ⟨rfl, esh86, eμ87⟩ ?_
  refine s_as (kc' := kc84) (js' := js85) (pc' := 86) (st' := [vr n83, vr v0]) ⟨ekc84, ejs85, rfl, rfl⟩ ?_
  obtain ⟨g88, h⟩ := gd_1 h
  refine s_putFR (pc := 86) (k := 21) cl_7 d_X7_init_86 g88 (by decide) w_681 rfl rfl rfl (rt_arr _) ?_
  obtain ⟨μ89, eμ89, h⟩ := bd_1 h
  refine s_mu eμ89 ?_
  refine s_aload_n (pc := 89) d_X7_init_89 rfl rfl ?_
  refine s_iconst (pc := 90) (v := 2) d_X7_init_90 (by decide) ?_
  obtain ⟨g90, h⟩ := gd_1 h
  refine s_newa (pc := 91) (kd := 9) (ty := .long) (N := 2) (Or.inr (Or.inl ⟨rfl, rfl⟩)) d_X7_init_91 rfl w_748 (by decide) (by decide) (by decide) (roomB_eq g90) ?_
  obtain ⟨n91, en91, h⟩ := bd_1 h
  obtain ⟨kc92, ekc92, h⟩ := bd_1 h
  obtain ⟨js93, ejs93, h⟩ := bd_1 h
  obtain ⟨sh94, esh94, h⟩ := bd_1 h
  obtain ⟨μ95, eμ95, h⟩ := bd_1 h
  rw [← en91]
  refine s_nsm (n' := n91) (sh' := sh94) (μ' := μ95) ⟨rfl, esh94, eμ95⟩ ?_
  refine s_as (kc' := kc92) (js' := js93) (pc' := 93) (st' := [vr n91, vr v0]) ⟨ekc92, ejs93, rfl, rfl⟩ ?_
  obtain ⟨g96, h⟩ := gd_1 h
  refine s_putFR (pc := 93) (k := 22) cl_7 d_X7_init_93 g96 (by decide) w_682 rfl rfl rfl (rt_arr _) ?_
  obtain ⟨μ97, eμ97, h⟩ := bd_1 h
  refine s_mu eμ97 ?_
  refine s_aload_n (pc := 96) d_X7_init_96 rfl rfl ?_
  refine s_iconst (pc := 97) (v := 2) d_X7_init_97 (by decide) ?_
  obtain ⟨g98, h⟩ := gd_1 h
  refine s_newa (pc := 98) (kd := 10) (ty := .boolean) (N := 2) (Or.inr (Or.inr ⟨rfl, rfl⟩)) d_X7_init_98 rfl w_173 (by decide) (by decide) (by decide) (roomB_eq g98) ?_
  obtain ⟨n99, en99, h⟩ := bd_1 h
  obtain ⟨kc100, ekc100, h⟩ := bd_1 h
  obtain ⟨js101, ejs101, h⟩ := bd_1 h
  obtain ⟨sh102, esh102, h⟩ := bd_1 h
  obtain ⟨μ103, eμ103, h⟩ := bd_1 h
  rw [← en99]
  refine s_nsm (n' := n99) (sh' := sh102) (μ' := μ103) ⟨rfl, esh102, eμ103⟩ ?_
  refine s_as (kc' := kc100) (js' := js101) (pc' := 100) (st' := [vr n99, vr v0]) ⟨ekc100, ejs101, rfl, rfl⟩ ?_
  obtain ⟨g104, h⟩ := gd_1 h
  refine s_putFR (pc := 100) (k := 23) cl_7 d_X7_init_100 g104 (by decide) w_683 rfl rfl rfl (rt_arr _) ?_
  obtain ⟨μ105, eμ105, h⟩ := bd_1 h
  refine s_mu eμ105 ?_
  refine s_aload_n (pc := 103) d_X7_init_103 rfl rfl ?_
  refine s_sipush (pc := 104) (v := 256) d_X7_init_104 (by decide) ?_
  obtain ⟨g106, h⟩ := gd_1 h
  refine s_newa (pc := 107) (kd := 8) (ty := .int) (N := 256) (Or.inl ⟨rfl, rfl⟩) d_X7_init_107 rfl w_48 (by decide) (by decide) (by decide) (roomB_eq g106) ?_
  obtain ⟨n107, en107, h⟩ := bd_1 h
  obtain ⟨kc108, ekc108, h⟩ := bd_1 h
  obtain ⟨js109, ejs109, h⟩ := bd_1 h
  obtain ⟨sh110, esh110, h⟩ := bd_1 h
  obtain ⟨μ111, eμ111, h⟩ := bd_1 h
  rw [← en107]
  refine s_nsm (n' := n107) (sh' := sh110) (μ' := μ111) ⟨rfl, esh110, eμ111⟩ ?_
  refine s_as (kc' := kc108) (js' := js109) (pc' := 109) (st' := [vr n107, vr v0]) ⟨ekc108, ejs109, rfl, rfl⟩ ?_
  obtain ⟨g112, h⟩ := gd_1 h
  refine s_putFR (pc := 109) (k := 24) cl_7 d_X7_init_109 g112 (by decide) w_684 rfl rfl rfl (rt_arr _) ?_
  obtain ⟨μ113, eμ113, h⟩ := bd_1 h
  refine s_mu eμ113 ?_
  refine s_aload_n (pc := 112) d_X7_init_112 rfl rfl ?_
  refine s_sipush (pc := 113) (v := 256) d_X7_init_113 (by decide) ?_
  obtain ⟨g114, h⟩ := gd_1 h
  refine s_newa (pc := 116) (kd := 8) (ty := .int) (N := 256) (Or.inl ⟨rfl, rfl⟩) d_X7_init_116 rfl w_48 (by decide) (by decide) (by decide) (roomB_eq g114) ?_
  obtain ⟨n115, en115, h⟩ := bd_1 h
  obtain ⟨kc116, ekc116, h⟩ := bd_1 h
  obtain ⟨js117, ejs117, h⟩ := bd_1 h
  obtain ⟨sh118, esh118, h⟩ := bd_1 h
  obtain ⟨μ119, eμ119, h⟩ := bd_1 h
  rw [← en115]
  refine s_nsm (n' := n115) (sh' := sh118) (μ' := μ119) ⟨rfl, esh118, eμ119⟩ ?_
  refine s_as (kc' := kc116) (js' := js117) (pc' := 118) (st' := [vr n115, vr v0]) ⟨ekc116, ejs117, rfl, rfl⟩ ?_
  obtain ⟨g120, h⟩ := gd_1 h
  refine s_putFR (pc := 118) (k := 25) cl_7 d_X7_init_118 g120 (by decide) w_685 rfl rfl rfl (rt_arr _) ?_
  obtain ⟨μ121, eμ121, h⟩ := bd_1 h
  refine s_mu eμ121 ?_
  refine s_aload_n (pc := 121) d_X7_init_121 rfl rfl ?_
  refine s_bipush (pc := 122) (v := 6) d_X7_init_122 (by decide) ?_
  obtain ⟨g122, h⟩ := gd_1 h
  refine s_newa (pc := 124) (kd := 8) (ty := .int) (N := 6) (Or.inl ⟨rfl, rfl⟩) d_X7_init_124 rfl w_48 (by decide) (by decide) (by decide) (roomB_eq g122) ?_
  obtain ⟨n123, en123, h⟩ := bd_1 h
  obtain ⟨kc124, ekc124, h⟩ := bd_1 h
  obtain ⟨js125, ejs125, h⟩ := bd_1 h
  obtain ⟨sh126, esh126, h⟩ := bd_1 h
  obtain ⟨μ127, eμ127, h⟩ := bd_1 h
  rw [← en123]
  refine s_nsm (n' := n123) (sh' := sh126) (μ' := μ127) ⟨rfl, esh126, eμ127⟩ ?_
  refine s_as (kc' := kc124) (js' := js125) (pc' := 126) (st' := [vr n123, vr v0]) ⟨ekc124, ejs125, rfl, rfl⟩ ?_
  obtain ⟨g128, h⟩ := gd_1 h
  refine s_putFR (pc := 126) (k := 26) cl_7 d_X7_init_126 g128 (by decide) w_686 rfl rfl rfl (rt_arr _) ?_
  obtain ⟨μ129, eμ129, h⟩ := bd_1 h
  refine s_mu eμ129 ?_
  refine s_aload_n (pc := 129) d_X7_init_129 rfl rfl ?_
  refine s_bipush (pc := 130) (v := 6) d_X7_init_130 (by decide) ?_
  obtain ⟨g130, h⟩ := gd_1 h
  refine s_newa (pc := 132) (kd := 8) (ty := .int) (N := 6) (Or.inl ⟨rfl, rfl⟩) d_X7_init_132 rfl w_48 (by decide) (by decide) (by decide) (roomB_eq g130) ?_
  obtain ⟨n131, en131, h⟩ := bd_1 h
  obtain ⟨kc132, ekc132, h⟩ := bd_1 h
  obtain ⟨js133, ejs133, h⟩ := bd_1 h
  obtain ⟨sh134, esh134, h⟩ := bd_1 h
  obtain ⟨μ135, eμ135, h⟩ := bd_1 h
  rw [← en131]
  refine s_nsm (n' := n131) (sh' := sh134) (μ' := μ135) ⟨rfl, esh134, eμ135⟩ ?_
  refine s_as (kc' := kc132) (js' := js133) (pc' := 134) (st' := [vr n131, vr v0]) ⟨ekc132, ejs133, rfl, rfl⟩ ?_
  obtain ⟨g136, h⟩ := gd_1 h
  refine s_putFR (pc := 134) (k := 28) cl_7 d_X7_init_134 g136 (by decide) w_688 rfl rfl rfl (rt_arr _) ?_
  obtain ⟨μ137, eμ137, h⟩ := bd_1 h
  refine s_mu eμ137 ?_
  refine s_aload_n (pc := 137) d_X7_init_137 rfl rfl ?_
  obtain ⟨μ138, eμ138, h⟩ := ca_1 h
  obtain ⟨g139, h⟩ := gd_1 h
  refine s_callV (pc := 138) (as := []) (st := []) (vo := []) (t_X7_begin eμ138) cl_7 g136 d_X7_init_138 y_X7_begin w_656 w_658 w_s10 ⟨by decide, by decide⟩ (roomB_eq g139) (Nat.le_of_ble_eq_true rfl) rfl rfl rfl ?_
  refine s_as (kc' := kc132) (js' := js133) (pc' := 141) (st' := []) ⟨rfl, rfl, rfl, rfl⟩ ?_
  obtain ⟨g140, h⟩ := gd_1 h
  obtain ⟨ez1, ez2⟩ := eqB_eq g140
  obtain rfl := Option.some.inj h
  refine s_as (kc' := 17) (js' := 3657) (pc' := 141) (st' := []) ⟨ez1.symm, ez2.symm, rfl, rfl⟩ ?_
  exact s_vret (pc := 141) d_X7_init_141 rfl

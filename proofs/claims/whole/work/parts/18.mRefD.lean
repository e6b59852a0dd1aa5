/-! StripsOfFourModel.orderAt -/
abbrev c_X7_orderAt : Cf := (prog_9_method_47_code, 2, "StripsOfFourModel", "orderAt", (some .int), { frames := 4, cells := 0, slots := 0, locals := 94 })
theorem d_X7_orderAt_0 : decode prog_9_method_47_code 0 = .ok (.aload_n 0, 1) := by decide +kernel
theorem d_X7_orderAt_1 : decode prog_9_method_47_code 1 = .ok (.iconst 0, 1) := by decide +kernel
theorem d_X7_orderAt_2 : decode prog_9_method_47_code 2 = .ok (.putfield 66, 3) := by decide +kernel
theorem d_X7_orderAt_5 : decode prog_9_method_47_code 5 = .ok (.aload_n 0, 1) := by decide +kernel
theorem d_X7_orderAt_6 : decode prog_9_method_47_code 6 = .ok (.iload_n 1, 1) := by decide +kernel
theorem d_X7_orderAt_7 : decode prog_9_method_47_code 7 = .ok (.invokevirtual 138, 3) := by decide +kernel
theorem d_X7_orderAt_10 : decode prog_9_method_47_code 10 = .ok (.ifCond .eq 5, 3) := by decide +kernel
theorem d_X7_orderAt_13 : decode prog_9_method_47_code 13 = .ok (.iconst (-1), 1) := by decide +kernel
theorem d_X7_orderAt_14 : decode prog_9_method_47_code 14 = .ok (.ireturn, 1) := by decide +kernel
theorem d_X7_orderAt_15 : decode prog_9_method_47_code 15 = .ok (.aload_n 0, 1) := by decide +kernel
theorem d_X7_orderAt_16 : decode prog_9_method_47_code 16 = .ok (.getfield 31, 3) := by decide +kernel
theorem d_X7_orderAt_19 : decode prog_9_method_47_code 19 = .ok (.sipush 202, 3) := by decide +kernel
theorem d_X7_orderAt_22 : decode prog_9_method_47_code 22 = .ok (.iaload, 1) := by decide +kernel
theorem d_X7_orderAt_23 : decode prog_9_method_47_code 23 = .ok (.bipush 6, 2) := by decide +kernel
theorem d_X7_orderAt_25 : decode prog_9_method_47_code 25 = .ok (.if_icmp .le 6, 3) := by decide +kernel
theorem d_X7_orderAt_28 : decode prog_9_method_47_code 28 = .ok (.bipush (-3), 2) := by decide +kernel
theorem d_X7_orderAt_30 : decode prog_9_method_47_code 30 = .ok (.ireturn, 1) := by decide +kernel
theorem d_X7_orderAt_31 : decode prog_9_method_47_code 31 = .ok (.aload_n 0, 1) := by decide +kernel
theorem d_X7_orderAt_32 : decode prog_9_method_47_code 32 = .ok (.invokevirtual 190, 3) := by decide +kernel
theorem d_X7_orderAt_35 : decode prog_9_method_47_code 35 = .ok (.aload_n 0, 1) := by decide +kernel
theorem d_X7_orderAt_36 : decode prog_9_method_47_code 36 = .ok (.getfield 60, 3) := by decide +kernel
theorem d_X7_orderAt_39 : decode prog_9_method_47_code 39 = .ok (.iload_n 1, 1) := by decide +kernel
theorem d_X7_orderAt_40 : decode prog_9_method_47_code 40 = .ok (.iaload, 1) := by decide +kernel
theorem d_X7_orderAt_41 : decode prog_9_method_47_code 41 = .ok (.ireturn, 1) := by decide +kernel
def m_X7_orderAt (sh : Sh) (v0 : Nat) (v1 : Int32) (μ : Mu) : Option (Int32 × Mu) :=
  gd (iz sh 7 v0) <|
  bd (sI μ v0 0 0) fun μ2 =>
  ca2 (m_X7_noStrip sh v0 v1 μ2) fun r3 μ4 =>
  if r3 = 0 then
    bd (gR μ4 v0 16) fun a6 =>
    gd (ix sh 8 a6 202) <|
    bd (gI μ4 a6 (202 : Int32).toNatClampNeg) fun w8 =>
    if w8 ≤ 6 then
      ca (m_X7_layOrders sh v0 μ4) fun μ10 =>
      bd (gR μ10 v0 28) fun a11 =>
      gd (ix sh 8 a11 v1) <|
      bd (gI μ10 a11 v1.toNatClampNeg) fun w13 =>
      some (w13, μ10)
    else
      some ((-3), μ4)
  else
    some ((-1), μ4)
set_option maxHeartbeats 4000000 in
set_option maxRecDepth 20000 in
theorem t_X7_orderAt {l : Launch} {G : Gl} {n : Nat} {sh : Sh} {x : Int32 × Mu} {v0 : Nat} {v1 : Int32} {μ : Mu} (h : m_X7_orderAt sh v0 v1 μ = some x) : Ct l G ⟨"StripsOfFourModel", "orderAt", "(I)I"⟩ prog_9_method_47_code 2 (some .int) { frames := 4, cells := 0, slots := 0, locals := 94 } n sh μ [vr v0, vi v1] (some (.int x.1)) n sh x.2 := by
  refine Ct.of (lc := [some (vr v0), some (vi v1)]) (by decide +kernel) (Nat.le_of_ble_eq_true rfl) rfl ?_
  show Sj l G (QI G n sh x) c_X7_orderAt n sh 0 0 μ 0 [some (vr v0), some (vi v1)] []
  unfold m_X7_orderAt at h
  refine s_aload_n (pc := 0) d_X7_orderAt_0 rfl rfl ?_
  refine s_iconst (pc := 1) (v := 0) d_X7_orderAt_1 (by decide) ?_
  obtain ⟨g1, h⟩ := gd_1 h
  refine s_putI (pc := 2) (k := 0) cl_7 d_X7_orderAt_2 g1 (by decide) w_660 rfl rfl ?_
  obtain ⟨μ2, eμ2, h⟩ := bd_1 h
  refine s_mu eμ2 ?_
  refine s_aload_n (pc := 5) d_X7_orderAt_5 rfl rfl ?_
  refine s_iload_n (pc := 6) d_X7_orderAt_6 rfl rfl ?_
  obtain ⟨r3, μ4, er3, h⟩ := ca2_1 h
  refine s_callV (pc := 7) (as := [vi v1]) (st := []) (vo := [vi r3]) (t_X7_noStrip er3) cl_7 g1 d_X7_orderAt_7 y_X7_noStrip w_822 w_824 w_s20 ⟨by decide, by decide⟩ ⟨Nat.le_of_ble_eq_true rfl, Nat.le_of_ble_eq_true rfl⟩ (Nat.le_of_ble_eq_true rfl) rfl rfl rfl ?_
  refine s_as (kc' := 0) (js' := 0) (pc' := 10) (st' := [vi r3]) ⟨rfl, rfl, rfl, rfl⟩ ?_
  refine s_if_eq (pc := 10) (tgt := 15) d_X7_orderAt_10 (by decide) (fun c5 => ?_) (fun c5 => ?_)
  · have h := it_t c5 h
    refine s_aload_n (pc := 15) d_X7_orderAt_15 rfl rfl ?_
    refine s_getR (pc := 16) (k := 16) cl_7 d_X7_orderAt_16 g1 (by decide) w_676 (rt_arr _) ?_
    obtain ⟨a6, ea6, h⟩ := bd_1 h
    refine s_topR ea6 ?_
    refine s_sipush (pc := 19) (v := 202) d_X7_orderAt_19 (by decide) ?_
    obtain ⟨g7, h⟩ := gd_1 h
    refine s_iald (pc := 22) d_X7_orderAt_22 g7 ?_
    obtain ⟨w8, ew8, h⟩ := bd_1 h
    refine s_topI ew8 ?_
    refine s_bipush (pc := 23) (v := 6) d_X7_orderAt_23 (by decide) ?_
    refine s_icmp_le (pc := 25) (tgt := 31) d_X7_orderAt_25 (by decide) (fun c9 => ?_) (fun c9 => ?_)
    · have h := it_t c9 h
      refine s_aload_n (pc := 31) d_X7_orderAt_31 rfl rfl ?_
      obtain ⟨μ10, eμ10, h⟩ := ca_1 h
      refine s_callV (pc := 32) (as := []) (st := []) (vo := []) (t_X7_layOrders eμ10) cl_7 g1 d_X7_orderAt_32 y_X7_layOrders w_914 w_916 w_s25 ⟨by decide, by decide⟩ ⟨Nat.le_of_ble_eq_true rfl, Nat.le_of_ble_eq_true rfl⟩ (Nat.le_of_ble_eq_true rfl) rfl rfl rfl ?_
      refine s_as (kc' := 0) (js' := 0) (pc' := 35) (st' := []) ⟨rfl, rfl, rfl, rfl⟩ ?_
      refine s_aload_n (pc := 35) d_X7_orderAt_35 rfl rfl ?_
      refine s_getR (pc := 36) (k := 28) cl_7 d_X7_orderAt_36 g1 (by decide) w_688 (rt_arr _) ?_
      obtain ⟨a11, ea11, h⟩ := bd_1 h
      refine s_topR ea11 ?_
      refine s_iload_n (pc := 39) d_X7_orderAt_39 rfl rfl ?_
      obtain ⟨g12, h⟩ := gd_1 h
      refine s_iald (pc := 40) d_X7_orderAt_40 g12 ?_
      obtain ⟨w13, ew13, h⟩ := bd_1 h
      refine s_topI ew13 ?_
      obtain rfl := Option.some.inj h
      exact s_iret (pc := 41) d_X7_orderAt_41 rfl
    · have h := it_f c9 h
      refine s_bipush (pc := 28) (v := (-3)) d_X7_orderAt_28 (by decide) ?_
      obtain rfl := Option.some.inj h
      exact s_iret (pc := 30) d_X7_orderAt_30 rfl
  · have h := it_f c5 h
    refine s_iconst (pc := 13) (v := (-1)) d_X7_orderAt_13 (by decide) ?_
    obtain rfl := Option.some.inj h
    exact s_iret (pc := 14) d_X7_orderAt_14 rfl
/-! StripsOfFourModel.orders -/
abbrev c_X7_orders : Cf := (prog_9_method_46_code, 1, "StripsOfFourModel", "orders", (some .int), { frames := 4, cells := 0, slots := 0, locals := 94 })
theorem d_X7_orders_0 : decode prog_9_method_46_code 0 = .ok (.aload_n 0, 1) := by decide +kernel
theorem d_X7_orders_1 : decode prog_9_method_46_code 1 = .ok (.iconst 0, 1) := by decide +kernel
theorem d_X7_orders_2 : decode prog_9_method_46_code 2 = .ok (.putfield 66, 3) := by decide +kernel
theorem d_X7_orders_5 : decode prog_9_method_46_code 5 = .ok (.aload_n 0, 1) := by decide +kernel
theorem d_X7_orders_6 : decode prog_9_method_46_code 6 = .ok (.getfield 31, 3) := by decide +kernel
theorem d_X7_orders_9 : decode prog_9_method_46_code 9 = .ok (.sipush 202, 3) := by decide +kernel
theorem d_X7_orders_12 : decode prog_9_method_46_code 12 = .ok (.iaload, 1) := by decide +kernel
theorem d_X7_orders_13 : decode prog_9_method_46_code 13 = .ok (.bipush 6, 2) := by decide +kernel
theorem d_X7_orders_15 : decode prog_9_method_46_code 15 = .ok (.if_icmp .le 6, 3) := by decide +kernel
theorem d_X7_orders_18 : decode prog_9_method_46_code 18 = .ok (.bipush (-3), 2) := by decide +kernel
theorem d_X7_orders_20 : decode prog_9_method_46_code 20 = .ok (.ireturn, 1) := by decide +kernel
theorem d_X7_orders_21 : decode prog_9_method_46_code 21 = .ok (.aload_n 0, 1) := by decide +kernel
theorem d_X7_orders_22 : decode prog_9_method_46_code 22 = .ok (.invokevirtual 190, 3) := by decide +kernel
theorem d_X7_orders_25 : decode prog_9_method_46_code 25 = .ok (.aload_n 0, 1) := by decide +kernel
theorem d_X7_orders_26 : decode prog_9_method_46_code 26 = .ok (.getfield 184, 3) := by decide +kernel
theorem d_X7_orders_29 : decode prog_9_method_46_code 29 = .ok (.ireturn, 1) := by decide +kernel
def m_X7_orders (sh : Sh) (v0 : Nat) (μ : Mu) : Option (Int32 × Mu) :=
  gd (iz sh 7 v0) <|
  bd (sI μ v0 0 0) fun μ2 =>
  bd (gR μ2 v0 16) fun a3 =>
  gd (ix sh 8 a3 202) <|
  bd (gI μ2 a3 (202 : Int32).toNatClampNeg) fun w5 =>
  if w5 ≤ 6 then
    ca (m_X7_layOrders sh v0 μ2) fun μ7 =>
    some (gI μ7 v0 27, μ7)
  else
    some ((-3), μ2)
set_option maxHeartbeats 4000000 in
set_option maxRecDepth 20000 in
theorem t_X7_orders {l : Launch} {G : Gl} {n : Nat} {sh : Sh} {x : Int32 × Mu} {v0 : Nat} {μ : Mu} (h : m_X7_orders sh v0 μ = some x) : Ct l G ⟨"StripsOfFourModel", "orders", "()I"⟩ prog_9_method_46_code 1 (some .int) { frames := 4, cells := 0, slots := 0, locals := 94 } n sh μ [vr v0] (some (.int x.1)) n sh x.2 := by
  refine Ct.of (lc := [some (vr v0)]) (by decide +kernel) (Nat.le_of_ble_eq_true rfl) rfl ?_
  show Sj l G (QI G n sh x) c_X7_orders n sh 0 0 μ 0 [some (vr v0)] []
  unfold m_X7_orders at h
  refine s_aload_n (pc := 0) d_X7_orders_0 rfl rfl ?_
  refine s_iconst (pc := 1) (v := 0) d_X7_orders_1 (by decide) ?_
  obtain ⟨g1, h⟩ := gd_1 h
  refine s_putI (pc := 2) (k := 0) cl_7 d_X7_orders_2 g1 (by decide) w_660 rfl rfl ?_
  obtain ⟨μ2, eμ2, h⟩ := bd_1 h
  refine s_mu eμ2 ?_
  refine s_aload_n (pc := 5) d_X7_orders_5 rfl rfl ?_
  refine s_getR (pc := 6) (k := 16) cl_7 d_X7_orders_6 g1 (by decide) w_676 (rt_arr _) ?_
  obtain ⟨a3, ea3, h⟩ := bd_1 h
  refine s_topR ea3 ?_
  refine s_sipush (pc := 9) (v := 202) d_X7_orders_9 (by decide) ?_
  obtain ⟨g4, h⟩ := gd_1 h
  refine s_iald (pc := 12) d_X7_orders_12 g4 ?_
  obtain ⟨w5, ew5, h⟩ := bd_1 h
  refine s_topI ew5 ?_
  refine s_bipush (pc := 13) (v := 6) d_X7_orders_13 (by decide) ?_
  refine s_icmp_le (pc := 15) (tgt := 21) d_X7_orders_15 (by decide) (fun c6 => ?_) (fun c6 => ?_)
  · have h := it_t c6 h
    refine s_aload_n (pc := 21) d_X7_orders_21 rfl rfl ?_
    obtain ⟨μ7, eμ7, h⟩ := ca_1 h
    refine s_callV (pc := 22) (as := []) (st := []) (vo := []) (t_X7_layOrders eμ7) cl_7 g1 d_X7_orders_22 y_X7_layOrders w_914 w_916 w_s25 ⟨by decide, by decide⟩ ⟨Nat.le_of_ble_eq_true rfl, Nat.le_of_ble_eq_true rfl⟩ (Nat.le_of_ble_eq_true rfl) rfl rfl rfl ?_
    refine s_as (kc' := 0) (js' := 0) (pc' := 25) (st' := []) ⟨rfl, rfl, rfl, rfl⟩ ?_
    refine s_aload_n (pc := 25) d_X7_orders_25 rfl rfl ?_
    refine s_getI (pc := 26) (k := 27) cl_7 d_X7_orders_26 g1 (by decide) w_687 rfl ?_
    obtain rfl := Option.some.inj h
    exact s_iret (pc := 29) d_X7_orders_29 rfl
  · have h := it_f c6 h
    refine s_bipush (pc := 18) (v := (-3)) d_X7_orders_18 (by decide) ?_
    obtain rfl := Option.some.inj h
    exact s_iret (pc := 20) d_X7_orders_20 rfl
/-! StripsOfFourModel.person -/
abbrev c_X7_person : Cf := (prog_9_method_24_code, 3, "StripsOfFourModel", "person", (some .int), { frames := 2, cells := 0, slots := 0, locals := 46 })
theorem d_X7_person_0 : decode prog_9_method_24_code 0 = .ok (.aload_n 0, 1) := by decide +kernel
theorem d_X7_person_1 : decode prog_9_method_24_code 1 = .ok (.iconst 0, 1) := by decide +kernel
theorem d_X7_person_2 : decode prog_9_method_24_code 2 = .ok (.putfield 66, 3) := by decide +kernel
theorem d_X7_person_5 : decode prog_9_method_24_code 5 = .ok (.aload_n 0, 1) := by decide +kernel
theorem d_X7_person_6 : decode prog_9_method_24_code 6 = .ok (.iload_n 1, 1) := by decide +kernel
theorem d_X7_person_7 : decode prog_9_method_24_code 7 = .ok (.invokevirtual 133, 3) := by decide +kernel
theorem d_X7_person_10 : decode prog_9_method_24_code 10 = .ok (.ifCond .eq 5, 3) := by decide +kernel
theorem d_X7_person_13 : decode prog_9_method_24_code 13 = .ok (.iconst (-1), 1) := by decide +kernel
theorem d_X7_person_14 : decode prog_9_method_24_code 14 = .ok (.ireturn, 1) := by decide +kernel
theorem d_X7_person_15 : decode prog_9_method_24_code 15 = .ok (.iload_n 2, 1) := by decide +kernel
theorem d_X7_person_16 : decode prog_9_method_24_code 16 = .ok (.ifCond .ne 12, 3) := by decide +kernel
theorem d_X7_person_19 : decode prog_9_method_24_code 19 = .ok (.aload_n 0, 1) := by decide +kernel
theorem d_X7_person_20 : decode prog_9_method_24_code 20 = .ok (.getfield 19, 3) := by decide +kernel
theorem d_X7_person_23 : decode prog_9_method_24_code 23 = .ok (.iload_n 1, 1) := by decide +kernel
theorem d_X7_person_24 : decode prog_9_method_24_code 24 = .ok (.iaload, 1) := by decide +kernel
theorem d_X7_person_25 : decode prog_9_method_24_code 25 = .ok (.goto 32, 3) := by decide +kernel
theorem d_X7_person_28 : decode prog_9_method_24_code 28 = .ok (.iload_n 2, 1) := by decide +kernel
theorem d_X7_person_29 : decode prog_9_method_24_code 29 = .ok (.i2l, 1) := by decide +kernel
theorem d_X7_person_30 : decode prog_9_method_24_code 30 = .ok (.lconst 1, 1) := by decide +kernel
theorem d_X7_person_31 : decode prog_9_method_24_code 31 = .ok (.ldc2_w 136, 3) := by decide +kernel
theorem d_X7_person_34 : decode prog_9_method_24_code 34 = .ok (.invokestatic 73, 3) := by decide +kernel
theorem d_X7_person_37 : decode prog_9_method_24_code 37 = .ok (.ifCond .eq 18, 3) := by decide +kernel
theorem d_X7_person_40 : decode prog_9_method_24_code 40 = .ok (.aload_n 0, 1) := by decide +kernel
theorem d_X7_person_41 : decode prog_9_method_24_code 41 = .ok (.getfield 31, 3) := by decide +kernel
theorem d_X7_person_44 : decode prog_9_method_24_code 44 = .ok (.iconst 5, 1) := by decide +kernel
theorem d_X7_person_45 : decode prog_9_method_24_code 45 = .ok (.iload_n 2, 1) := by decide +kernel
theorem d_X7_person_46 : decode prog_9_method_24_code 46 = .ok (.iconst 1, 1) := by decide +kernel
theorem d_X7_person_47 : decode prog_9_method_24_code 47 = .ok (.isub, 1) := by decide +kernel
theorem d_X7_person_48 : decode prog_9_method_24_code 48 = .ok (.imul, 1) := by decide +kernel
theorem d_X7_person_49 : decode prog_9_method_24_code 49 = .ok (.iload_n 1, 1) := by decide +kernel
theorem d_X7_person_50 : decode prog_9_method_24_code 50 = .ok (.iadd, 1) := by decide +kernel
theorem d_X7_person_51 : decode prog_9_method_24_code 51 = .ok (.iaload, 1) := by decide +kernel
theorem d_X7_person_52 : decode prog_9_method_24_code 52 = .ok (.goto 5, 3) := by decide +kernel
theorem d_X7_person_55 : decode prog_9_method_24_code 55 = .ok (.bipush (-2), 2) := by decide +kernel
theorem d_X7_person_57 : decode prog_9_method_24_code 57 = .ok (.ireturn, 1) := by decide +kernel
def m_X7_person (sh : Sh) (v0 : Nat) (v1 : Int32) (v2 : Int32) (μ : Mu) : Option (Int32 × Mu) :=
  gd (iz sh 7 v0) <|
  bd (sI μ v0 0 0) fun μ2 =>
  ca2 (m_X7_noOne sh v0 v1 μ2) fun r3 μ4 =>
  if r3 = 0 then
    if v2 = 0 then
      bd (gR μ4 v0 9) fun a13 =>
      gd (ix sh 8 a13 v1) <|
      bd (gI μ4 a13 v1.toNatClampNeg) fun w15 =>
      some (w15, μ4)
    else
      ca2 (m_X7_in sh (v2.toInt64) 1 3 μ4) fun r7 μ8 =>
      if r7 = 0 then
        some ((-2), μ8)
      else
        bd (gR μ8 v0 16) fun a10 =>
        gd (ix sh 8 a10 ((5 * (v2 - 1)) + v1)) <|
        bd (gI μ8 a10 ((5 * (v2 - 1)) + v1).toNatClampNeg) fun w12 =>
        some (w12, μ8)
  else
    some ((-1), μ4)
set_option maxHeartbeats 4000000 in
set_option maxRecDepth 20000 in
theorem t_X7_person {l : Launch} {G : Gl} {n : Nat} {sh : Sh} {x : Int32 × Mu} {v0 : Nat} {v1 : Int32} {v2 : Int32} {μ : Mu} (h : m_X7_person sh v0 v1 v2 μ = some x) : Ct l G ⟨"StripsOfFourModel", "person", "(II)I"⟩ prog_9_method_24_code 3 (some .int) { frames := 2, cells := 0, slots := 0, locals := 46 } n sh μ [vr v0, vi v1, vi v2] (some (.int x.1)) n sh x.2 := by
  refine Ct.of (lc := [some (vr v0), some (vi v1), some (vi v2)]) (by decide +kernel) (Nat.le_of_ble_eq_true rfl) rfl ?_
  show Sj l G (QI G n sh x) c_X7_person n sh 0 0 μ 0 [some (vr v0), some (vi v1), some (vi v2)] []
  unfold m_X7_person at h
  refine s_aload_n (pc := 0) d_X7_person_0 rfl rfl ?_
  refine s_iconst (pc := 1) (v := 0) d_X7_person_1 (by decide) ?_
  obtain ⟨g1, h⟩ := gd_1 h
  refine s_putI (pc := 2) (k := 0) cl_7 d_X7_person_2 g1 (by decide) w_660 rfl rfl ?_
  obtain ⟨μ2, eμ2, h⟩ := bd_1 h
  refine s_mu eμ2 ?_
  refine s_aload_n (pc := 5) d_X7_person_5 rfl rfl ?_
  refine s_iload_n (pc := 6) d_X7_person_6 rfl rfl ?_
  obtain ⟨r3, μ4, er3, h⟩ := ca2_1 h
  refine s_callV (pc := 7) (as := [vi v1]) (st := []) (vo := [vi r3]) (t_X7_noOne er3) cl_7 g1 d_X7_person_7 y_X7_noOne w_813 w_815 w_s19 ⟨by decide, by decide⟩ ⟨Nat.le_of_ble_eq_true rfl, Nat.le_of_ble_eq_true rfl⟩ (Nat.le_of_ble_eq_true rfl) rfl rfl rfl ?_
  refine s_as (kc' := 0) (js' := 0) (pc' := 10) (st' := [vi r3]) ⟨rfl, rfl, rfl, rfl⟩ ?_
  refine s_if_eq (pc := 10) (tgt := 15) d_X7_person_10 (by decide) (fun c5 => ?_) (fun c5 => ?_)
  · have h := it_t c5 h
    refine s_iload_n (pc := 15) d_X7_person_15 rfl rfl ?_
    refine s_if_ne (pc := 16) (tgt := 28) d_X7_person_16 (by decide) (fun c6 => ?_) (fun c6 => ?_)
    · have h := it_f c6 h
      refine s_iload_n (pc := 28) d_X7_person_28 rfl rfl ?_
      refine s_i2l (pc := 29) d_X7_person_29 ?_
      refine s_lconst (pc := 30) (v := 1) d_X7_person_30 (by decide) ?_
      refine s_ldc2 (pc := 31) (v := 3) d_X7_person_31 w_817 ?_
      obtain ⟨r7, μ8, er7, h⟩ := ca2_1 h
      refine s_callS (pc := 34) (as := [vl (v2.toInt64), vl 1, vl 3]) (st := []) (vo := [vi r7]) (t_X7_in er7) d_X7_person_34 y_X7_in w_754 w_755 ⟨by decide, by decide⟩ ⟨Nat.le_of_ble_eq_true rfl, Nat.le_of_ble_eq_true rfl⟩ (Nat.le_of_ble_eq_true rfl) rfl rfl rfl ?_
      refine s_as (kc' := 0) (js' := 0) (pc' := 37) (st' := [vi r7]) ⟨rfl, rfl, rfl, rfl⟩ ?_
      refine s_if_eq (pc := 37) (tgt := 55) d_X7_person_37 (by decide) (fun c9 => ?_) (fun c9 => ?_)
      · have h := it_t c9 h
        refine s_bipush (pc := 55) (v := (-2)) d_X7_person_55 (by decide) ?_
        obtain rfl := Option.some.inj h
        exact s_iret (pc := 57) d_X7_person_57 rfl
      · have h := it_f c9 h
        refine s_aload_n (pc := 40) d_X7_person_40 rfl rfl ?_
        refine s_getR (pc := 41) (k := 16) cl_7 d_X7_person_41 g1 (by decide) w_676 (rt_arr _) ?_
        obtain ⟨a10, ea10, h⟩ := bd_1 h
        refine s_topR ea10 ?_
        refine s_iconst (pc := 44) (v := 5) d_X7_person_44 (by decide) ?_
        refine s_iload_n (pc := 45) d_X7_person_45 rfl rfl ?_
        refine s_iconst (pc := 46) (v := 1) d_X7_person_46 (by decide) ?_
        refine s_isub (pc := 47) d_X7_person_47 ?_
        refine s_imul (pc := 48) d_X7_person_48 ?_
        refine s_iload_n (pc := 49) d_X7_person_49 rfl rfl ?_
        refine s_iadd (pc := 50) d_X7_person_50 ?_
        obtain ⟨g11, h⟩ := gd_1 h
        refine s_iald (pc := 51) d_X7_person_51 g11 ?_
        obtain ⟨w12, ew12, h⟩ := bd_1 h
        refine s_topI ew12 ?_
        refine s_goto (pc := 52) (tgt := 57) d_X7_person_52 (by decide) ?_
        obtain rfl := Option.some.inj h
        exact s_iret (pc := 57) d_X7_person_57 rfl
    · have h := it_t c6 h
      refine s_aload_n (pc := 19) d_X7_person_19 rfl rfl ?_
      refine s_getR (pc := 20) (k := 9) cl_7 d_X7_person_20 g1 (by decide) w_669 (rt_arr _) ?_
      obtain ⟨a13, ea13, h⟩ := bd_1 h
      refine s_topR ea13 ?_
      refine s_iload_n (pc := 23) d_X7_person_23 rfl rfl ?_
      obtain ⟨g14, h⟩ := gd_1 h
      refine s_iald (pc := 24) d_X7_person_24 g14 ?_
      obtain ⟨w15, ew15, h⟩ := bd_1 h
      refine s_topI ew15 ?_
      refine s_goto (pc := 25) (tgt := 57) d_X7_person_25 (by decide) ?_
      obtain rfl := Option.some.inj h
      exact s_iret (pc := 57) d_X7_person_57 rfl
  · have h := it_f c5 h
    refine s_iconst (pc := 13) (v := (-1)) d_X7_person_13 (by decide) ?_
    obtain rfl := Option.some.inj h
    exact s_iret (pc := 14) d_X7_person_14 rfl
/-! StripsOfFourModel.seed -/
abbrev c_X7_seed : Cf := (prog_9_method_27_code, 5, "StripsOfFourModel", "seed", (some .long), { frames := 0, cells := 0, slots := 0, locals := 0 })
theorem d_X7_seed_0 : decode prog_9_method_27_code 0 = .ok (.aload_n 0, 1) := by decide +kernel
theorem d_X7_seed_1 : decode prog_9_method_27_code 1 = .ok (.iconst 0, 1) := by decide +kernel
theorem d_X7_seed_2 : decode prog_9_method_27_code 2 = .ok (.putfield 66, 3) := by decide +kernel
theorem d_X7_seed_5 : decode prog_9_method_27_code 5 = .ok (.aload_n 0, 1) := by decide +kernel
theorem d_X7_seed_6 : decode prog_9_method_27_code 6 = .ok (.getfield 147, 3) := by decide +kernel
theorem d_X7_seed_9 : decode prog_9_method_27_code 9 = .ok (.lstore_n 3, 1) := by decide +kernel
theorem d_X7_seed_10 : decode prog_9_method_27_code 10 = .ok (.aload_n 0, 1) := by decide +kernel
theorem d_X7_seed_11 : decode prog_9_method_27_code 11 = .ok (.lload_n 1, 1) := by decide +kernel
theorem d_X7_seed_12 : decode prog_9_method_27_code 12 = .ok (.putfield 147, 3) := by decide +kernel
theorem d_X7_seed_15 : decode prog_9_method_27_code 15 = .ok (.lload_n 3, 1) := by decide +kernel
theorem d_X7_seed_16 : decode prog_9_method_27_code 16 = .ok (.lreturn, 1) := by decide +kernel
def m_X7_seed (sh : Sh) (v0 : Nat) (v1 : Int64) (μ : Mu) : Option (Int64 × Mu) :=
  gd (iz sh 7 v0) <|
  bd (sI μ v0 0 0) fun μ2 =>
  bd (gJ μ2 v0 17) fun w3 =>
  bd (sJ μ2 v0 17 v1) fun μ4 =>
  some (w3, μ4)
set_option maxHeartbeats 4000000 in
set_option maxRecDepth 20000 in
theorem t_X7_seed {l : Launch} {G : Gl} {n : Nat} {sh : Sh} {x : Int64 × Mu} {v0 : Nat} {v1 : Int64} {μ : Mu} (h : m_X7_seed sh v0 v1 μ = some x) : Ct l G ⟨"StripsOfFourModel", "seed", "(J)J"⟩ prog_9_method_27_code 5 (some .long) { frames := 0, cells := 0, slots := 0, locals := 0 } n sh μ [vr v0, vl v1] (some (.long x.1)) n sh x.2 := by
  refine Ct.of (lc := [some (vr v0), some (vl v1), none, none, none]) (by decide +kernel) (Nat.le_of_ble_eq_true rfl) rfl ?_
  show Sj l G (QJ G n sh x) c_X7_seed n sh 0 0 μ 0 [some (vr v0), some (vl v1), none, none, none] []
  unfold m_X7_seed at h
  refine s_aload_n (pc := 0) d_X7_seed_0 rfl rfl ?_
  refine s_iconst (pc := 1) (v := 0) d_X7_seed_1 (by decide) ?_
  obtain ⟨g1, h⟩ := gd_1 h
  refine s_putI (pc := 2) (k := 0) cl_7 d_X7_seed_2 g1 (by decide) w_660 rfl rfl ?_
  obtain ⟨μ2, eμ2, h⟩ := bd_1 h
  refine s_mu eμ2 ?_
  refine s_aload_n (pc := 5) d_X7_seed_5 rfl rfl ?_
  refine s_getJ (pc := 6) (k := 17) cl_7 d_X7_seed_6 g1 (by decide) w_677 rfl ?_
  obtain ⟨w3, ew3, h⟩ := bd_1 h
  refine s_topJ ew3 ?_
  refine s_lstore_n (pc := 9) (lc' := [some (vr v0), some (vl v1), none, some (vl w3), none]) d_X7_seed_9 rfl (by decide) rfl ?_
  refine s_aload_n (pc := 10) d_X7_seed_10 rfl rfl ?_
  refine s_lload_n (pc := 11) d_X7_seed_11 rfl rfl ?_
  refine s_putJ (pc := 12) (k := 17) cl_7 d_X7_seed_12 g1 (by decide) w_677 rfl rfl ?_
  obtain ⟨μ4, eμ4, h⟩ := bd_1 h
  refine s_mu eμ4 ?_
  refine s_lload_n (pc := 15) d_X7_seed_15 rfl rfl ?_
  obtain rfl := Option.some.inj h
  exact s_lret (pc := 16) d_X7_seed_16 rfl
/-! StripsOfFourModel.strip -/
abbrev c_X7_strip : Cf := (prog_9_method_25_code, 5, "StripsOfFourModel", "strip", (some .int), { frames := 2, cells := 0, slots := 0, locals := 46 })
theorem d_X7_strip_0 : decode prog_9_method_25_code 0 = .ok (.aload_n 0, 1) := by decide +kernel
theorem d_X7_strip_1 : decode prog_9_method_25_code 1 = .ok (.iconst 0, 1) := by decide +kernel
theorem d_X7_strip_2 : decode prog_9_method_25_code 2 = .ok (.putfield 66, 3) := by decide +kernel
theorem d_X7_strip_5 : decode prog_9_method_25_code 5 = .ok (.aload_n 0, 1) := by decide +kernel
theorem d_X7_strip_6 : decode prog_9_method_25_code 6 = .ok (.iload_n 1, 1) := by decide +kernel
theorem d_X7_strip_7 : decode prog_9_method_25_code 7 = .ok (.invokevirtual 138, 3) := by decide +kernel
theorem d_X7_strip_10 : decode prog_9_method_25_code 10 = .ok (.ifCond .eq 5, 3) := by decide +kernel
theorem d_X7_strip_13 : decode prog_9_method_25_code 13 = .ok (.iconst (-1), 1) := by decide +kernel
theorem d_X7_strip_14 : decode prog_9_method_25_code 14 = .ok (.ireturn, 1) := by decide +kernel
theorem d_X7_strip_15 : decode prog_9_method_25_code 15 = .ok (.iconst 0, 1) := by decide +kernel
theorem d_X7_strip_16 : decode prog_9_method_25_code 16 = .ok (.istore_n 3, 1) := by decide +kernel
theorem d_X7_strip_17 : decode prog_9_method_25_code 17 = .ok (.iconst 0, 1) := by decide +kernel
theorem d_X7_strip_18 : decode prog_9_method_25_code 18 = .ok (.istore 4, 2) := by decide +kernel
theorem d_X7_strip_20 : decode prog_9_method_25_code 20 = .ok (.iload 4, 2) := by decide +kernel
theorem d_X7_strip_22 : decode prog_9_method_25_code 22 = .ok (.iconst 4, 1) := by decide +kernel
theorem d_X7_strip_23 : decode prog_9_method_25_code 23 = .ok (.if_icmp .ge 20, 3) := by decide +kernel
theorem d_X7_strip_26 : decode prog_9_method_25_code 26 = .ok (.iload_n 3, 1) := by decide +kernel
theorem d_X7_strip_27 : decode prog_9_method_25_code 27 = .ok (.aload_n 0, 1) := by decide +kernel
theorem d_X7_strip_28 : decode prog_9_method_25_code 28 = .ok (.iload_n 1, 1) := by decide +kernel
theorem d_X7_strip_29 : decode prog_9_method_25_code 29 = .ok (.iload 4, 2) := by decide +kernel
theorem d_X7_strip_31 : decode prog_9_method_25_code 31 = .ok (.iconst 1, 1) := by decide +kernel
theorem d_X7_strip_32 : decode prog_9_method_25_code 32 = .ok (.invokevirtual 141, 3) := by decide +kernel
theorem d_X7_strip_35 : decode prog_9_method_25_code 35 = .ok (.ior, 1) := by decide +kernel
theorem d_X7_strip_36 : decode prog_9_method_25_code 36 = .ok (.istore_n 3, 1) := by decide +kernel
theorem d_X7_strip_37 : decode prog_9_method_25_code 37 = .ok (.iinc 4 1, 3) := by decide +kernel
theorem d_X7_strip_40 : decode prog_9_method_25_code 40 = .ok (.goto (-20), 3) := by decide +kernel
theorem d_X7_strip_43 : decode prog_9_method_25_code 43 = .ok (.iload_n 2, 1) := by decide +kernel
theorem d_X7_strip_44 : decode prog_9_method_25_code 44 = .ok (.iconst 3, 1) := by decide +kernel
theorem d_X7_strip_45 : decode prog_9_method_25_code 45 = .ok (.if_icmp .ne 7, 3) := by decide +kernel
theorem d_X7_strip_48 : decode prog_9_method_25_code 48 = .ok (.iload_n 3, 1) := by decide +kernel
theorem d_X7_strip_49 : decode prog_9_method_25_code 49 = .ok (.goto 26, 3) := by decide +kernel
theorem d_X7_strip_52 : decode prog_9_method_25_code 52 = .ok (.iload_n 2, 1) := by decide +kernel
theorem d_X7_strip_53 : decode prog_9_method_25_code 53 = .ok (.i2l, 1) := by decide +kernel
theorem d_X7_strip_54 : decode prog_9_method_25_code 54 = .ok (.lconst 0, 1) := by decide +kernel
theorem d_X7_strip_55 : decode prog_9_method_25_code 55 = .ok (.ldc2_w 145, 3) := by decide +kernel
theorem d_X7_strip_58 : decode prog_9_method_25_code 58 = .ok (.invokestatic 73, 3) := by decide +kernel
theorem d_X7_strip_61 : decode prog_9_method_25_code 61 = .ok (.ifCond .eq 12, 3) := by decide +kernel
theorem d_X7_strip_64 : decode prog_9_method_25_code 64 = .ok (.aload_n 0, 1) := by decide +kernel
theorem d_X7_strip_65 : decode prog_9_method_25_code 65 = .ok (.iload_n 1, 1) := by decide +kernel
theorem d_X7_strip_66 : decode prog_9_method_25_code 66 = .ok (.iload_n 2, 1) := by decide +kernel
theorem d_X7_strip_67 : decode prog_9_method_25_code 67 = .ok (.invokevirtual 115, 3) := by decide +kernel
theorem d_X7_strip_70 : decode prog_9_method_25_code 70 = .ok (.goto 5, 3) := by decide +kernel
theorem d_X7_strip_73 : decode prog_9_method_25_code 73 = .ok (.bipush (-2), 2) := by decide +kernel
theorem d_X7_strip_75 : decode prog_9_method_25_code 75 = .ok (.ireturn, 1) := by decide +kernel
def m_X7_strip_b43 (sh : Sh) (v0 : Nat) (v1 : Int32) (v2 : Int32) (v3 : Int32) (μ : Mu) : Option (Int32 × Mu) :=
  if v2 = 3 then
    some (v3, μ)
  else
    ca2 (m_X7_in sh (v2.toInt64) 0 2 μ) fun r13 μ14 =>
    if r13 = 0 then
      some ((-2), μ14)
    else
      gd (iz sh 7 v0) <|
      ca2 (m_X7_of sh v0 v1 v2 μ14) fun r17 μ18 =>
      some (r17, μ18)
def m_X7_strip_b20 (sh : Sh) (k20 : Int32 → Int32 → Mu → Option (Int32 × Mu)) (v0 : Nat) (v1 : Int32) (v2 : Int32) (v3 : Int32) (v4 : Int32) (μ : Mu) : Option (Int32 × Mu) :=
  if 4 ≤ v4 then
    m_X7_strip_b43 sh v0 v1 v2 v3 μ
  else
    gd (iz sh 7 v0) <|
    ca2 (m_X7_lookOf sh v0 v1 v4 1 μ) fun r8 μ9 =>
    bd (v3 ||| r8) fun w10 =>
    bd (v4 + 1) fun w11 =>
    k20 w10 w11 μ9
def m_X7_strip_h20 (sh : Sh) (v0 : Nat) (v1 : Int32) (v2 : Int32) : Nat → Int32 → Int32 → Mu → Option (Int32 × Mu)
  | 0 => fun _ _ _ => none
  | f + 1 => fun v3 v4 μ => m_X7_strip_b20 sh (m_X7_strip_h20 sh v0 v1 v2 f) v0 v1 v2 v3 v4 μ
def m_X7_strip (sh : Sh) (v0 : Nat) (v1 : Int32) (v2 : Int32) (μ : Mu) : Option (Int32 × Mu) :=
  gd (iz sh 7 v0) <|
  bd (sI μ v0 0 0) fun μ2 =>
  ca2 (m_X7_noStrip sh v0 v1 μ2) fun r3 μ4 =>
  if r3 = 0 then
    m_X7_strip_h20 sh v0 v1 v2 FU 0 0 μ4
  else
    some ((-1), μ4)
set_option maxHeartbeats 4000000 in
set_option maxRecDepth 20000 in
theorem t_X7_strip_b43 {l : Launch} {G : Gl} {n : Nat} {sh : Sh} {x : Int32 × Mu} {v0 : Nat} {v1 : Int32} {v2 : Int32} {v3 : Int32} {μ : Mu} (h : m_X7_strip_b43 sh v0 v1 v2 v3 μ = some x) : Sj l G (QI G n sh x) c_X7_strip n sh 0 0 μ 43 [some (vr v0), some (vi v1), some (vi v2), some (vi v3), none] [] := by
  unfold m_X7_strip_b43 at h
  refine s_iload_n (pc := 43) d_X7_strip_43 rfl rfl ?_
  refine s_iconst (pc := 44) (v := 3) d_X7_strip_44 (by decide) ?_
  refine s_icmp_ne (pc := 45) (tgt := 52) d_X7_strip_45 (by decide) (fun c12 => ?_) (fun c12 => ?_)
  · have h := it_f c12 h
    refine s_iload_n (pc := 52) d_X7_strip_52 rfl rfl ?_
    refine s_i2l (pc := 53) d_X7_strip_53 ?_
    refine s_lconst (pc := 54) (v := 0) d_X7_strip_54 (by decide) ?_
    refine s_ldc2 (pc := 55) (v := 2) d_X7_strip_55 w_830 ?_
    obtain ⟨r13, μ14, er13, h⟩ := ca2_1 h
    refine s_callS (pc := 58) (as := [vl (v2.toInt64), vl 0, vl 2]) (st := []) (vo := [vi r13]) (t_X7_in er13) d_X7_strip_58 y_X7_in w_754 w_755 ⟨by decide, by decide⟩ ⟨Nat.le_of_ble_eq_true rfl, Nat.le_of_ble_eq_true rfl⟩ (Nat.le_of_ble_eq_true rfl) rfl rfl rfl ?_
    refine s_as (kc' := 0) (js' := 0) (pc' := 61) (st' := [vi r13]) ⟨rfl, rfl, rfl, rfl⟩ ?_
    refine s_if_eq (pc := 61) (tgt := 73) d_X7_strip_61 (by decide) (fun c15 => ?_) (fun c15 => ?_)
    · have h := it_t c15 h
      refine s_bipush (pc := 73) (v := (-2)) d_X7_strip_73 (by decide) ?_
      obtain rfl := Option.some.inj h
      exact s_iret (pc := 75) d_X7_strip_75 rfl
    · have h := it_f c15 h
      refine s_aload_n (pc := 64) d_X7_strip_64 rfl rfl ?_
      refine s_iload_n (pc := 65) d_X7_strip_65 rfl rfl ?_
      refine s_iload_n (pc := 66) d_X7_strip_66 rfl rfl ?_
      obtain ⟨g16, h⟩ := gd_1 h
      obtain ⟨r17, μ18, er17, h⟩ := ca2_1 h
      refine s_callV (pc := 67) (as := [vi v1, vi v2]) (st := []) (vo := [vi r17]) (t_X7_of er17) cl_7 g16 d_X7_strip_67 y_X7_of w_789 w_791 w_s15 ⟨by decide, by decide⟩ ⟨Nat.le_of_ble_eq_true rfl, Nat.le_of_ble_eq_true rfl⟩ (Nat.le_of_ble_eq_true rfl) rfl rfl rfl ?_
      refine s_as (kc' := 0) (js' := 0) (pc' := 70) (st' := [vi r17]) ⟨rfl, rfl, rfl, rfl⟩ ?_
      refine s_goto (pc := 70) (tgt := 75) d_X7_strip_70 (by decide) ?_
      obtain rfl := Option.some.inj h
      exact s_iret (pc := 75) d_X7_strip_75 rfl
  · have h := it_t c12 h
    refine s_iload_n (pc := 48) d_X7_strip_48 rfl rfl ?_
    refine s_goto (pc := 49) (tgt := 75) d_X7_strip_49 (by decide) ?_
    obtain rfl := Option.some.inj h
    exact s_iret (pc := 75) d_X7_strip_75 rfl
set_option maxHeartbeats 4000000 in
set_option maxRecDepth 20000 in
theorem t_X7_strip_b20 {l : Launch} {G : Gl} {n : Nat} {sh : Sh} {x : Int32 × Mu} {k20 : Int32 → Int32 → Mu → Option (Int32 × Mu)} {v0 : Nat} {v1 : Int32} {v2 : Int32} {v3 : Int32} {v4 : Int32} {μ : Mu} (hk20 : ∀ (v3 : Int32) (v4 : Int32) (μ : Mu), k20 v3 v4 μ = some x → Sj l G (QI G n sh x) c_X7_strip n sh 0 0 μ 20 [some (vr v0), some (vi v1), some (vi v2), some (vi v3), some (vi v4)] []) (h : m_X7_strip_b20 sh k20 v0 v1 v2 v3 v4 μ = some x) : Sj l G (QI G n sh x) c_X7_strip n sh 0 0 μ 20 [some (vr v0), some (vi v1), some (vi v2), some (vi v3), some (vi v4)] [] := by
  unfold m_X7_strip_b20 at h
  refine s_iload (pc := 20) d_X7_strip_20 rfl ?_
  refine s_iconst (pc := 22) (v := 4) d_X7_strip_22 (by decide) ?_
  refine s_icmp_ge (pc := 23) (tgt := 43) d_X7_strip_23 (by decide) (fun c6 => ?_) (fun c6 => ?_)
  · have h := it_t c6 h
    refine s_mask [true, true, true, true, false] rfl ?_
    exact t_X7_strip_b43 h
  · have h := it_f c6 h
    refine s_iload_n (pc := 26) d_X7_strip_26 rfl rfl ?_
    refine s_aload_n (pc := 27) d_X7_strip_27 rfl rfl ?_
    refine s_iload_n (pc := 28) d_X7_strip_28 rfl rfl ?_
    refine s_iload (pc := 29) d_X7_strip_29 rfl ?_
    refine s_iconst (pc := 31) (v := 1) d_X7_strip_31 (by decide) ?_
    obtain ⟨g7, h⟩ := gd_1 h
    obtain ⟨r8, μ9, er8, h⟩ := ca2_1 h
    refine s_callV (pc := 32) (as := [vi v1, vi v4, vi 1]) (st := [vi v3]) (vo := [vi r8]) (t_X7_lookOf er8) cl_7 g7 d_X7_strip_32 y_X7_lookOf w_826 w_828 w_s21 ⟨by decide, by decide⟩ ⟨Nat.le_of_ble_eq_true rfl, Nat.le_of_ble_eq_true rfl⟩ (Nat.le_of_ble_eq_true rfl) rfl rfl rfl ?_
    refine s_as (kc' := 0) (js' := 0) (pc' := 35) (st' := [vi r8, vi v3]) ⟨rfl, rfl, rfl, rfl⟩ ?_
    refine s_ior (pc := 35) d_X7_strip_35 ?_
    obtain ⟨w10, ew10, h⟩ := bd_1 h
    refine s_topI ew10 ?_
    refine s_istore_n (pc := 36) (lc' := [some (vr v0), some (vi v1), some (vi v2), some (vi w10), some (vi v4)]) d_X7_strip_36 rfl (by decide) rfl ?_
    obtain ⟨w11, ew11, h⟩ := bd_1 h
    refine s_iinc (pc := 37) (v := w11) (lc' := [some (vr v0), some (vi v1), some (vi v2), some (vi w10), some (vi w11)]) d_X7_strip_37 rfl (by rw [ew11]; rfl) (by decide) rfl ?_
    refine s_goto (pc := 40) (tgt := 20) d_X7_strip_40 (by decide) ?_
    exact hk20 _ _ _ h
set_option maxHeartbeats 4000000 in
set_option maxRecDepth 20000 in
theorem t_X7_strip_h20 {l : Launch} {G : Gl} {n : Nat} {sh : Sh} {x : Int32 × Mu} {v0 : Nat} {v1 : Int32} {v2 : Int32} : ∀ (f : Nat) (v3 : Int32) (v4 : Int32) (μ : Mu), m_X7_strip_h20 sh v0 v1 v2 f v3 v4 μ = some x → Sj l G (QI G n sh x) c_X7_strip n sh 0 0 μ 20 [some (vr v0), some (vi v1), some (vi v2), some (vi v3), some (vi v4)] [] := by
  intro f
  induction f with
  | zero =>
    intro v3 v4 μ h
    cases h
  | succ f ih =>
    intro v3 v4 μ h
    exact t_X7_strip_b20 ih h
set_option maxHeartbeats 4000000 in
set_option maxRecDepth 20000 in
theorem t_X7_strip {l : Launch} {G : Gl} {n : Nat} {sh : Sh} {x : Int32 × Mu} {v0 : Nat} {v1 : Int32} {v2 : Int32} {μ : Mu} (h : m_X7_strip sh v0 v1 v2 μ = some x) : Ct l G ⟨"StripsOfFourModel", "strip", "(II)I"⟩ prog_9_method_25_code 5 (some .int) { frames := 2, cells := 0, slots := 0, locals := 46 } n sh μ [vr v0, vi v1, vi v2] (some (.int x.1)) n sh x.2 := by
  refine Ct.of (lc := [some (vr v0), some (vi v1), some (vi v2), none, none]) (by decide +kernel) (Nat.le_of_ble_eq_true rfl) rfl ?_
  show Sj l G (QI G n sh x) c_X7_strip n sh 0 0 μ 0 [some (vr v0), some (vi v1), some (vi v2), none, none] []
  unfold m_X7_strip at h
  refine s_aload_n (pc := 0) d_X7_strip_0 rfl rfl ?_
  refine s_iconst (pc := 1) (v := 0) d_X7_strip_1 (by decide) ?_
  obtain ⟨g1, h⟩ := gd_1 h
  refine s_putI (pc := 2) (k := 0) cl_7 d_X7_strip_2 g1 (by decide) w_660 rfl rfl ?_
  obtain ⟨μ2, eμ2, h⟩ := bd_1 h
  refine s_mu eμ2 ?_
  refine s_aload_n (pc := 5) d_X7_strip_5 rfl rfl ?_
  refine s_iload_n (pc := 6) d_X7_strip_6 rfl rfl ?_
  obtain ⟨r3, μ4, er3, h⟩ := ca2_1 h
  refine s_callV (pc := 7) (as := [vi v1]) (st := []) (vo := [vi r3]) (t_X7_noStrip er3) cl_7 g1 d_X7_strip_7 y_X7_noStrip w_822 w_824 w_s20 ⟨by decide, by decide⟩ ⟨Nat.le_of_ble_eq_true rfl, Nat.le_of_ble_eq_true rfl⟩ (Nat.le_of_ble_eq_true rfl) rfl rfl rfl ?_
  refine s_as (kc' := 0) (js' := 0) (pc' := 10) (st' := [vi r3]) ⟨rfl, rfl, rfl, rfl⟩ ?_
  refine s_if_eq (pc := 10) (tgt := 15) d_X7_strip_10 (by decide) (fun c5 => ?_) (fun c5 => ?_)
  · have h := it_t c5 h
    refine s_iconst (pc := 15) (v := 0) d_X7_strip_15 (by decide) ?_
    refine s_istore_n (pc := 16) (lc' := [some (vr v0), some (vi v1), some (vi v2), some (vi 0), none]) d_X7_strip_16 rfl (by decide) rfl ?_
    refine s_iconst (pc := 17) (v := 0) d_X7_strip_17 (by decide) ?_
    refine s_istore (pc := 18) (lc' := [some (vr v0), some (vi v1), some (vi v2), some (vi 0), some (vi 0)]) d_X7_strip_18 (by decide) rfl ?_
    exact t_X7_strip_h20 FU _ _ _ h
  · have h := it_f c5 h
    refine s_iconst (pc := 13) (v := (-1)) d_X7_strip_13 (by decide) ?_
    obtain rfl := Option.some.inj h
    exact s_iret (pc := 14) d_X7_strip_14 rfl
/-! StripsOfFourModel.stuck -/
abbrev c_X7_stuck : Cf := (prog_9_method_34_code, 4, "StripsOfFourModel", "stuck", (some .int), { frames := 1, cells := 0, slots := 0, locals := 22 })
theorem d_X7_stuck_0 : decode prog_9_method_34_code 0 = .ok (.aload_n 0, 1) := by decide +kernel
theorem d_X7_stuck_1 : decode prog_9_method_34_code 1 = .ok (.iconst 0, 1) := by decide +kernel
theorem d_X7_stuck_2 : decode prog_9_method_34_code 2 = .ok (.putfield 66, 3) := by decide +kernel
theorem d_X7_stuck_5 : decode prog_9_method_34_code 5 = .ok (.aload_n 0, 1) := by decide +kernel
theorem d_X7_stuck_6 : decode prog_9_method_34_code 6 = .ok (.getfield 31, 3) := by decide +kernel
theorem d_X7_stuck_9 : decode prog_9_method_34_code 9 = .ok (.sipush 202, 3) := by decide +kernel
theorem d_X7_stuck_12 : decode prog_9_method_34_code 12 = .ok (.iaload, 1) := by decide +kernel
theorem d_X7_stuck_13 : decode prog_9_method_34_code 13 = .ok (.iconst 2, 1) := by decide +kernel
theorem d_X7_stuck_14 : decode prog_9_method_34_code 14 = .ok (.if_icmp .ge 6, 3) := by decide +kernel
theorem d_X7_stuck_17 : decode prog_9_method_34_code 17 = .ok (.bipush (-3), 2) := by decide +kernel
theorem d_X7_stuck_19 : decode prog_9_method_34_code 19 = .ok (.ireturn, 1) := by decide +kernel
theorem d_X7_stuck_20 : decode prog_9_method_34_code 20 = .ok (.aload_n 0, 1) := by decide +kernel
theorem d_X7_stuck_21 : decode prog_9_method_34_code 21 = .ok (.invokevirtual 154, 3) := by decide +kernel
theorem d_X7_stuck_24 : decode prog_9_method_34_code 24 = .ok (.bipush 50, 2) := by decide +kernel
theorem d_X7_stuck_26 : decode prog_9_method_34_code 26 = .ok (.bipush 19, 2) := by decide +kernel
theorem d_X7_stuck_28 : decode prog_9_method_34_code 28 = .ok (.aload_n 0, 1) := by decide +kernel
theorem d_X7_stuck_29 : decode prog_9_method_34_code 29 = .ok (.getfield 31, 3) := by decide +kernel
theorem d_X7_stuck_32 : decode prog_9_method_34_code 32 = .ok (.sipush 202, 3) := by decide +kernel
theorem d_X7_stuck_35 : decode prog_9_method_34_code 35 = .ok (.iaload, 1) := by decide +kernel
theorem d_X7_stuck_36 : decode prog_9_method_34_code 36 = .ok (.iconst 2, 1) := by decide +kernel
theorem d_X7_stuck_37 : decode prog_9_method_34_code 37 = .ok (.isub, 1) := by decide +kernel
theorem d_X7_stuck_38 : decode prog_9_method_34_code 38 = .ok (.imul, 1) := by decide +kernel
theorem d_X7_stuck_39 : decode prog_9_method_34_code 39 = .ok (.iadd, 1) := by decide +kernel
theorem d_X7_stuck_40 : decode prog_9_method_34_code 40 = .ok (.istore_n 1, 1) := by decide +kernel
theorem d_X7_stuck_41 : decode prog_9_method_34_code 41 = .ok (.iconst 0, 1) := by decide +kernel
theorem d_X7_stuck_42 : decode prog_9_method_34_code 42 = .ok (.istore_n 2, 1) := by decide +kernel
theorem d_X7_stuck_43 : decode prog_9_method_34_code 43 = .ok (.iload_n 2, 1) := by decide +kernel
theorem d_X7_stuck_44 : decode prog_9_method_34_code 44 = .ok (.bipush 19, 2) := by decide +kernel
theorem d_X7_stuck_46 : decode prog_9_method_34_code 46 = .ok (.if_icmp .ge 49, 3) := by decide +kernel
theorem d_X7_stuck_49 : decode prog_9_method_34_code 49 = .ok (.aload_n 0, 1) := by decide +kernel
theorem d_X7_stuck_50 : decode prog_9_method_34_code 50 = .ok (.getfield 31, 3) := by decide +kernel
theorem d_X7_stuck_53 : decode prog_9_method_34_code 53 = .ok (.iload_n 1, 1) := by decide +kernel
theorem d_X7_stuck_54 : decode prog_9_method_34_code 54 = .ok (.iload_n 2, 1) := by decide +kernel
theorem d_X7_stuck_55 : decode prog_9_method_34_code 55 = .ok (.iadd, 1) := by decide +kernel
theorem d_X7_stuck_56 : decode prog_9_method_34_code 56 = .ok (.iaload, 1) := by decide +kernel
theorem d_X7_stuck_57 : decode prog_9_method_34_code 57 = .ok (.istore_n 3, 1) := by decide +kernel
theorem d_X7_stuck_58 : decode prog_9_method_34_code 58 = .ok (.aload_n 0, 1) := by decide +kernel
theorem d_X7_stuck_59 : decode prog_9_method_34_code 59 = .ok (.getfield 31, 3) := by decide +kernel
theorem d_X7_stuck_62 : decode prog_9_method_34_code 62 = .ok (.iload_n 1, 1) := by decide +kernel
theorem d_X7_stuck_63 : decode prog_9_method_34_code 63 = .ok (.iload_n 2, 1) := by decide +kernel
theorem d_X7_stuck_64 : decode prog_9_method_34_code 64 = .ok (.iadd, 1) := by decide +kernel
theorem d_X7_stuck_65 : decode prog_9_method_34_code 65 = .ok (.aload_n 0, 1) := by decide +kernel
theorem d_X7_stuck_66 : decode prog_9_method_34_code 66 = .ok (.getfield 31, 3) := by decide +kernel
theorem d_X7_stuck_69 : decode prog_9_method_34_code 69 = .ok (.iload_n 1, 1) := by decide +kernel
theorem d_X7_stuck_70 : decode prog_9_method_34_code 70 = .ok (.bipush 19, 2) := by decide +kernel
theorem d_X7_stuck_72 : decode prog_9_method_34_code 72 = .ok (.iadd, 1) := by decide +kernel
theorem d_X7_stuck_73 : decode prog_9_method_34_code 73 = .ok (.iload_n 2, 1) := by decide +kernel
theorem d_X7_stuck_74 : decode prog_9_method_34_code 74 = .ok (.iadd, 1) := by decide +kernel
theorem d_X7_stuck_75 : decode prog_9_method_34_code 75 = .ok (.iaload, 1) := by decide +kernel
theorem d_X7_stuck_76 : decode prog_9_method_34_code 76 = .ok (.iastore, 1) := by decide +kernel
theorem d_X7_stuck_77 : decode prog_9_method_34_code 77 = .ok (.aload_n 0, 1) := by decide +kernel
theorem d_X7_stuck_78 : decode prog_9_method_34_code 78 = .ok (.getfield 31, 3) := by decide +kernel
theorem d_X7_stuck_81 : decode prog_9_method_34_code 81 = .ok (.iload_n 1, 1) := by decide +kernel
theorem d_X7_stuck_82 : decode prog_9_method_34_code 82 = .ok (.bipush 19, 2) := by decide +kernel
theorem d_X7_stuck_84 : decode prog_9_method_34_code 84 = .ok (.iadd, 1) := by decide +kernel
theorem d_X7_stuck_85 : decode prog_9_method_34_code 85 = .ok (.iload_n 2, 1) := by decide +kernel
theorem d_X7_stuck_86 : decode prog_9_method_34_code 86 = .ok (.iadd, 1) := by decide +kernel
theorem d_X7_stuck_87 : decode prog_9_method_34_code 87 = .ok (.iload_n 3, 1) := by decide +kernel
theorem d_X7_stuck_88 : decode prog_9_method_34_code 88 = .ok (.iastore, 1) := by decide +kernel
theorem d_X7_stuck_89 : decode prog_9_method_34_code 89 = .ok (.iinc 2 1, 3) := by decide +kernel
theorem d_X7_stuck_92 : decode prog_9_method_34_code 92 = .ok (.goto (-49), 3) := by decide +kernel
theorem d_X7_stuck_95 : decode prog_9_method_34_code 95 = .ok (.aload_n 0, 1) := by decide +kernel
theorem d_X7_stuck_96 : decode prog_9_method_34_code 96 = .ok (.aload_n 0, 1) := by decide +kernel
theorem d_X7_stuck_97 : decode prog_9_method_34_code 97 = .ok (.getfield 31, 3) := by decide +kernel
theorem d_X7_stuck_100 : decode prog_9_method_34_code 100 = .ok (.sipush 202, 3) := by decide +kernel
theorem d_X7_stuck_103 : decode prog_9_method_34_code 103 = .ok (.iaload, 1) := by decide +kernel
theorem d_X7_stuck_104 : decode prog_9_method_34_code 104 = .ok (.iconst 1, 1) := by decide +kernel
theorem d_X7_stuck_105 : decode prog_9_method_34_code 105 = .ok (.isub, 1) := by decide +kernel
theorem d_X7_stuck_106 : decode prog_9_method_34_code 106 = .ok (.iconst 0, 1) := by decide +kernel
theorem d_X7_stuck_107 : decode prog_9_method_34_code 107 = .ok (.invokevirtual 115, 3) := by decide +kernel
theorem d_X7_stuck_110 : decode prog_9_method_34_code 110 = .ok (.ireturn, 1) := by decide +kernel
def m_X7_stuck_b95 (sh : Sh) (v0 : Nat) (μ : Mu) : Option (Int32 × Mu) :=
  gd (iz sh 7 v0) <|
  bd (gR μ v0 16) fun a28 =>
  gd (ix sh 8 a28 202) <|
  bd (gI μ a28 (202 : Int32).toNatClampNeg) fun w30 =>
  ca2 (m_X7_of sh v0 (w30 - 1) 0 μ) fun r31 μ32 =>
  some (r31, μ32)
def m_X7_stuck_b43 (sh : Sh) (k43 : Int32 → Mu → Option (Int32 × Mu)) (v0 : Nat) (v1 : Int32) (v2 : Int32) (μ : Mu) : Option (Int32 × Mu) :=
  if 19 ≤ v2 then
    m_X7_stuck_b95 sh v0 μ
  else
    gd (iz sh 7 v0) <|
    bd (gR μ v0 16) fun a14 =>
    gd (ix sh 8 a14 (v1 + v2)) <|
    bd (gI μ a14 (v1 + v2).toNatClampNeg) fun w16 =>
    bd (gR μ v0 16) fun a17 =>
    bd (gR μ v0 16) fun a18 =>
    gd (ix sh 8 a18 ((v1 + 19) + v2)) <|
    bd (gI μ a18 ((v1 + 19) + v2).toNatClampNeg) fun w20 =>
    gd (ix sh 8 a17 (v1 + v2)) <|
    bd (sI μ a17 (v1 + v2).toNatClampNeg w20) fun μ22 =>
    bd (gR μ22 v0 16) fun a23 =>
    gd (ix sh 8 a23 ((v1 + 19) + v2)) <|
    bd (sI μ22 a23 ((v1 + 19) + v2).toNatClampNeg w16) fun μ25 =>
    bd (v2 + 1) fun w26 =>
    k43 w26 μ25
def m_X7_stuck_h43 (sh : Sh) (v0 : Nat) (v1 : Int32) : Nat → Int32 → Mu → Option (Int32 × Mu)
  | 0 => fun _ _ => none
  | f + 1 => fun v2 μ => m_X7_stuck_b43 sh (m_X7_stuck_h43 sh v0 v1 f) v0 v1 v2 μ
def m_X7_stuck (sh : Sh) (v0 : Nat) (μ : Mu) : Option (Int32 × Mu) :=
  gd (iz sh 7 v0) <|
  bd (sI μ v0 0 0) fun μ2 =>
  bd (gR μ2 v0 16) fun a3 =>
  gd (ix sh 8 a3 202) <|
  bd (gI μ2 a3 (202 : Int32).toNatClampNeg) fun w5 =>
  if 2 ≤ w5 then
    ca (m_X7_note sh v0 μ2) fun μ7 =>
    bd (gR μ7 v0 16) fun a8 =>
    gd (ix sh 8 a8 202) <|
    bd (gI μ7 a8 (202 : Int32).toNatClampNeg) fun w10 =>
    bd (50 + (19 * (w10 - 2))) fun w11 =>
    m_X7_stuck_h43 sh v0 w11 FU 0 μ7
  else
    some ((-3), μ2)
set_option maxHeartbeats 4000000 in
set_option maxRecDepth 20000 in
theorem t_X7_stuck_b95 {l : Launch} {G : Gl} {n : Nat} {sh : Sh} {x : Int32 × Mu} {v0 : Nat} {μ : Mu} (h : m_X7_stuck_b95 sh v0 μ = some x) : Sj l G (QI G n sh x) c_X7_stuck n sh 0 0 μ 95 [some (vr v0), none, none, none] [] := by
  unfold m_X7_stuck_b95 at h
  refine s_aload_n (pc := 95) d_X7_stuck_95 rfl rfl ?_
  refine s_aload_n (pc := 96) d_X7_stuck_96 rfl rfl ?_
  obtain ⟨g27, h⟩ := gd_1 h
  refine s_getR (pc := 97) (k := 16) cl_7 d_X7_stuck_97 g27 (by decide) w_676 (rt_arr _) ?_
  obtain ⟨a28, ea28, h⟩ := bd_1 h
  refine s_topR ea28 ?_
  refine s_sipush (pc := 100) (v := 202) d_X7_stuck_100 (by decide) ?_
  obtain ⟨g29, h⟩ := gd_1 h
  refine s_iald (pc := 103) d_X7_stuck_103 g29 ?_
  obtain ⟨w30, ew30, h⟩ := bd_1 h
  refine s_topI ew30 ?_
  refine s_iconst (pc := 104) (v := 1) d_X7_stuck_104 (by decide) ?_
  refine s_isub (pc := 105) d_X7_stuck_105 ?_
  refine s_iconst (pc := 106) (v := 0) d_X7_stuck_106 (by decide) ?_
  obtain ⟨r31, μ32, er31, h⟩ := ca2_1 h
  refine s_callV (pc := 107) (as := [vi (w30 - 1), vi 0]) (st := []) (vo := [vi r31]) (t_X7_of er31) cl_7 g27 d_X7_stuck_107 y_X7_of w_789 w_791 w_s15 ⟨by decide, by decide⟩ ⟨Nat.le_of_ble_eq_true rfl, Nat.le_of_ble_eq_true rfl⟩ (Nat.le_of_ble_eq_true rfl) rfl rfl rfl ?_
  refine s_as (kc' := 0) (js' := 0) (pc' := 110) (st' := [vi r31]) ⟨rfl, rfl, rfl, rfl⟩ ?_
  obtain rfl := Option.some.inj h
  exact s_iret (pc := 110) d_X7_stuck_110 rfl
set_option maxHeartbeats 4000000 in
set_option maxRecDepth 20000 in
theorem t_X7_stuck_b43 {l : Launch} {G : Gl} {n : Nat} {sh : Sh} {x : Int32 × Mu} {k43 : Int32 → Mu → Option (Int32 × Mu)} {v0 : Nat} {v1 : Int32} {v2 : Int32} {μ : Mu} (hk43 : ∀ (v2 : Int32) (μ : Mu), k43 v2 μ = some x → Sj l G (QI G n sh x) c_X7_stuck n sh 0 0 μ 43 [some (vr v0), some (vi v1), some (vi v2), none] []) (h : m_X7_stuck_b43 sh k43 v0 v1 v2 μ = some x) : Sj l G (QI G n sh x) c_X7_stuck n sh 0 0 μ 43 [some (vr v0), some (vi v1), some (vi v2), none] [] := by
  unfold m_X7_stuck_b43 at h
  refine s_iload_n (pc := 43) d_X7_stuck_43 rfl rfl ?_
  refine s_bipush (pc := 44) (v := 19) d_X7_stuck_44 (by decide) ?_
  refine s_icmp_ge (pc := 46) (tgt := 95) d_X7_stuck_46 (by decide) (fun c12 => ?_) (fun c12 => ?_)
  · have h := it_t c12 h
    refine s_mask [true, false, false, true] rfl ?_
    exact t_X7_stuck_b95 h
  · have h := it_f c12 h
    refine s_aload_n (pc := 49) d_X7_stuck_49 rfl rfl ?_
    obtain ⟨g13, h⟩ := gd_1 h
    refine s_getR (pc := 50) (k := 16) cl_7 d_X7_stuck_50 g13 (by decide) w_676 (rt_arr _) ?_
    obtain ⟨a14, ea14, h⟩ := bd_1 h
    refine s_topR ea14 ?_
    refine s_iload_n (pc := 53) d_X7_stuck_53 rfl rfl ?_
    refine s_iload_n (pc := 54) d_X7_stuck_54 rfl rfl ?_
    refine s_iadd (pc := 55) d_X7_stuck_55 ?_
    obtain ⟨g15, h⟩ := gd_1 h
    refine s_iald (pc := 56) d_X7_stuck_56 g15 ?_
    obtain ⟨w16, ew16, h⟩ := bd_1 h
    refine s_topI ew16 ?_
    refine s_istore_n (pc := 57) (lc' := [some (vr v0), some (vi v1), some (vi v2), some (vi w16)]) d_X7_stuck_57 rfl (by decide) rfl ?_
    refine s_aload_n (pc := 58) d_X7_stuck_58 rfl rfl ?_
    refine s_getR (pc := 59) (k := 16) cl_7 d_X7_stuck_59 g13 (by decide) w_676 (rt_arr _) ?_
    obtain ⟨a17, ea17, h⟩ := bd_1 h
    refine s_topR ea17 ?_
    refine s_iload_n (pc := 62) d_X7_stuck_62 rfl rfl ?_
    refine s_iload_n (pc := 63) d_X7_stuck_63 rfl rfl ?_
    refine s_iadd (pc := 64) d_X7_stuck_64 ?_
    refine s_aload_n (pc := 65) d_X7_stuck_65 rfl rfl ?_
    refine s_getR (pc := 66) (k := 16) cl_7 d_X7_stuck_66 g13 (by decide) w_676 (rt_arr _) ?_
    obtain ⟨a18, ea18, h⟩ := bd_1 h
    refine s_topR ea18 ?_
    refine s_iload_n (pc := 69) d_X7_stuck_69 rfl rfl ?_
    refine s_bipush (pc := 70) (v := 19) d_X7_stuck_70 (by decide) ?_
    refine s_iadd (pc := 72) d_X7_stuck_72 ?_
    refine s_iload_n (pc := 73) d_X7_stuck_73 rfl rfl ?_
    refine s_iadd (pc := 74) d_X7_stuck_74 ?_
    obtain ⟨g19, h⟩ := gd_1 h
    refine s_iald (pc := 75) d_X7_stuck_75 g19 ?_
    obtain ⟨w20, ew20, h⟩ := bd_1 h
    refine s_topI ew20 ?_
    obtain ⟨g21, h⟩ := gd_1 h
    refine s_iast (pc := 76) d_X7_stuck_76 g21 ?_
    obtain ⟨μ22, eμ22, h⟩ := bd_1 h
    refine s_mu eμ22 ?_
    refine s_aload_n (pc := 77) d_X7_stuck_77 rfl rfl ?_
    refine s_getR (pc := 78) (k := 16) cl_7 d_X7_stuck_78 g13 (by decide) w_676 (rt_arr _) ?_
    obtain ⟨a23, ea23, h⟩ := bd_1 h
    refine s_topR ea23 ?_
    refine s_iload_n (pc := 81) d_X7_stuck_81 rfl rfl ?_
    refine s_bipush (pc := 82) (v := 19) d_X7_stuck_82 (by decide) ?_
    refine s_iadd (pc := 84) d_X7_stuck_84 ?_
    refine s_iload_n (pc := 85) d_X7_stuck_85 rfl rfl ?_
    refine s_iadd (pc := 86) d_X7_stuck_86 ?_
    refine s_iload_n (pc := 87) d_X7_stuck_87 rfl rfl ?_
    obtain ⟨g24, h⟩ := gd_1 h
    refine s_iast (pc := 88) d_X7_stuck_88 g24 ?_
    obtain ⟨μ25, eμ25, h⟩ := bd_1 h
    refine s_mu eμ25 ?_
    obtain ⟨w26, ew26, h⟩ := bd_1 h
    refine s_iinc (pc := 89) (v := w26) (lc' := [some (vr v0), some (vi v1), some (vi w26), some (vi w16)]) d_X7_stuck_89 rfl (by rw [ew26]; rfl) (by decide) rfl ?_
    refine s_goto (pc := 92) (tgt := 43) d_X7_stuck_92 (by decide) ?_
    refine s_mask [true, true, true, false] rfl ?_
    exact hk43 _ _ h
set_option maxHeartbeats 4000000 in
set_option maxRecDepth 20000 in
theorem t_X7_stuck_h43 {l : Launch} {G : Gl} {n : Nat} {sh : Sh} {x : Int32 × Mu} {v0 : Nat} {v1 : Int32} : ∀ (f : Nat) (v2 : Int32) (μ : Mu), m_X7_stuck_h43 sh v0 v1 f v2 μ = some x → Sj l G (QI G n sh x) c_X7_stuck n sh 0 0 μ 43 [some (vr v0), some (vi v1), some (vi v2), none] [] := by
  intro f
  induction f with
  | zero =>
    intro v2 μ h
    cases h
  | succ f ih =>
    intro v2 μ h
    exact t_X7_stuck_b43 ih h
set_option maxHeartbeats 4000000 in
set_option maxRecDepth 20000 in
theorem t_X7_stuck {l : Launch} {G : Gl} {n : Nat} {sh : Sh} {x : Int32 × Mu} {v0 : Nat} {μ : Mu} (h : m_X7_stuck sh v0 μ = some x) : Ct l G ⟨"StripsOfFourModel", "stuck", "()I"⟩ prog_9_method_34_code 4 (some .int) { frames := 1, cells := 0, slots := 0, locals := 22 } n sh μ [vr v0] (some (.int x.1)) n sh x.2 := by
  refine Ct.of (lc := [some (vr v0), none, none, none]) (by decide +kernel) (Nat.le_of_ble_eq_true rfl) rfl ?_
  show Sj l G (QI G n sh x) c_X7_stuck n sh 0 0 μ 0 [some (vr v0), none, none, none] []
  unfold m_X7_stuck at h
  refine s_aload_n (pc := 0) d_X7_stuck_0 rfl rfl ?_
  refine s_iconst (pc := 1) (v := 0) d_X7_stuck_1 (by decide) ?_
  obtain ⟨g1, h⟩ := gd_1 h
  refine s_putI (pc := 2) (k := 0) cl_7 d_X7_stuck_2 g1 (by decide) w_660 rfl rfl ?_
  obtain ⟨μ2, eμ2, h⟩ := bd_1 h
  refine s_mu eμ2 ?_
  refine s_aload_n (pc := 5) d_X7_stuck_5 rfl rfl ?_
  refine s_getR (pc := 6) (k := 16) cl_7 d_X7_stuck_6 g1 (by decide) w_676 (rt_arr _) ?_
  obtain ⟨a3, ea3, h⟩ := bd_1 h
  refine s_topR ea3 ?_
  refine s_sipush (pc := 9) (v := 202) d_X7_stuck_9 (by decide) ?_
  obtain ⟨g4, h⟩ := gd_1 h
  refine s_iald (pc := 12) d_X7_stuck_12 g4 ?_
  obtain ⟨w5, ew5, h⟩ := bd_1 h
  refine s_topI ew5 ?_
  refine s_iconst (pc := 13) (v := 2) d_X7_stuck_13 (by decide) ?_
  refine s_icmp_ge (pc := 14) (tgt := 20) d_X7_stuck_14 (by decide) (fun c6 => ?_) (fun c6 => ?_)
  · have h := it_t c6 h
    refine s_aload_n (pc := 20) d_X7_stuck_20 rfl rfl ?_
    obtain ⟨μ7, eμ7, h⟩ := ca_1 h
    refine s_callV (pc := 21) (as := []) (st := []) (vo := []) (t_X7_note eμ7) cl_7 g1 d_X7_stuck_21 y_X7_note w_846 w_848 w_s22 ⟨by decide, by decide⟩ ⟨Nat.le_of_ble_eq_true rfl, Nat.le_of_ble_eq_true rfl⟩ (Nat.le_of_ble_eq_true rfl) rfl rfl rfl ?_
    refine s_as (kc' := 0) (js' := 0) (pc' := 24) (st' := []) ⟨rfl, rfl, rfl, rfl⟩ ?_
    refine s_bipush (pc := 24) (v := 50) d_X7_stuck_24 (by decide) ?_
    refine s_bipush (pc := 26) (v := 19) d_X7_stuck_26 (by decide) ?_
    refine s_aload_n (pc := 28) d_X7_stuck_28 rfl rfl ?_
    refine s_getR (pc := 29) (k := 16) cl_7 d_X7_stuck_29 g1 (by decide) w_676 (rt_arr _) ?_
    obtain ⟨a8, ea8, h⟩ := bd_1 h
    refine s_topR ea8 ?_
    refine s_sipush (pc := 32) (v := 202) d_X7_stuck_32 (by decide) ?_
    obtain ⟨g9, h⟩ := gd_1 h
    refine s_iald (pc := 35) d_X7_stuck_35 g9 ?_
    obtain ⟨w10, ew10, h⟩ := bd_1 h
    refine s_topI ew10 ?_
    refine s_iconst (pc := 36) (v := 2) d_X7_stuck_36 (by decide) ?_
    refine s_isub (pc := 37) d_X7_stuck_37 ?_
    refine s_imul (pc := 38) d_X7_stuck_38 ?_
    refine s_iadd (pc := 39) d_X7_stuck_39 ?_
    obtain ⟨w11, ew11, h⟩ := bd_1 h
    refine s_topI ew11 ?_
    refine s_istore_n (pc := 40) (lc' := [some (vr v0), some (vi w11), none, none]) d_X7_stuck_40 rfl (by decide) rfl ?_
    refine s_iconst (pc := 41) (v := 0) d_X7_stuck_41 (by decide) ?_
    refine s_istore_n (pc := 42) (lc' := [some (vr v0), some (vi w11), some (vi 0), none]) d_X7_stuck_42 rfl (by decide) rfl ?_
    exact t_X7_stuck_h43 FU _ _ h
  · have h := it_f c6 h
    refine s_bipush (pc := 17) (v := (-3)) d_X7_stuck_17 (by decide) ?_
    obtain rfl := Option.some.inj h
    exact s_iret (pc := 19) d_X7_stuck_19 rfl
/-! StripsOfFourModel.tear -/
abbrev c_X7_tear : Cf := (prog_9_method_35_code, 3, "StripsOfFourModel", "tear", (some .int), { frames := 2, cells := 0, slots := 0, locals := 46 })
theorem d_X7_tear_0 : decode prog_9_method_35_code 0 = .ok (.aload_n 0, 1) := by decide +kernel
theorem d_X7_tear_1 : decode prog_9_method_35_code 1 = .ok (.iconst 0, 1) := by decide +kernel
theorem d_X7_tear_2 : decode prog_9_method_35_code 2 = .ok (.putfield 66, 3) := by decide +kernel
theorem d_X7_tear_5 : decode prog_9_method_35_code 5 = .ok (.aload_n 0, 1) := by decide +kernel
theorem d_X7_tear_6 : decode prog_9_method_35_code 6 = .ok (.iload_n 1, 1) := by decide +kernel
theorem d_X7_tear_7 : decode prog_9_method_35_code 7 = .ok (.invokevirtual 138, 3) := by decide +kernel
theorem d_X7_tear_10 : decode prog_9_method_35_code 10 = .ok (.ifCond .eq 5, 3) := by decide +kernel
theorem d_X7_tear_13 : decode prog_9_method_35_code 13 = .ok (.iconst (-1), 1) := by decide +kernel
theorem d_X7_tear_14 : decode prog_9_method_35_code 14 = .ok (.ireturn, 1) := by decide +kernel
theorem d_X7_tear_15 : decode prog_9_method_35_code 15 = .ok (.iload_n 2, 1) := by decide +kernel
theorem d_X7_tear_16 : decode prog_9_method_35_code 16 = .ok (.i2l, 1) := by decide +kernel
theorem d_X7_tear_17 : decode prog_9_method_35_code 17 = .ok (.lconst 1, 1) := by decide +kernel
theorem d_X7_tear_18 : decode prog_9_method_35_code 18 = .ok (.ldc2_w 136, 3) := by decide +kernel
theorem d_X7_tear_21 : decode prog_9_method_35_code 21 = .ok (.invokestatic 73, 3) := by decide +kernel
theorem d_X7_tear_24 : decode prog_9_method_35_code 24 = .ok (.ifCond .ne 6, 3) := by decide +kernel
theorem d_X7_tear_27 : decode prog_9_method_35_code 27 = .ok (.bipush (-2), 2) := by decide +kernel
theorem d_X7_tear_29 : decode prog_9_method_35_code 29 = .ok (.ireturn, 1) := by decide +kernel
theorem d_X7_tear_30 : decode prog_9_method_35_code 30 = .ok (.aload_n 0, 1) := by decide +kernel
theorem d_X7_tear_31 : decode prog_9_method_35_code 31 = .ok (.iload_n 1, 1) := by decide +kernel
theorem d_X7_tear_32 : decode prog_9_method_35_code 32 = .ok (.iconst 1, 1) := by decide +kernel
theorem d_X7_tear_33 : decode prog_9_method_35_code 33 = .ok (.invokevirtual 115, 3) := by decide +kernel
theorem d_X7_tear_36 : decode prog_9_method_35_code 36 = .ok (.ifCond .le 6, 3) := by decide +kernel
theorem d_X7_tear_39 : decode prog_9_method_35_code 39 = .ok (.bipush (-3), 2) := by decide +kernel
theorem d_X7_tear_41 : decode prog_9_method_35_code 41 = .ok (.ireturn, 1) := by decide +kernel
theorem d_X7_tear_42 : decode prog_9_method_35_code 42 = .ok (.aload_n 0, 1) := by decide +kernel
theorem d_X7_tear_43 : decode prog_9_method_35_code 43 = .ok (.invokevirtual 154, 3) := by decide +kernel
theorem d_X7_tear_46 : decode prog_9_method_35_code 46 = .ok (.aload_n 0, 1) := by decide +kernel
theorem d_X7_tear_47 : decode prog_9_method_35_code 47 = .ok (.getfield 31, 3) := by decide +kernel
theorem d_X7_tear_50 : decode prog_9_method_35_code 50 = .ok (.bipush 50, 2) := by decide +kernel
theorem d_X7_tear_52 : decode prog_9_method_35_code 52 = .ok (.bipush 19, 2) := by decide +kernel
theorem d_X7_tear_54 : decode prog_9_method_35_code 54 = .ok (.iload_n 1, 1) := by decide +kernel
theorem d_X7_tear_55 : decode prog_9_method_35_code 55 = .ok (.imul, 1) := by decide +kernel
theorem d_X7_tear_56 : decode prog_9_method_35_code 56 = .ok (.iadd, 1) := by decide +kernel
theorem d_X7_tear_57 : decode prog_9_method_35_code 57 = .ok (.iconst 1, 1) := by decide +kernel
theorem d_X7_tear_58 : decode prog_9_method_35_code 58 = .ok (.iadd, 1) := by decide +kernel
theorem d_X7_tear_59 : decode prog_9_method_35_code 59 = .ok (.iload_n 2, 1) := by decide +kernel
theorem d_X7_tear_60 : decode prog_9_method_35_code 60 = .ok (.iastore, 1) := by decide +kernel
theorem d_X7_tear_61 : decode prog_9_method_35_code 61 = .ok (.aload_n 0, 1) := by decide +kernel
theorem d_X7_tear_62 : decode prog_9_method_35_code 62 = .ok (.invokevirtual 118, 3) := by decide +kernel
theorem d_X7_tear_65 : decode prog_9_method_35_code 65 = .ok (.invokestatic 151, 3) := by decide +kernel
theorem d_X7_tear_68 : decode prog_9_method_35_code 68 = .ok (.ireturn, 1) := by decide +kernel
def m_X7_tear (sh : Sh) (v0 : Nat) (v1 : Int32) (v2 : Int32) (μ : Mu) : Option (Int32 × Mu) :=
  gd (iz sh 7 v0) <|
  bd (sI μ v0 0 0) fun μ2 =>
  ca2 (m_X7_noStrip sh v0 v1 μ2) fun r3 μ4 =>
  if r3 = 0 then
    ca2 (m_X7_in sh (v2.toInt64) 1 3 μ4) fun r6 μ7 =>
    if r6 = 0 then
      some ((-2), μ7)
    else
      ca2 (m_X7_of sh v0 v1 1 μ7) fun r9 μ10 =>
      if r9 ≤ 0 then
        ca (m_X7_note sh v0 μ10) fun μ12 =>
        bd (gR μ12 v0 16) fun a13 =>
        gd (ix sh 8 a13 ((50 + (19 * v1)) + 1)) <|
        bd (sI μ12 a13 ((50 + (19 * v1)) + 1).toNatClampNeg v2) fun μ15 =>
        ca2 (m_X7_tornOnes sh v0 μ15) fun r16 μ17 =>
        ca2 (m_X7_many sh r16 μ17) fun r18 μ19 =>
        some (r18, μ19)
      else
        some ((-3), μ10)
  else
    some ((-1), μ4)
set_option maxHeartbeats 4000000 in
set_option maxRecDepth 20000 in
theorem t_X7_tear {l : Launch} {G : Gl} {n : Nat} {sh : Sh} {x : Int32 × Mu} {v0 : Nat} {v1 : Int32} {v2 : Int32} {μ : Mu} (h : m_X7_tear sh v0 v1 v2 μ = some x) : Ct l G ⟨"StripsOfFourModel", "tear", "(II)I"⟩ prog_9_method_35_code 3 (some .int) { frames := 2, cells := 0, slots := 0, locals := 46 } n sh μ [vr v0, vi v1, vi v2] (some (.int x.1)) n sh x.2 := by
  refine Ct.of (lc := [some (vr v0), some (vi v1), some (vi v2)]) (by decide +kernel) (Nat.le_of_ble_eq_true rfl) rfl ?_
  show Sj l G (QI G n sh x) c_X7_tear n sh 0 0 μ 0 [some (vr v0), some (vi v1), some (vi v2)] []
  unfold m_X7_tear at h
  refine s_aload_n (pc := 0) d_X7_tear_0 rfl rfl ?_
  refine s_iconst (pc := 1) (v := 0) d_X7_tear_1 (by decide) ?_
  obtain ⟨g1, h⟩ := gd_1 h
  refine s_putI (pc := 2) (k := 0) cl_7 d_X7_tear_2 g1 (by decide) w_660 rfl rfl ?_
  obtain ⟨μ2, eμ2, h⟩ := bd_1 h
  refine s_mu eμ2 ?_
  refine s_aload_n (pc := 5) d_X7_tear_5 rfl rfl ?_
  refine s_iload_n (pc := 6) d_X7_tear_6 rfl rfl ?_
  obtain ⟨r3, μ4, er3, h⟩ := ca2_1 h
  refine s_callV (pc := 7) (as := [vi v1]) (st := []) (vo := [vi r3]) (t_X7_noStrip er3) cl_7 g1 d_X7_tear_7 y_X7_noStrip w_822 w_824 w_s20 ⟨by decide, by decide⟩ ⟨Nat.le_of_ble_eq_true rfl, Nat.le_of_ble_eq_true rfl⟩ (Nat.le_of_ble_eq_true rfl) rfl rfl rfl ?_
  refine s_as (kc' := 0) (js' := 0) (pc' := 10) (st' := [vi r3]) ⟨rfl, rfl, rfl, rfl⟩ ?_
  refine s_if_eq (pc := 10) (tgt := 15) d_X7_tear_10 (by decide) (fun c5 => ?_) (fun c5 => ?_)
  · have h := it_t c5 h
    refine s_iload_n (pc := 15) d_X7_tear_15 rfl rfl ?_
    refine s_i2l (pc := 16) d_X7_tear_16 ?_
    refine s_lconst (pc := 17) (v := 1) d_X7_tear_17 (by decide) ?_
    refine s_ldc2 (pc := 18) (v := 3) d_X7_tear_18 w_817 ?_
    obtain ⟨r6, μ7, er6, h⟩ := ca2_1 h
    refine s_callS (pc := 21) (as := [vl (v2.toInt64), vl 1, vl 3]) (st := []) (vo := [vi r6]) (t_X7_in er6) d_X7_tear_21 y_X7_in w_754 w_755 ⟨by decide, by decide⟩ ⟨Nat.le_of_ble_eq_true rfl, Nat.le_of_ble_eq_true rfl⟩ (Nat.le_of_ble_eq_true rfl) rfl rfl rfl ?_
    refine s_as (kc' := 0) (js' := 0) (pc' := 24) (st' := [vi r6]) ⟨rfl, rfl, rfl, rfl⟩ ?_
    refine s_if_ne (pc := 24) (tgt := 30) d_X7_tear_24 (by decide) (fun c8 => ?_) (fun c8 => ?_)
    · have h := it_f c8 h
      refine s_aload_n (pc := 30) d_X7_tear_30 rfl rfl ?_
      refine s_iload_n (pc := 31) d_X7_tear_31 rfl rfl ?_
      refine s_iconst (pc := 32) (v := 1) d_X7_tear_32 (by decide) ?_
      obtain ⟨r9, μ10, er9, h⟩ := ca2_1 h
      refine s_callV (pc := 33) (as := [vi v1, vi 1]) (st := []) (vo := [vi r9]) (t_X7_of er9) cl_7 g1 d_X7_tear_33 y_X7_of w_789 w_791 w_s15 ⟨by decide, by decide⟩ ⟨Nat.le_of_ble_eq_true rfl, Nat.le_of_ble_eq_true rfl⟩ (Nat.le_of_ble_eq_true rfl) rfl rfl rfl ?_
      refine s_as (kc' := 0) (js' := 0) (pc' := 36) (st' := [vi r9]) ⟨rfl, rfl, rfl, rfl⟩ ?_
      refine s_if_le (pc := 36) (tgt := 42) d_X7_tear_36 (by decide) (fun c11 => ?_) (fun c11 => ?_)
      · have h := it_t c11 h
        refine s_aload_n (pc := 42) d_X7_tear_42 rfl rfl ?_
        obtain ⟨μ12, eμ12, h⟩ := ca_1 h
        refine s_callV (pc := 43) (as := []) (st := []) (vo := []) (t_X7_note eμ12) cl_7 g1 d_X7_tear_43 y_X7_note w_846 w_848 w_s22 ⟨by decide, by decide⟩ ⟨Nat.le_of_ble_eq_true rfl, Nat.le_of_ble_eq_true rfl⟩ (Nat.le_of_ble_eq_true rfl) rfl rfl rfl ?_
        refine s_as (kc' := 0) (js' := 0) (pc' := 46) (st' := []) ⟨rfl, rfl, rfl, rfl⟩ ?_
        refine s_aload_n (pc := 46) d_X7_tear_46 rfl rfl ?_
        refine s_getR (pc := 47) (k := 16) cl_7 d_X7_tear_47 g1 (by decide) w_676 (rt_arr _) ?_
        obtain ⟨a13, ea13, h⟩ := bd_1 h
        refine s_topR ea13 ?_
        refine s_bipush (pc := 50) (v := 50) d_X7_tear_50 (by decide) ?_
        refine s_bipush (pc := 52) (v := 19) d_X7_tear_52 (by decide) ?_
        refine s_iload_n (pc := 54) d_X7_tear_54 rfl rfl ?_
        refine s_imul (pc := 55) d_X7_tear_55 ?_
        refine s_iadd (pc := 56) d_X7_tear_56 ?_
        refine s_iconst (pc := 57) (v := 1) d_X7_tear_57 (by decide) ?_
        refine s_iadd (pc := 58) d_X7_tear_58 ?_
        refine s_iload_n (pc := 59) d_X7_tear_59 rfl rfl ?_
        obtain ⟨g14, h⟩ := gd_1 h
        refine s_iast (pc := 60) d_X7_tear_60 g14 ?_
        obtain ⟨μ15, eμ15, h⟩ := bd_1 h
        refine s_mu eμ15 ?_
        refine s_aload_n (pc := 61) d_X7_tear_61 rfl rfl ?_
        obtain ⟨r16, μ17, er16, h⟩ := ca2_1 h
        refine s_callV (pc := 62) (as := []) (st := []) (vo := [vi r16]) (t_X7_tornOnes er16) cl_7 g1 d_X7_tear_62 y_X7_tornOnes w_785 w_787 w_s14 ⟨by decide, by decide⟩ ⟨Nat.le_of_ble_eq_true rfl, Nat.le_of_ble_eq_true rfl⟩ (Nat.le_of_ble_eq_true rfl) rfl rfl rfl ?_
        refine s_as (kc' := 0) (js' := 0) (pc' := 65) (st' := [vi r16]) ⟨rfl, rfl, rfl, rfl⟩ ?_
        obtain ⟨r18, μ19, er18, h⟩ := ca2_1 h
        refine s_callS (pc := 65) (as := [vi r16]) (st := []) (vo := [vi r18]) (t_X7_many er18) d_X7_tear_65 y_X7_many w_843 w_844 ⟨by decide, by decide⟩ ⟨Nat.le_of_ble_eq_true rfl, Nat.le_of_ble_eq_true rfl⟩ (Nat.le_of_ble_eq_true rfl) rfl rfl rfl ?_
        refine s_as (kc' := 0) (js' := 0) (pc' := 68) (st' := [vi r18]) ⟨rfl, rfl, rfl, rfl⟩ ?_
        obtain rfl := Option.some.inj h
        exact s_iret (pc := 68) d_X7_tear_68 rfl
      · have h := it_f c11 h
        refine s_bipush (pc := 39) (v := (-3)) d_X7_tear_39 (by decide) ?_
        obtain rfl := Option.some.inj h
        exact s_iret (pc := 41) d_X7_tear_41 rfl
    · have h := it_t c8 h
      refine s_bipush (pc := 27) (v := (-2)) d_X7_tear_27 (by decide) ?_
      obtain rfl := Option.some.inj h
      exact s_iret (pc := 29) d_X7_tear_29 rfl
  · have h := it_f c5 h
    refine s_iconst (pc := 13) (v := (-1)) d_X7_tear_13 (by decide) ?_
    obtain rfl := Option.some.inj h
    exact s_iret (pc := 14) d_X7_tear_14 rfl
/-! StripsOfFourModel.toSit -/
abbrev c_X7_toSit : Cf := (prog_9_method_51_code, 7, "StripsOfFourModel", "toSit", (some .int), { frames := 3, cells := 0, slots := 0, locals := 68 })
theorem d_X7_toSit_0 : decode prog_9_method_51_code 0 = .ok (.aload_n 0, 1) := by decide +kernel
theorem d_X7_toSit_1 : decode prog_9_method_51_code 1 = .ok (.iconst 0, 1) := by decide +kernel
theorem d_X7_toSit_2 : decode prog_9_method_51_code 2 = .ok (.putfield 66, 3) := by decide +kernel
theorem d_X7_toSit_5 : decode prog_9_method_51_code 5 = .ok (.aload_n 0, 1) := by decide +kernel
theorem d_X7_toSit_6 : decode prog_9_method_51_code 6 = .ok (.iload_n 1, 1) := by decide +kernel
theorem d_X7_toSit_7 : decode prog_9_method_51_code 7 = .ok (.invokevirtual 121, 3) := by decide +kernel
theorem d_X7_toSit_10 : decode prog_9_method_51_code 10 = .ok (.ifCond .eq 5, 3) := by decide +kernel
theorem d_X7_toSit_13 : decode prog_9_method_51_code 13 = .ok (.iconst (-1), 1) := by decide +kernel
theorem d_X7_toSit_14 : decode prog_9_method_51_code 14 = .ok (.ireturn, 1) := by decide +kernel
theorem d_X7_toSit_15 : decode prog_9_method_51_code 15 = .ok (.iconst 4, 1) := by decide +kernel
theorem d_X7_toSit_16 : decode prog_9_method_51_code 16 = .ok (.iload_n 2, 1) := by decide +kernel
theorem d_X7_toSit_17 : decode prog_9_method_51_code 17 = .ok (.iconst 1, 1) := by decide +kernel
theorem d_X7_toSit_18 : decode prog_9_method_51_code 18 = .ok (.aload_n 0, 1) := by decide +kernel
theorem d_X7_toSit_19 : decode prog_9_method_51_code 19 = .ok (.getfield 77, 3) := by decide +kernel
theorem d_X7_toSit_22 : decode prog_9_method_51_code 22 = .ok (.ishl, 1) := by decide +kernel
theorem d_X7_toSit_23 : decode prog_9_method_51_code 23 = .ok (.iconst 1, 1) := by decide +kernel
theorem d_X7_toSit_24 : decode prog_9_method_51_code 24 = .ok (.isub, 1) := by decide +kernel
theorem d_X7_toSit_25 : decode prog_9_method_51_code 25 = .ok (.invokestatic 174, 3) := by decide +kernel
theorem d_X7_toSit_28 : decode prog_9_method_51_code 28 = .ok (.ifCond .ne 6, 3) := by decide +kernel
theorem d_X7_toSit_31 : decode prog_9_method_51_code 31 = .ok (.bipush (-2), 2) := by decide +kernel
theorem d_X7_toSit_33 : decode prog_9_method_51_code 33 = .ok (.ireturn, 1) := by decide +kernel
theorem d_X7_toSit_34 : decode prog_9_method_51_code 34 = .ok (.aload_n 0, 1) := by decide +kernel
theorem d_X7_toSit_35 : decode prog_9_method_51_code 35 = .ok (.iload_n 1, 1) := by decide +kernel
theorem d_X7_toSit_36 : decode prog_9_method_51_code 36 = .ok (.invokevirtual 129, 3) := by decide +kernel
theorem d_X7_toSit_39 : decode prog_9_method_51_code 39 = .ok (.istore_n 3, 1) := by decide +kernel
theorem d_X7_toSit_40 : decode prog_9_method_51_code 40 = .ok (.iconst 0, 1) := by decide +kernel
theorem d_X7_toSit_41 : decode prog_9_method_51_code 41 = .ok (.istore 4, 2) := by decide +kernel
theorem d_X7_toSit_43 : decode prog_9_method_51_code 43 = .ok (.iconst 0, 1) := by decide +kernel
theorem d_X7_toSit_44 : decode prog_9_method_51_code 44 = .ok (.istore 5, 2) := by decide +kernel
theorem d_X7_toSit_46 : decode prog_9_method_51_code 46 = .ok (.iload 5, 2) := by decide +kernel
theorem d_X7_toSit_48 : decode prog_9_method_51_code 48 = .ok (.iconst 4, 1) := by decide +kernel
theorem d_X7_toSit_49 : decode prog_9_method_51_code 49 = .ok (.if_icmp .ge 45, 3) := by decide +kernel
theorem d_X7_toSit_52 : decode prog_9_method_51_code 52 = .ok (.iconst 4, 1) := by decide +kernel
theorem d_X7_toSit_53 : decode prog_9_method_51_code 53 = .ok (.iload_n 2, 1) := by decide +kernel
theorem d_X7_toSit_54 : decode prog_9_method_51_code 54 = .ok (.iload 5, 2) := by decide +kernel
theorem d_X7_toSit_56 : decode prog_9_method_51_code 56 = .ok (.invokestatic 169, 3) := by decide +kernel
theorem d_X7_toSit_59 : decode prog_9_method_51_code 59 = .ok (.istore 6, 2) := by decide +kernel
theorem d_X7_toSit_61 : decode prog_9_method_51_code 61 = .ok (.iload 6, 2) := by decide +kernel
theorem d_X7_toSit_63 : decode prog_9_method_51_code 63 = .ok (.invokestatic 151, 3) := by decide +kernel
theorem d_X7_toSit_66 : decode prog_9_method_51_code 66 = .ok (.iconst 4, 1) := by decide +kernel
theorem d_X7_toSit_67 : decode prog_9_method_51_code 67 = .ok (.if_icmp .le 6, 3) := by decide +kernel
theorem d_X7_toSit_70 : decode prog_9_method_51_code 70 = .ok (.bipush (-2), 2) := by decide +kernel
theorem d_X7_toSit_72 : decode prog_9_method_51_code 72 = .ok (.ireturn, 1) := by decide +kernel
theorem d_X7_toSit_73 : decode prog_9_method_51_code 73 = .ok (.iload 4, 2) := by decide +kernel
theorem d_X7_toSit_75 : decode prog_9_method_51_code 75 = .ok (.iload 6, 2) := by decide +kernel
theorem d_X7_toSit_77 : decode prog_9_method_51_code 77 = .ok (.iload_n 3, 1) := by decide +kernel
theorem d_X7_toSit_78 : decode prog_9_method_51_code 78 = .ok (.ixor, 1) := by decide +kernel
theorem d_X7_toSit_79 : decode prog_9_method_51_code 79 = .ok (.invokestatic 151, 3) := by decide +kernel
theorem d_X7_toSit_82 : decode prog_9_method_51_code 82 = .ok (.iadd, 1) := by decide +kernel
theorem d_X7_toSit_83 : decode prog_9_method_51_code 83 = .ok (.istore 4, 2) := by decide +kernel
theorem d_X7_toSit_85 : decode prog_9_method_51_code 85 = .ok (.iload 6, 2) := by decide +kernel
theorem d_X7_toSit_87 : decode prog_9_method_51_code 87 = .ok (.istore_n 3, 1) := by decide +kernel
theorem d_X7_toSit_88 : decode prog_9_method_51_code 88 = .ok (.iinc 5 1, 3) := by decide +kernel
theorem d_X7_toSit_91 : decode prog_9_method_51_code 91 = .ok (.goto (-45), 3) := by decide +kernel
theorem d_X7_toSit_94 : decode prog_9_method_51_code 94 = .ok (.iload 4, 2) := by decide +kernel
theorem d_X7_toSit_96 : decode prog_9_method_51_code 96 = .ok (.ireturn, 1) := by decide +kernel
def m_X7_toSit_b46 (sh : Sh) (k46 : Int32 → Int32 → Int32 → Mu → Option (Int32 × Mu)) (v2 : Int32) (v3 : Int32) (v4 : Int32) (v5 : Int32) (μ : Mu) : Option (Int32 × Mu) :=
  if 4 ≤ v5 then
    some (v4, μ)
  else
    ca2 (m_X7_setOf sh 4 v2 v5 μ) fun r12 μ13 =>
    ca2 (m_X7_many sh r12 μ13) fun r14 μ15 =>
    if r14 ≤ 4 then
      ca2 (m_X7_many sh (r12 ^^^ v3) μ15) fun r17 μ18 =>
      bd (v4 + r17) fun w19 =>
      bd (v5 + 1) fun w20 =>
      k46 r12 w19 w20 μ18
    else
      some ((-2), μ15)
def m_X7_toSit_h46 (sh : Sh) (v2 : Int32) : Nat → Int32 → Int32 → Int32 → Mu → Option (Int32 × Mu)
  | 0 => fun _ _ _ _ => none
  | f + 1 => fun v3 v4 v5 μ => m_X7_toSit_b46 sh (m_X7_toSit_h46 sh v2 f) v2 v3 v4 v5 μ
def m_X7_toSit (sh : Sh) (v0 : Nat) (v1 : Int32) (v2 : Int32) (μ : Mu) : Option (Int32 × Mu) :=
  gd (iz sh 7 v0) <|
  bd (sI μ v0 0 0) fun μ2 =>
  ca2 (m_X7_noBooth sh v0 v1 μ2) fun r3 μ4 =>
  if r3 = 0 then
    ca2 (m_X7_isRow sh 4 v2 ((1 <<< ((gI μ4 v0 6) &&& 31)) - 1) μ4) fun r6 μ7 =>
    if r6 = 0 then
      some ((-2), μ7)
    else
      ca2 (m_X7_inOf sh v0 v1 μ7) fun r9 μ10 =>
      m_X7_toSit_h46 sh v2 FU r9 0 0 μ10
  else
    some ((-1), μ4)
set_option maxHeartbeats 4000000 in
set_option maxRecDepth 20000 in
theorem t_X7_toSit_b46 {l : Launch} {G : Gl} {n : Nat} {sh : Sh} {x : Int32 × Mu} {k46 : Int32 → Int32 → Int32 → Mu → Option (Int32 × Mu)} {v2 : Int32} {v3 : Int32} {v4 : Int32} {v5 : Int32} {μ : Mu} (hk46 : ∀ (v3 : Int32) (v4 : Int32) (v5 : Int32) (μ : Mu), k46 v3 v4 v5 μ = some x → Sj l G (QI G n sh x) c_X7_toSit n sh 0 0 μ 46 [none, none, some (vi v2), some (vi v3), some (vi v4), some (vi v5), none] []) (h : m_X7_toSit_b46 sh k46 v2 v3 v4 v5 μ = some x) : Sj l G (QI G n sh x) c_X7_toSit n sh 0 0 μ 46 [none, none, some (vi v2), some (vi v3), some (vi v4), some (vi v5), none] [] := by
  unfold m_X7_toSit_b46 at h
  refine s_iload (pc := 46) d_X7_toSit_46 rfl ?_
  refine s_iconst (pc := 48) (v := 4) d_X7_toSit_48 (by decide) ?_
  refine s_icmp_ge (pc := 49) (tgt := 94) d_X7_toSit_49 (by decide) (fun c11 => ?_) (fun c11 => ?_)
  · have h := it_t c11 h
    refine s_iload (pc := 94) d_X7_toSit_94 rfl ?_
    obtain rfl := Option.some.inj h
    exact s_iret (pc := 96) d_X7_toSit_96 rfl
  · have h := it_f c11 h
    refine s_iconst (pc := 52) (v := 4) d_X7_toSit_52 (by decide) ?_
    refine s_iload_n (pc := 53) d_X7_toSit_53 rfl rfl ?_
    refine s_iload (pc := 54) d_X7_toSit_54 rfl ?_
    obtain ⟨r12, μ13, er12, h⟩ := ca2_1 h
    refine s_callS (pc := 56) (as := [vi 4, vi v2, vi v5]) (st := []) (vo := [vi r12]) (t_X7_setOf er12) d_X7_toSit_56 y_X7_setOf w_896 w_897 ⟨by decide, by decide⟩ ⟨Nat.le_of_ble_eq_true rfl, Nat.le_of_ble_eq_true rfl⟩ (Nat.le_of_ble_eq_true rfl) rfl rfl rfl ?_
    refine s_as (kc' := 0) (js' := 0) (pc' := 59) (st' := [vi r12]) ⟨rfl, rfl, rfl, rfl⟩ ?_
    refine s_istore (pc := 59) (lc' := [none, none, some (vi v2), some (vi v3), some (vi v4), some (vi v5), some (vi r12)]) d_X7_toSit_59 (by decide) rfl ?_
    refine s_iload (pc := 61) d_X7_toSit_61 rfl ?_
    obtain ⟨r14, μ15, er14, h⟩ := ca2_1 h
    refine s_callS (pc := 63) (as := [vi r12]) (st := []) (vo := [vi r14]) (t_X7_many er14) d_X7_toSit_63 y_X7_many w_843 w_844 ⟨by decide, by decide⟩ ⟨Nat.le_of_ble_eq_true rfl, Nat.le_of_ble_eq_true rfl⟩ (Nat.le_of_ble_eq_true rfl) rfl rfl rfl ?_
    refine s_as (kc' := 0) (js' := 0) (pc' := 66) (st' := [vi r14]) ⟨rfl, rfl, rfl, rfl⟩ ?_
    refine s_iconst (pc := 66) (v := 4) d_X7_toSit_66 (by decide) ?_
    refine s_icmp_le (pc := 67) (tgt := 73) d_X7_toSit_67 (by decide) (fun c16 => ?_) (fun c16 => ?_)
    · have h := it_t c16 h
      refine s_iload (pc := 73) d_X7_toSit_73 rfl ?_
      refine s_iload (pc := 75) d_X7_toSit_75 rfl ?_
      refine s_iload_n (pc := 77) d_X7_toSit_77 rfl rfl ?_
      refine s_ixor (pc := 78) d_X7_toSit_78 ?_
      obtain ⟨r17, μ18, er17, h⟩ := ca2_1 h
      refine s_callS (pc := 79) (as := [vi (r12 ^^^ v3)]) (st := [vi v4]) (vo := [vi r17]) (t_X7_many er17) d_X7_toSit_79 y_X7_many w_843 w_844 ⟨by decide, by decide⟩ ⟨Nat.le_of_ble_eq_true rfl, Nat.le_of_ble_eq_true rfl⟩ (Nat.le_of_ble_eq_true rfl) rfl rfl rfl ?_
      refine s_as (kc' := 0) (js' := 0) (pc' := 82) (st' := [vi r17, vi v4]) ⟨rfl, rfl, rfl, rfl⟩ ?_
      refine s_iadd (pc := 82) d_X7_toSit_82 ?_
      obtain ⟨w19, ew19, h⟩ := bd_1 h
      refine s_topI ew19 ?_
      refine s_istore (pc := 83) (lc' := [none, none, some (vi v2), some (vi v3), some (vi w19), some (vi v5), some (vi r12)]) d_X7_toSit_83 (by decide) rfl ?_
      refine s_iload (pc := 85) d_X7_toSit_85 rfl ?_
      refine s_istore_n (pc := 87) (lc' := [none, none, some (vi v2), some (vi r12), some (vi w19), some (vi v5), some (vi r12)]) d_X7_toSit_87 rfl (by decide) rfl ?_
      obtain ⟨w20, ew20, h⟩ := bd_1 h
      refine s_iinc (pc := 88) (v := w20) (lc' := [none, none, some (vi v2), some (vi r12), some (vi w19), some (vi w20), some (vi r12)]) d_X7_toSit_88 rfl (by rw [ew20]; rfl) (by decide) rfl ?_
      refine s_goto (pc := 91) (tgt := 46) d_X7_toSit_91 (by decide) ?_
      refine s_mask [true, true, true, true, true, true, false] rfl ?_
      exact hk46 _ _ _ _ h
    · have h := it_f c16 h
      refine s_bipush (pc := 70) (v := (-2)) d_X7_toSit_70 (by decide) ?_
      obtain rfl := Option.some.inj h
      exact s_iret (pc := 72) d_X7_toSit_72 rfl
set_option maxHeartbeats 4000000 in
set_option maxRecDepth 20000 in
theorem t_X7_toSit_h46 {l : Launch} {G : Gl} {n : Nat} {sh : Sh} {x : Int32 × Mu} {v2 : Int32} : ∀ (f : Nat) (v3 : Int32) (v4 : Int32) (v5 : Int32) (μ : Mu), m_X7_toSit_h46 sh v2 f v3 v4 v5 μ = some x → Sj l G (QI G n sh x) c_X7_toSit n sh 0 0 μ 46 [none, none, some (vi v2), some (vi v3), some (vi v4), some (vi v5), none] [] := by
  intro f
  induction f with
  | zero =>
    intro v3 v4 v5 μ h
    cases h
  | succ f ih =>
    intro v3 v4 v5 μ h
    exact t_X7_toSit_b46 ih h
set_option maxHeartbeats 4000000 in
set_option maxRecDepth 20000 in
theorem t_X7_toSit {l : Launch} {G : Gl} {n : Nat} {sh : Sh} {x : Int32 × Mu} {v0 : Nat} {v1 : Int32} {v2 : Int32} {μ : Mu} (h : m_X7_toSit sh v0 v1 v2 μ = some x) : Ct l G ⟨"StripsOfFourModel", "toSit", "(II)I"⟩ prog_9_method_51_code 7 (some .int) { frames := 3, cells := 0, slots := 0, locals := 68 } n sh μ [vr v0, vi v1, vi v2] (some (.int x.1)) n sh x.2 := by
  refine Ct.of (lc := [some (vr v0), some (vi v1), some (vi v2), none, none, none, none]) (by decide +kernel) (Nat.le_of_ble_eq_true rfl) rfl ?_
  show Sj l G (QI G n sh x) c_X7_toSit n sh 0 0 μ 0 [some (vr v0), some (vi v1), some (vi v2), none, none, none, none] []
  unfold m_X7_toSit at h
  refine s_aload_n (pc := 0) d_X7_toSit_0 rfl rfl ?_
  refine s_iconst (pc := 1) (v := 0) d_X7_toSit_1 (by decide) ?_
  obtain ⟨g1, h⟩ := gd_1 h
  refine s_putI (pc := 2) (k := 0) cl_7 d_X7_toSit_2 g1 (by decide) w_660 rfl rfl ?_
  obtain ⟨μ2, eμ2, h⟩ := bd_1 h
  refine s_mu eμ2 ?_
  refine s_aload_n (pc := 5) d_X7_toSit_5 rfl rfl ?_
  refine s_iload_n (pc := 6) d_X7_toSit_6 rfl rfl ?_
  obtain ⟨r3, μ4, er3, h⟩ := ca2_1 h
  refine s_callV (pc := 7) (as := [vi v1]) (st := []) (vo := [vi r3]) (t_X7_noBooth er3) cl_7 g1 d_X7_toSit_7 y_X7_noBooth w_797 w_799 w_s16 ⟨by decide, by decide⟩ ⟨Nat.le_of_ble_eq_true rfl, Nat.le_of_ble_eq_true rfl⟩ (Nat.le_of_ble_eq_true rfl) rfl rfl rfl ?_
  refine s_as (kc' := 0) (js' := 0) (pc' := 10) (st' := [vi r3]) ⟨rfl, rfl, rfl, rfl⟩ ?_
  refine s_if_eq (pc := 10) (tgt := 15) d_X7_toSit_10 (by decide) (fun c5 => ?_) (fun c5 => ?_)
  · have h := it_t c5 h
    refine s_iconst (pc := 15) (v := 4) d_X7_toSit_15 (by decide) ?_
    refine s_iload_n (pc := 16) d_X7_toSit_16 rfl rfl ?_
    refine s_iconst (pc := 17) (v := 1) d_X7_toSit_17 (by decide) ?_
    refine s_aload_n (pc := 18) d_X7_toSit_18 rfl rfl ?_
    refine s_getI (pc := 19) (k := 6) cl_7 d_X7_toSit_19 g1 (by decide) w_666 rfl ?_
    refine s_ishl (pc := 22) d_X7_toSit_22 ?_
    refine s_iconst (pc := 23) (v := 1) d_X7_toSit_23 (by decide) ?_
    refine s_isub (pc := 24) d_X7_toSit_24 ?_
    obtain ⟨r6, μ7, er6, h⟩ := ca2_1 h
    refine s_callS (pc := 25) (as := [vi 4, vi v2, vi ((1 <<< ((gI μ4 v0 6) &&& 31)) - 1)]) (st := []) (vo := [vi r6]) (t_X7_isRow er6) d_X7_toSit_25 y_X7_isRow w_890 w_891 ⟨by decide, by decide⟩ ⟨Nat.le_of_ble_eq_true rfl, Nat.le_of_ble_eq_true rfl⟩ (Nat.le_of_ble_eq_true rfl) rfl rfl rfl ?_
    refine s_as (kc' := 0) (js' := 0) (pc' := 28) (st' := [vi r6]) ⟨rfl, rfl, rfl, rfl⟩ ?_
    refine s_if_ne (pc := 28) (tgt := 34) d_X7_toSit_28 (by decide) (fun c8 => ?_) (fun c8 => ?_)
    · have h := it_f c8 h
      refine s_aload_n (pc := 34) d_X7_toSit_34 rfl rfl ?_
      refine s_iload_n (pc := 35) d_X7_toSit_35 rfl rfl ?_
      obtain ⟨r9, μ10, er9, h⟩ := ca2_1 h
      refine s_callV (pc := 36) (as := [vi v1]) (st := []) (vo := [vi r9]) (t_X7_inOf er9) cl_7 g1 d_X7_toSit_36 y_X7_inOf w_805 w_807 w_s18 ⟨by decide, by decide⟩ ⟨Nat.le_of_ble_eq_true rfl, Nat.le_of_ble_eq_true rfl⟩ (Nat.le_of_ble_eq_true rfl) rfl rfl rfl ?_
      refine s_as (kc' := 0) (js' := 0) (pc' := 39) (st' := [vi r9]) ⟨rfl, rfl, rfl, rfl⟩ ?_
      refine s_istore_n (pc := 39) (lc' := [some (vr v0), some (vi v1), some (vi v2), some (vi r9), none, none, none]) d_X7_toSit_39 rfl (by decide) rfl ?_
      refine s_iconst (pc := 40) (v := 0) d_X7_toSit_40 (by decide) ?_
      refine s_istore (pc := 41) (lc' := [some (vr v0), some (vi v1), some (vi v2), some (vi r9), some (vi 0), none, none]) d_X7_toSit_41 (by decide) rfl ?_
      refine s_iconst (pc := 43) (v := 0) d_X7_toSit_43 (by decide) ?_
      refine s_istore (pc := 44) (lc' := [some (vr v0), some (vi v1), some (vi v2), some (vi r9), some (vi 0), some (vi 0), none]) d_X7_toSit_44 (by decide) rfl ?_
      refine s_mask [false, false, true, true, true, true, true] rfl ?_
      exact t_X7_toSit_h46 FU _ _ _ _ h
    · have h := it_t c8 h
      refine s_bipush (pc := 31) (v := (-2)) d_X7_toSit_31 (by decide) ?_
      obtain rfl := Option.some.inj h
      exact s_iret (pc := 33) d_X7_toSit_33 rfl
  · have h := it_f c5 h
    refine s_iconst (pc := 13) (v := (-1)) d_X7_toSit_13 (by decide) ?_
    obtain rfl := Option.some.inj h
    exact s_iret (pc := 14) d_X7_toSit_14 rfl
/-! StripsOfFourModel.goes -/
abbrev c_X7_goes : Cf := (prog_9_method_42_code, 6, "StripsOfFourModel", "goes", (some .boolean), { frames := 2, cells := 0, slots := 0, locals := 45 })
theorem d_X7_goes_0 : decode prog_9_method_42_code 0 = .ok (.aload_n 0, 1) := by decide +kernel
theorem d_X7_goes_1 : decode prog_9_method_42_code 1 = .ok (.iload_n 1, 1) := by decide +kernel
theorem d_X7_goes_2 : decode prog_9_method_42_code 2 = .ok (.iconst 1, 1) := by decide +kernel
theorem d_X7_goes_3 : decode prog_9_method_42_code 3 = .ok (.invokevirtual 115, 3) := by decide +kernel
theorem d_X7_goes_6 : decode prog_9_method_42_code 6 = .ok (.istore_n 3, 1) := by decide +kernel
theorem d_X7_goes_7 : decode prog_9_method_42_code 7 = .ok (.iload_n 3, 1) := by decide +kernel
theorem d_X7_goes_8 : decode prog_9_method_42_code 8 = .ok (.aload_n 0, 1) := by decide +kernel
theorem d_X7_goes_9 : decode prog_9_method_42_code 9 = .ok (.iload_n 2, 1) := by decide +kernel
theorem d_X7_goes_10 : decode prog_9_method_42_code 10 = .ok (.iconst 1, 1) := by decide +kernel
theorem d_X7_goes_11 : decode prog_9_method_42_code 11 = .ok (.invokevirtual 115, 3) := by decide +kernel
theorem d_X7_goes_14 : decode prog_9_method_42_code 14 = .ok (.if_icmp .eq 5, 3) := by decide +kernel
theorem d_X7_goes_17 : decode prog_9_method_42_code 17 = .ok (.iconst 0, 1) := by decide +kernel
theorem d_X7_goes_18 : decode prog_9_method_42_code 18 = .ok (.ireturn, 1) := by decide +kernel
theorem d_X7_goes_19 : decode prog_9_method_42_code 19 = .ok (.aload_n 0, 1) := by decide +kernel
theorem d_X7_goes_20 : decode prog_9_method_42_code 20 = .ok (.iload_n 1, 1) := by decide +kernel
theorem d_X7_goes_21 : decode prog_9_method_42_code 21 = .ok (.iload_n 3, 1) := by decide +kernel
theorem d_X7_goes_22 : decode prog_9_method_42_code 22 = .ok (.iconst 1, 1) := by decide +kernel
theorem d_X7_goes_23 : decode prog_9_method_42_code 23 = .ok (.isub, 1) := by decide +kernel
theorem d_X7_goes_24 : decode prog_9_method_42_code 24 = .ok (.iconst 2, 1) := by decide +kernel
theorem d_X7_goes_25 : decode prog_9_method_42_code 25 = .ok (.invokevirtual 141, 3) := by decide +kernel
theorem d_X7_goes_28 : decode prog_9_method_42_code 28 = .ok (.istore 4, 2) := by decide +kernel
theorem d_X7_goes_30 : decode prog_9_method_42_code 30 = .ok (.aload_n 0, 1) := by decide +kernel
theorem d_X7_goes_31 : decode prog_9_method_42_code 31 = .ok (.iload_n 2, 1) := by decide +kernel
theorem d_X7_goes_32 : decode prog_9_method_42_code 32 = .ok (.iload_n 3, 1) := by decide +kernel
theorem d_X7_goes_33 : decode prog_9_method_42_code 33 = .ok (.iconst 2, 1) := by decide +kernel
theorem d_X7_goes_34 : decode prog_9_method_42_code 34 = .ok (.invokevirtual 141, 3) := by decide +kernel
theorem d_X7_goes_37 : decode prog_9_method_42_code 37 = .ok (.istore 5, 2) := by decide +kernel
theorem d_X7_goes_39 : decode prog_9_method_42_code 39 = .ok (.iload 4, 2) := by decide +kernel
theorem d_X7_goes_41 : decode prog_9_method_42_code 41 = .ok (.bipush (-9), 2) := by decide +kernel
theorem d_X7_goes_43 : decode prog_9_method_42_code 43 = .ok (.if_icmp .eq 17, 3) := by decide +kernel
theorem d_X7_goes_46 : decode prog_9_method_42_code 46 = .ok (.iload 5, 2) := by decide +kernel
theorem d_X7_goes_48 : decode prog_9_method_42_code 48 = .ok (.bipush (-9), 2) := by decide +kernel
theorem d_X7_goes_50 : decode prog_9_method_42_code 50 = .ok (.if_icmp .eq 10, 3) := by decide +kernel
theorem d_X7_goes_53 : decode prog_9_method_42_code 53 = .ok (.iload 4, 2) := by decide +kernel
theorem d_X7_goes_55 : decode prog_9_method_42_code 55 = .ok (.iload 5, 2) := by decide +kernel
theorem d_X7_goes_57 : decode prog_9_method_42_code 57 = .ok (.if_icmp .ne 7, 3) := by decide +kernel
theorem d_X7_goes_60 : decode prog_9_method_42_code 60 = .ok (.iconst 1, 1) := by decide +kernel
theorem d_X7_goes_61 : decode prog_9_method_42_code 61 = .ok (.goto 4, 3) := by decide +kernel
theorem d_X7_goes_64 : decode prog_9_method_42_code 64 = .ok (.iconst 0, 1) := by decide +kernel
theorem d_X7_goes_65 : decode prog_9_method_42_code 65 = .ok (.ireturn, 1) := by decide +kernel
def m_X7_goes_b60 (sh : Sh) (μ : Mu) : Option (Int32 × Mu) :=
  some (1, μ)
def m_X7_goes (sh : Sh) (v0 : Nat) (v1 : Int32) (v2 : Int32) (μ : Mu) : Option (Int32 × Mu) :=
  gd (iz sh 7 v0) <|
  ca2 (m_X7_of sh v0 v1 1 μ) fun r2 μ3 =>
  ca2 (m_X7_of sh v0 v2 1 μ3) fun r4 μ5 =>
  if r2 = r4 then
    ca2 (m_X7_lookOf sh v0 v1 (r2 - 1) 2 μ5) fun r7 μ8 =>
    ca2 (m_X7_lookOf sh v0 v2 r2 2 μ8) fun r9 μ10 =>
    if r7 = (-9) then
      m_X7_goes_b60 sh μ10
    else
      if r9 = (-9) then
        m_X7_goes_b60 sh μ10
      else
        if r7 = r9 then
          m_X7_goes_b60 sh μ10
        else
          some (0, μ10)
  else
    some (0, μ5)
set_option maxHeartbeats 4000000 in
set_option maxRecDepth 20000 in
theorem t_X7_goes_b60 {l : Launch} {G : Gl} {n : Nat} {sh : Sh} {x : Int32 × Mu} {μ : Mu} (h : m_X7_goes_b60 sh μ = some x) : Sj l G (QI G n sh x) c_X7_goes n sh 0 0 μ 60 [none, none, none, none, none, none] [] := by
  unfold m_X7_goes_b60 at h
  refine s_iconst (pc := 60) (v := 1) d_X7_goes_60 (by decide) ?_
  refine s_goto (pc := 61) (tgt := 65) d_X7_goes_61 (by decide) ?_
  obtain rfl := Option.some.inj h
  exact s_zret0 (pc := 65) rfl d_X7_goes_65 rfl
set_option maxHeartbeats 4000000 in
set_option maxRecDepth 20000 in
theorem t_X7_goes {l : Launch} {G : Gl} {n : Nat} {sh : Sh} {x : Int32 × Mu} {v0 : Nat} {v1 : Int32} {v2 : Int32} {μ : Mu} (h : m_X7_goes sh v0 v1 v2 μ = some x) : Ct l G ⟨"StripsOfFourModel", "goes", "(II)Z"⟩ prog_9_method_42_code 6 (some .boolean) { frames := 2, cells := 0, slots := 0, locals := 45 } n sh μ [vr v0, vi v1, vi v2] (some (.int x.1)) n sh x.2 := by
  refine Ct.of (lc := [some (vr v0), some (vi v1), some (vi v2), none, none, none]) (by decide +kernel) (Nat.le_of_ble_eq_true rfl) rfl ?_
  show Sj l G (QI G n sh x) c_X7_goes n sh 0 0 μ 0 [some (vr v0), some (vi v1), some (vi v2), none, none, none] []
  unfold m_X7_goes at h
  refine s_aload_n (pc := 0) d_X7_goes_0 rfl rfl ?_
  refine s_iload_n (pc := 1) d_X7_goes_1 rfl rfl ?_
  refine s_iconst (pc := 2) (v := 1) d_X7_goes_2 (by decide) ?_
  obtain ⟨g1, h⟩ := gd_1 h
  obtain ⟨r2, μ3, er2, h⟩ := ca2_1 h
  refine s_callV (pc := 3) (as := [vi v1, vi 1]) (st := []) (vo := [vi r2]) (t_X7_of er2) cl_7 g1 d_X7_goes_3 y_X7_of w_789 w_791 w_s15 ⟨by decide, by decide⟩ ⟨Nat.le_of_ble_eq_true rfl, Nat.le_of_ble_eq_true rfl⟩ (Nat.le_of_ble_eq_true rfl) rfl rfl rfl ?_
  refine s_as (kc' := 0) (js' := 0) (pc' := 6) (st' := [vi r2]) ⟨rfl, rfl, rfl, rfl⟩ ?_
  refine s_istore_n (pc := 6) (lc' := [some (vr v0), some (vi v1), some (vi v2), some (vi r2), none, none]) d_X7_goes_6 rfl (by decide) rfl ?_
  refine s_iload_n (pc := 7) d_X7_goes_7 rfl rfl ?_
  refine s_aload_n (pc := 8) d_X7_goes_8 rfl rfl ?_
  refine s_iload_n (pc := 9) d_X7_goes_9 rfl rfl ?_
  refine s_iconst (pc := 10) (v := 1) d_X7_goes_10 (by decide) ?_
  obtain ⟨r4, μ5, er4, h⟩ := ca2_1 h
  refine s_callV (pc := 11) (as := [vi v2, vi 1]) (st := [vi r2]) (vo := [vi r4]) (t_X7_of er4) cl_7 g1 d_X7_goes_11 y_X7_of w_789 w_791 w_s15 ⟨by decide, by decide⟩ ⟨Nat.le_of_ble_eq_true rfl, Nat.le_of_ble_eq_true rfl⟩ (Nat.le_of_ble_eq_true rfl) rfl rfl rfl ?_
  refine s_as (kc' := 0) (js' := 0) (pc' := 14) (st' := [vi r4, vi r2]) ⟨rfl, rfl, rfl, rfl⟩ ?_
  refine s_icmp_eq (pc := 14) (tgt := 19) d_X7_goes_14 (by decide) (fun c6 => ?_) (fun c6 => ?_)
  · have h := it_t c6 h
    refine s_aload_n (pc := 19) d_X7_goes_19 rfl rfl ?_
    refine s_iload_n (pc := 20) d_X7_goes_20 rfl rfl ?_
    refine s_iload_n (pc := 21) d_X7_goes_21 rfl rfl ?_
    refine s_iconst (pc := 22) (v := 1) d_X7_goes_22 (by decide) ?_
    refine s_isub (pc := 23) d_X7_goes_23 ?_
    refine s_iconst (pc := 24) (v := 2) d_X7_goes_24 (by decide) ?_
    obtain ⟨r7, μ8, er7, h⟩ := ca2_1 h
    refine s_callV (pc := 25) (as := [vi v1, vi (r2 - 1), vi 2]) (st := []) (vo := [vi r7]) (t_X7_lookOf er7) cl_7 g1 d_X7_goes_25 y_X7_lookOf w_826 w_828 w_s21 ⟨by decide, by decide⟩ ⟨Nat.le_of_ble_eq_true rfl, Nat.le_of_ble_eq_true rfl⟩ (Nat.le_of_ble_eq_true rfl) rfl rfl rfl ?_
    refine s_as (kc' := 0) (js' := 0) (pc' := 28) (st' := [vi r7]) ⟨rfl, rfl, rfl, rfl⟩ ?_
    refine s_istore (pc := 28) (lc' := [some (vr v0), some (vi v1), some (vi v2), some (vi r2), some (vi r7), none]) d_X7_goes_28 (by decide) rfl ?_
    refine s_aload_n (pc := 30) d_X7_goes_30 rfl rfl ?_
    refine s_iload_n (pc := 31) d_X7_goes_31 rfl rfl ?_
    refine s_iload_n (pc := 32) d_X7_goes_32 rfl rfl ?_
    refine s_iconst (pc := 33) (v := 2) d_X7_goes_33 (by decide) ?_
    obtain ⟨r9, μ10, er9, h⟩ := ca2_1 h
    refine s_callV (pc := 34) (as := [vi v2, vi r2, vi 2]) (st := []) (vo := [vi r9]) (t_X7_lookOf er9) cl_7 g1 d_X7_goes_34 y_X7_lookOf w_826 w_828 w_s21 ⟨by decide, by decide⟩ ⟨Nat.le_of_ble_eq_true rfl, Nat.le_of_ble_eq_true rfl⟩ (Nat.le_of_ble_eq_true rfl) rfl rfl rfl ?_
    refine s_as (kc' := 0) (js' := 0) (pc' := 37) (st' := [vi r9]) ⟨rfl, rfl, rfl, rfl⟩ ?_
    refine s_istore (pc := 37) (lc' := [some (vr v0), some (vi v1), some (vi v2), some (vi r2), some (vi r7), some (vi r9)]) d_X7_goes_37 (by decide) rfl ?_
    refine s_iload (pc := 39) d_X7_goes_39 rfl ?_
    refine s_bipush (pc := 41) (v := (-9)) d_X7_goes_41 (by decide) ?_
    refine s_icmp_eq (pc := 43) (tgt := 60) d_X7_goes_43 (by decide) (fun c11 => ?_) (fun c11 => ?_)
    · have h := it_t c11 h
      refine s_mask [false, false, false, false, false, false] rfl ?_
      exact t_X7_goes_b60 h
    · have h := it_f c11 h
      refine s_iload (pc := 46) d_X7_goes_46 rfl ?_
      refine s_bipush (pc := 48) (v := (-9)) d_X7_goes_48 (by decide) ?_
      refine s_icmp_eq (pc := 50) (tgt := 60) d_X7_goes_50 (by decide) (fun c12 => ?_) (fun c12 => ?_)
      · have h := it_t c12 h
        refine s_mask [false, false, false, false, false, false] rfl ?_
        exact t_X7_goes_b60 h
      · have h := it_f c12 h
        refine s_iload (pc := 53) d_X7_goes_53 rfl ?_
        refine s_iload (pc := 55) d_X7_goes_55 rfl ?_
        refine s_icmp_ne (pc := 57) (tgt := 64) d_X7_goes_57 (by decide) (fun c13 => ?_) (fun c13 => ?_)
        · have h := it_f c13 h
          refine s_iconst (pc := 64) (v := 0) d_X7_goes_64 (by decide) ?_
          obtain rfl := Option.some.inj h
          exact s_zret0 (pc := 65) rfl d_X7_goes_65 rfl
        · have h := it_t c13 h
          refine s_mask [false, false, false, false, false, false] rfl ?_
          exact t_X7_goes_b60 h
  · have h := it_f c6 h
    refine s_iconst (pc := 17) (v := 0) d_X7_goes_17 (by decide) ?_
    obtain rfl := Option.some.inj h
    exact s_zret0 (pc := 18) rfl d_X7_goes_18 rfl
/-! StripsOfFourModel.together -/
abbrev c_X7_together : Cf := (prog_9_method_43_code, 8, "StripsOfFourModel", "together", (some .int), { frames := 3, cells := 0, slots := 0, locals := 70 })
theorem d_X7_together_0 : decode prog_9_method_43_code 0 = .ok (.aload_n 0, 1) := by decide +kernel
theorem d_X7_together_1 : decode prog_9_method_43_code 1 = .ok (.iconst 0, 1) := by decide +kernel
theorem d_X7_together_2 : decode prog_9_method_43_code 2 = .ok (.putfield 66, 3) := by decide +kernel
theorem d_X7_together_5 : decode prog_9_method_43_code 5 = .ok (.iload_n 1, 1) := by decide +kernel
theorem d_X7_together_6 : decode prog_9_method_43_code 6 = .ok (.i2l, 1) := by decide +kernel
theorem d_X7_together_7 : decode prog_9_method_43_code 7 = .ok (.lconst 0, 1) := by decide +kernel
theorem d_X7_together_8 : decode prog_9_method_43_code 8 = .ok (.lconst 1, 1) := by decide +kernel
theorem d_X7_together_9 : decode prog_9_method_43_code 9 = .ok (.invokestatic 73, 3) := by decide +kernel
theorem d_X7_together_12 : decode prog_9_method_43_code 12 = .ok (.ifCond .ne 6, 3) := by decide +kernel
theorem d_X7_together_15 : decode prog_9_method_43_code 15 = .ok (.bipush (-2), 2) := by decide +kernel
theorem d_X7_together_17 : decode prog_9_method_43_code 17 = .ok (.ireturn, 1) := by decide +kernel
theorem d_X7_together_18 : decode prog_9_method_43_code 18 = .ok (.aload_n 0, 1) := by decide +kernel
theorem d_X7_together_19 : decode prog_9_method_43_code 19 = .ok (.invokevirtual 118, 3) := by decide +kernel
theorem d_X7_together_22 : decode prog_9_method_43_code 22 = .ok (.istore_n 2, 1) := by decide +kernel
theorem d_X7_together_23 : decode prog_9_method_43_code 23 = .ok (.iconst 0, 1) := by decide +kernel
theorem d_X7_together_24 : decode prog_9_method_43_code 24 = .ok (.istore_n 3, 1) := by decide +kernel
theorem d_X7_together_25 : decode prog_9_method_43_code 25 = .ok (.iload_n 3, 1) := by decide +kernel
theorem d_X7_together_26 : decode prog_9_method_43_code 26 = .ok (.sipush 256, 3) := by decide +kernel
theorem d_X7_together_29 : decode prog_9_method_43_code 29 = .ok (.if_icmp .ge 31, 3) := by decide +kernel
theorem d_X7_together_32 : decode prog_9_method_43_code 32 = .ok (.aload_n 0, 1) := by decide +kernel
theorem d_X7_together_33 : decode prog_9_method_43_code 33 = .ok (.getfield 51, 3) := by decide +kernel
theorem d_X7_together_36 : decode prog_9_method_43_code 36 = .ok (.iload_n 3, 1) := by decide +kernel
theorem d_X7_together_37 : decode prog_9_method_43_code 37 = .ok (.iconst 0, 1) := by decide +kernel
theorem d_X7_together_38 : decode prog_9_method_43_code 38 = .ok (.iastore, 1) := by decide +kernel
theorem d_X7_together_39 : decode prog_9_method_43_code 39 = .ok (.aload_n 0, 1) := by decide +kernel
theorem d_X7_together_40 : decode prog_9_method_43_code 40 = .ok (.getfield 54, 3) := by decide +kernel
theorem d_X7_together_43 : decode prog_9_method_43_code 43 = .ok (.iload_n 3, 1) := by decide +kernel
theorem d_X7_together_44 : decode prog_9_method_43_code 44 = .ok (.iload_n 3, 1) := by decide +kernel
theorem d_X7_together_45 : decode prog_9_method_43_code 45 = .ok (.ifCond .ne 7, 3) := by decide +kernel
theorem d_X7_together_48 : decode prog_9_method_43_code 48 = .ok (.iconst 1, 1) := by decide +kernel
theorem d_X7_together_49 : decode prog_9_method_43_code 49 = .ok (.goto 4, 3) := by decide +kernel
theorem d_X7_together_52 : decode prog_9_method_43_code 52 = .ok (.iconst 0, 1) := by decide +kernel
theorem d_X7_together_53 : decode prog_9_method_43_code 53 = .ok (.iastore, 1) := by decide +kernel
theorem d_X7_together_54 : decode prog_9_method_43_code 54 = .ok (.iinc 3 1, 3) := by decide +kernel
theorem d_X7_together_57 : decode prog_9_method_43_code 57 = .ok (.goto (-32), 3) := by decide +kernel
theorem d_X7_together_60 : decode prog_9_method_43_code 60 = .ok (.iconst 0, 1) := by decide +kernel
theorem d_X7_together_61 : decode prog_9_method_43_code 61 = .ok (.istore_n 3, 1) := by decide +kernel
theorem d_X7_together_62 : decode prog_9_method_43_code 62 = .ok (.iload_n 3, 1) := by decide +kernel
theorem d_X7_together_63 : decode prog_9_method_43_code 63 = .ok (.aload_n 0, 1) := by decide +kernel
theorem d_X7_together_64 : decode prog_9_method_43_code 64 = .ok (.getfield 31, 3) := by decide +kernel
theorem d_X7_together_67 : decode prog_9_method_43_code 67 = .ok (.sipush 202, 3) := by decide +kernel
theorem d_X7_together_70 : decode prog_9_method_43_code 70 = .ok (.iaload, 1) := by decide +kernel
theorem d_X7_together_71 : decode prog_9_method_43_code 71 = .ok (.if_icmp .ge 157, 3) := by decide +kernel
theorem d_X7_together_74 : decode prog_9_method_43_code 74 = .ok (.sipush 255, 3) := by decide +kernel
theorem d_X7_together_77 : decode prog_9_method_43_code 77 = .ok (.istore 4, 2) := by decide +kernel
theorem d_X7_together_79 : decode prog_9_method_43_code 79 = .ok (.iload 4, 2) := by decide +kernel
theorem d_X7_together_81 : decode prog_9_method_43_code 81 = .ok (.ifCond .lt 141, 3) := by decide +kernel
theorem d_X7_together_84 : decode prog_9_method_43_code 84 = .ok (.iload_n 2, 1) := by decide +kernel
theorem d_X7_together_85 : decode prog_9_method_43_code 85 = .ok (.iload_n 3, 1) := by decide +kernel
theorem d_X7_together_86 : decode prog_9_method_43_code 86 = .ok (.invokestatic 178, 3) := by decide +kernel
theorem d_X7_together_89 : decode prog_9_method_43_code 89 = .ok (.ifCond .eq 133, 3) := by decide +kernel
theorem d_X7_together_92 : decode prog_9_method_43_code 92 = .ok (.iconst 0, 1) := by decide +kernel
theorem d_X7_together_93 : decode prog_9_method_43_code 93 = .ok (.istore 5, 2) := by decide +kernel
theorem d_X7_together_95 : decode prog_9_method_43_code 95 = .ok (.iconst 0, 1) := by decide +kernel
theorem d_X7_together_96 : decode prog_9_method_43_code 96 = .ok (.istore 6, 2) := by decide +kernel
theorem d_X7_together_98 : decode prog_9_method_43_code 98 = .ok (.iload 6, 2) := by decide +kernel
theorem d_X7_together_100 : decode prog_9_method_43_code 100 = .ok (.aload_n 0, 1) := by decide +kernel
theorem d_X7_together_101 : decode prog_9_method_43_code 101 = .ok (.getfield 31, 3) := by decide +kernel
theorem d_X7_together_104 : decode prog_9_method_43_code 104 = .ok (.sipush 202, 3) := by decide +kernel
theorem d_X7_together_107 : decode prog_9_method_43_code 107 = .ok (.iaload, 1) := by decide +kernel
theorem d_X7_together_108 : decode prog_9_method_43_code 108 = .ok (.if_icmp .ge 99, 3) := by decide +kernel
theorem d_X7_together_111 : decode prog_9_method_43_code 111 = .ok (.iload 4, 2) := by decide +kernel
theorem d_X7_together_113 : decode prog_9_method_43_code 113 = .ok (.iload_n 2, 1) := by decide +kernel
theorem d_X7_together_114 : decode prog_9_method_43_code 114 = .ok (.iand, 1) := by decide +kernel
theorem d_X7_together_115 : decode prog_9_method_43_code 115 = .ok (.iload 6, 2) := by decide +kernel
theorem d_X7_together_117 : decode prog_9_method_43_code 117 = .ok (.invokestatic 178, 3) := by decide +kernel
theorem d_X7_together_120 : decode prog_9_method_43_code 120 = .ok (.ifCond .eq 81, 3) := by decide +kernel
theorem d_X7_together_123 : decode prog_9_method_43_code 123 = .ok (.aload_n 0, 1) := by decide +kernel
theorem d_X7_together_124 : decode prog_9_method_43_code 124 = .ok (.iload_n 3, 1) := by decide +kernel
theorem d_X7_together_125 : decode prog_9_method_43_code 125 = .ok (.iload 6, 2) := by decide +kernel
theorem d_X7_together_127 : decode prog_9_method_43_code 127 = .ok (.invokevirtual 181, 3) := by decide +kernel
theorem d_X7_together_130 : decode prog_9_method_43_code 130 = .ok (.ifCond .eq 71, 3) := by decide +kernel
theorem d_X7_together_133 : decode prog_9_method_43_code 133 = .ok (.iload 4, 2) := by decide +kernel
theorem d_X7_together_135 : decode prog_9_method_43_code 135 = .ok (.iconst 1, 1) := by decide +kernel
theorem d_X7_together_136 : decode prog_9_method_43_code 136 = .ok (.iload 6, 2) := by decide +kernel
theorem d_X7_together_138 : decode prog_9_method_43_code 138 = .ok (.ishl, 1) := by decide +kernel
theorem d_X7_together_139 : decode prog_9_method_43_code 139 = .ok (.iconst (-1), 1) := by decide +kernel
theorem d_X7_together_140 : decode prog_9_method_43_code 140 = .ok (.ixor, 1) := by decide +kernel
theorem d_X7_together_141 : decode prog_9_method_43_code 141 = .ok (.iand, 1) := by decide +kernel
theorem d_X7_together_142 : decode prog_9_method_43_code 142 = .ok (.istore 7, 2) := by decide +kernel
theorem d_X7_together_144 : decode prog_9_method_43_code 144 = .ok (.aload_n 0, 1) := by decide +kernel
theorem d_X7_together_145 : decode prog_9_method_43_code 145 = .ok (.getfield 51, 3) := by decide +kernel
theorem d_X7_together_148 : decode prog_9_method_43_code 148 = .ok (.iload 4, 2) := by decide +kernel
theorem d_X7_together_150 : decode prog_9_method_43_code 150 = .ok (.aload_n 0, 1) := by decide +kernel
theorem d_X7_together_151 : decode prog_9_method_43_code 151 = .ok (.getfield 51, 3) := by decide +kernel
theorem d_X7_together_154 : decode prog_9_method_43_code 154 = .ok (.iload 7, 2) := by decide +kernel
theorem d_X7_together_156 : decode prog_9_method_43_code 156 = .ok (.iaload, 1) := by decide +kernel
theorem d_X7_together_157 : decode prog_9_method_43_code 157 = .ok (.iconst 1, 1) := by decide +kernel
theorem d_X7_together_158 : decode prog_9_method_43_code 158 = .ok (.iadd, 1) := by decide +kernel
theorem d_X7_together_159 : decode prog_9_method_43_code 159 = .ok (.aload_n 0, 1) := by decide +kernel
theorem d_X7_together_160 : decode prog_9_method_43_code 160 = .ok (.getfield 51, 3) := by decide +kernel
theorem d_X7_together_163 : decode prog_9_method_43_code 163 = .ok (.iload 4, 2) := by decide +kernel
theorem d_X7_together_165 : decode prog_9_method_43_code 165 = .ok (.iaload, 1) := by decide +kernel
theorem d_X7_together_166 : decode prog_9_method_43_code 166 = .ok (.if_icmp .le 15, 3) := by decide +kernel
theorem d_X7_together_169 : decode prog_9_method_43_code 169 = .ok (.aload_n 0, 1) := by decide +kernel
theorem d_X7_together_170 : decode prog_9_method_43_code 170 = .ok (.getfield 51, 3) := by decide +kernel
theorem d_X7_together_173 : decode prog_9_method_43_code 173 = .ok (.iload 7, 2) := by decide +kernel
theorem d_X7_together_175 : decode prog_9_method_43_code 175 = .ok (.iaload, 1) := by decide +kernel
theorem d_X7_together_176 : decode prog_9_method_43_code 176 = .ok (.iconst 1, 1) := by decide +kernel
theorem d_X7_together_177 : decode prog_9_method_43_code 177 = .ok (.iadd, 1) := by decide +kernel
theorem d_X7_together_178 : decode prog_9_method_43_code 178 = .ok (.goto 10, 3) := by decide +kernel
theorem d_X7_together_181 : decode prog_9_method_43_code 181 = .ok (.aload_n 0, 1) := by decide +kernel
theorem d_X7_together_182 : decode prog_9_method_43_code 182 = .ok (.getfield 51, 3) := by decide +kernel
theorem d_X7_together_185 : decode prog_9_method_43_code 185 = .ok (.iload 4, 2) := by decide +kernel
theorem d_X7_together_187 : decode prog_9_method_43_code 187 = .ok (.iaload, 1) := by decide +kernel
theorem d_X7_together_188 : decode prog_9_method_43_code 188 = .ok (.iastore, 1) := by decide +kernel
theorem d_X7_together_189 : decode prog_9_method_43_code 189 = .ok (.iload 5, 2) := by decide +kernel
theorem d_X7_together_191 : decode prog_9_method_43_code 191 = .ok (.aload_n 0, 1) := by decide +kernel
theorem d_X7_together_192 : decode prog_9_method_43_code 192 = .ok (.getfield 54, 3) := by decide +kernel
theorem d_X7_together_195 : decode prog_9_method_43_code 195 = .ok (.iload 7, 2) := by decide +kernel
theorem d_X7_together_197 : decode prog_9_method_43_code 197 = .ok (.iaload, 1) := by decide +kernel
theorem d_X7_together_198 : decode prog_9_method_43_code 198 = .ok (.iadd, 1) := by decide +kernel
theorem d_X7_together_199 : decode prog_9_method_43_code 199 = .ok (.istore 5, 2) := by decide +kernel
theorem d_X7_together_201 : decode prog_9_method_43_code 201 = .ok (.iinc 6 1, 3) := by decide +kernel
theorem d_X7_together_204 : decode prog_9_method_43_code 204 = .ok (.goto (-106), 3) := by decide +kernel
theorem d_X7_together_207 : decode prog_9_method_43_code 207 = .ok (.aload_n 0, 1) := by decide +kernel
theorem d_X7_together_208 : decode prog_9_method_43_code 208 = .ok (.getfield 54, 3) := by decide +kernel
theorem d_X7_together_211 : decode prog_9_method_43_code 211 = .ok (.iload 4, 2) := by decide +kernel
theorem d_X7_together_213 : decode prog_9_method_43_code 213 = .ok (.iload 5, 2) := by decide +kernel
theorem d_X7_together_215 : decode prog_9_method_43_code 215 = .ok (.iastore, 1) := by decide +kernel
theorem d_X7_together_216 : decode prog_9_method_43_code 216 = .ok (.iinc 4 (-1), 3) := by decide +kernel
theorem d_X7_together_219 : decode prog_9_method_43_code 219 = .ok (.goto (-140), 3) := by decide +kernel
theorem d_X7_together_222 : decode prog_9_method_43_code 222 = .ok (.iinc 3 1, 3) := by decide +kernel
theorem d_X7_together_225 : decode prog_9_method_43_code 225 = .ok (.goto (-163), 3) := by decide +kernel
theorem d_X7_together_228 : decode prog_9_method_43_code 228 = .ok (.iload_n 1, 1) := by decide +kernel
theorem d_X7_together_229 : decode prog_9_method_43_code 229 = .ok (.ifCond .ne 12, 3) := by decide +kernel
theorem d_X7_together_232 : decode prog_9_method_43_code 232 = .ok (.aload_n 0, 1) := by decide +kernel
theorem d_X7_together_233 : decode prog_9_method_43_code 233 = .ok (.getfield 51, 3) := by decide +kernel
theorem d_X7_together_236 : decode prog_9_method_43_code 236 = .ok (.iload_n 2, 1) := by decide +kernel
theorem d_X7_together_237 : decode prog_9_method_43_code 237 = .ok (.iaload, 1) := by decide +kernel
theorem d_X7_together_238 : decode prog_9_method_43_code 238 = .ok (.goto 9, 3) := by decide +kernel
theorem d_X7_together_241 : decode prog_9_method_43_code 241 = .ok (.aload_n 0, 1) := by decide +kernel
theorem d_X7_together_242 : decode prog_9_method_43_code 242 = .ok (.getfield 54, 3) := by decide +kernel
theorem d_X7_together_245 : decode prog_9_method_43_code 245 = .ok (.iload_n 2, 1) := by decide +kernel
theorem d_X7_together_246 : decode prog_9_method_43_code 246 = .ok (.iaload, 1) := by decide +kernel
theorem d_X7_together_247 : decode prog_9_method_43_code 247 = .ok (.ireturn, 1) := by decide +kernel
def m_X7_together_b53 (sh : Sh) (k25 : Int32 → Mu → Option (Int32 × Mu)) (v0 : Nat) (v1 : Int32) (v2 : Int32) (v3 : Int32) (s0 : Int32) (s1 : Int32) (s2 : Nat) (μ : Mu) : Option (Int32 × Mu) :=
  gd (ix sh 8 s2 s1) <|
  bd (sI μ s2 s1.toNatClampNeg s0) fun μ16 =>
  bd (v3 + 1) fun w17 =>
  k25 w17 μ16
def m_X7_together_b201 (sh : Sh) (k62 : Int32 → Mu → Option (Int32 × Mu)) (k79 : Int32 → Mu → Option (Int32 × Mu)) (k98 : Int32 → Int32 → Mu → Option (Int32 × Mu)) (v0 : Nat) (v1 : Int32) (v2 : Int32) (v3 : Int32) (v4 : Int32) (v5 : Int32) (v6 : Int32) (μ : Mu) : Option (Int32 × Mu) :=
  bd (v6 + 1) fun w68 =>
  k98 v5 w68 μ
def m_X7_together_b188 (sh : Sh) (k62 : Int32 → Mu → Option (Int32 × Mu)) (k79 : Int32 → Mu → Option (Int32 × Mu)) (k98 : Int32 → Int32 → Mu → Option (Int32 × Mu)) (v0 : Nat) (v1 : Int32) (v2 : Int32) (v3 : Int32) (v4 : Int32) (v5 : Int32) (v6 : Int32) (v7 : Int32) (s0 : Int32) (s1 : Int32) (s2 : Nat) (μ : Mu) : Option (Int32 × Mu) :=
  gd (ix sh 8 s2 s1) <|
  bd (sI μ s2 s1.toNatClampNeg s0) fun μ70 =>
  gd (iz sh 7 v0) <|
  bd (gR μ70 v0 25) fun a72 =>
  gd (ix sh 8 a72 v7) <|
  bd (gI μ70 a72 v7.toNatClampNeg) fun w74 =>
  bd (v5 + w74) fun w75 =>
  m_X7_together_b201 sh k62 k79 k98 v0 v1 v2 v3 v4 w75 v6 μ70
def m_X7_together_b207 (sh : Sh) (k62 : Int32 → Mu → Option (Int32 × Mu)) (k79 : Int32 → Mu → Option (Int32 × Mu)) (v0 : Nat) (v1 : Int32) (v2 : Int32) (v3 : Int32) (v4 : Int32) (v5 : Int32) (μ : Mu) : Option (Int32 × Mu) :=
  gd (iz sh 7 v0) <|
  bd (gR μ v0 25) fun a64 =>
  gd (ix sh 8 a64 v4) <|
  bd (sI μ a64 v4.toNatClampNeg v5) fun μ66 =>
  bd (v4 + (-1)) fun w67 =>
  k79 w67 μ66
def m_X7_together_b98 (sh : Sh) (k62 : Int32 → Mu → Option (Int32 × Mu)) (k79 : Int32 → Mu → Option (Int32 × Mu)) (k98 : Int32 → Int32 → Mu → Option (Int32 × Mu)) (v0 : Nat) (v1 : Int32) (v2 : Int32) (v3 : Int32) (v4 : Int32) (v5 : Int32) (v6 : Int32) (μ : Mu) : Option (Int32 × Mu) :=
  gd (iz sh 7 v0) <|
  bd (gR μ v0 16) fun a38 =>
  gd (ix sh 8 a38 202) <|
  bd (gI μ a38 (202 : Int32).toNatClampNeg) fun w40 =>
  if w40 ≤ v6 then
    m_X7_together_b207 sh k62 k79 v0 v1 v2 v3 v4 v5 μ
  else
    ca2 (m_X7_has sh (v4 &&& v2) v6 μ) fun r42 μ43 =>
    if r42 = 0 then
      m_X7_together_b201 sh k62 k79 k98 v0 v1 v2 v3 v4 v5 v6 μ43
    else
      ca2 (m_X7_goes sh v0 v3 v6 μ43) fun r45 μ46 =>
      if r45 = 0 then
        m_X7_together_b201 sh k62 k79 k98 v0 v1 v2 v3 v4 v5 v6 μ46
      else
        bd (v4 &&& ((1 <<< (v6 &&& 31)) ^^^ (-1))) fun w48 =>
        bd (gR μ46 v0 24) fun a49 =>
        bd (gR μ46 v0 24) fun a50 =>
        gd (ix sh 8 a50 w48) <|
        bd (gI μ46 a50 w48.toNatClampNeg) fun w52 =>
        bd (gR μ46 v0 24) fun a53 =>
        gd (ix sh 8 a53 v4) <|
        bd (gI μ46 a53 v4.toNatClampNeg) fun w55 =>
        if (w52 + 1) ≤ w55 then
          bd (gR μ46 v0 24) fun a57 =>
          gd (ix sh 8 a57 v4) <|
          bd (gI μ46 a57 v4.toNatClampNeg) fun w59 =>
          m_X7_together_b188 sh k62 k79 k98 v0 v1 v2 v3 v4 v5 v6 w48 w59 v4 a49 μ46
        else
          bd (gR μ46 v0 24) fun a60 =>
          gd (ix sh 8 a60 w48) <|
          bd (gI μ46 a60 w48.toNatClampNeg) fun w62 =>
          m_X7_together_b188 sh k62 k79 k98 v0 v1 v2 v3 v4 v5 v6 w48 (w62 + 1) v4 a49 μ46
def m_X7_together_h98 (sh : Sh) (k62 : Int32 → Mu → Option (Int32 × Mu)) (k79 : Int32 → Mu → Option (Int32 × Mu)) (v0 : Nat) (v1 : Int32) (v2 : Int32) (v3 : Int32) (v4 : Int32) : Nat → Int32 → Int32 → Mu → Option (Int32 × Mu)
  | 0 => fun _ _ _ => none
  | f + 1 => fun v5 v6 μ => m_X7_together_b98 sh k62 k79 (m_X7_together_h98 sh k62 k79 v0 v1 v2 v3 v4 f) v0 v1 v2 v3 v4 v5 v6 μ
def m_X7_together_b222 (sh : Sh) (k62 : Int32 → Mu → Option (Int32 × Mu)) (v0 : Nat) (v1 : Int32) (v2 : Int32) (v3 : Int32) (μ : Mu) : Option (Int32 × Mu) :=
  bd (v3 + 1) fun w36 =>
  k62 w36 μ
def m_X7_together_b79 (sh : Sh) (k62 : Int32 → Mu → Option (Int32 × Mu)) (k79 : Int32 → Mu → Option (Int32 × Mu)) (v0 : Nat) (v1 : Int32) (v2 : Int32) (v3 : Int32) (v4 : Int32) (μ : Mu) : Option (Int32 × Mu) :=
  if v4 < 0 then
    m_X7_together_b222 sh k62 v0 v1 v2 v3 μ
  else
    ca2 (m_X7_has sh v2 v3 μ) fun r33 μ34 =>
    if r33 = 0 then
      m_X7_together_b222 sh k62 v0 v1 v2 v3 μ34
    else
      m_X7_together_h98 sh k62 k79 v0 v1 v2 v3 v4 FU 0 0 μ34
def m_X7_together_h79 (sh : Sh) (k62 : Int32 → Mu → Option (Int32 × Mu)) (v0 : Nat) (v1 : Int32) (v2 : Int32) (v3 : Int32) : Nat → Int32 → Mu → Option (Int32 × Mu)
  | 0 => fun _ _ => none
  | f + 1 => fun v4 μ => m_X7_together_b79 sh k62 (m_X7_together_h79 sh k62 v0 v1 v2 v3 f) v0 v1 v2 v3 v4 μ
def m_X7_together_b228 (sh : Sh) (v0 : Nat) (v1 : Int32) (v2 : Int32) (μ : Mu) : Option (Int32 × Mu) :=
  if v1 = 0 then
    gd (iz sh 7 v0) <|
    bd (gR μ v0 24) fun a29 =>
    gd (ix sh 8 a29 v2) <|
    bd (gI μ a29 v2.toNatClampNeg) fun w31 =>
    some (w31, μ)
  else
    gd (iz sh 7 v0) <|
    bd (gR μ v0 25) fun a25 =>
    gd (ix sh 8 a25 v2) <|
    bd (gI μ a25 v2.toNatClampNeg) fun w27 =>
    some (w27, μ)
def m_X7_together_b62 (sh : Sh) (k62 : Int32 → Mu → Option (Int32 × Mu)) (v0 : Nat) (v1 : Int32) (v2 : Int32) (v3 : Int32) (μ : Mu) : Option (Int32 × Mu) :=
  gd (iz sh 7 v0) <|
  bd (gR μ v0 16) fun a19 =>
  gd (ix sh 8 a19 202) <|
  bd (gI μ a19 (202 : Int32).toNatClampNeg) fun w21 =>
  if w21 ≤ v3 then
    m_X7_together_b228 sh v0 v1 v2 μ
  else
    m_X7_together_h79 sh k62 v0 v1 v2 v3 FU 255 μ
def m_X7_together_h62 (sh : Sh) (v0 : Nat) (v1 : Int32) (v2 : Int32) : Nat → Int32 → Mu → Option (Int32 × Mu)
  | 0 => fun _ _ => none
  | f + 1 => fun v3 μ => m_X7_together_b62 sh (m_X7_together_h62 sh v0 v1 v2 f) v0 v1 v2 v3 μ
def m_X7_together_b60 (sh : Sh) (v0 : Nat) (v1 : Int32) (v2 : Int32) (μ : Mu) : Option (Int32 × Mu) :=
  m_X7_together_h62 sh v0 v1 v2 FU 0 μ
def m_X7_together_b25 (sh : Sh) (k25 : Int32 → Mu → Option (Int32 × Mu)) (v0 : Nat) (v1 : Int32) (v2 : Int32) (v3 : Int32) (μ : Mu) : Option (Int32 × Mu) :=
  if 256 ≤ v3 then
    m_X7_together_b60 sh v0 v1 v2 μ
  else
    gd (iz sh 7 v0) <|
    bd (gR μ v0 24) fun a10 =>
    gd (ix sh 8 a10 v3) <|
    bd (sI μ a10 v3.toNatClampNeg 0) fun μ12 =>
    bd (gR μ12 v0 25) fun a13 =>
    if v3 = 0 then
      m_X7_together_b53 sh k25 v0 v1 v2 v3 1 v3 a13 μ12
    else
      m_X7_together_b53 sh k25 v0 v1 v2 v3 0 v3 a13 μ12
def m_X7_together_h25 (sh : Sh) (v0 : Nat) (v1 : Int32) (v2 : Int32) : Nat → Int32 → Mu → Option (Int32 × Mu)
  | 0 => fun _ _ => none
  | f + 1 => fun v3 μ => m_X7_together_b25 sh (m_X7_together_h25 sh v0 v1 v2 f) v0 v1 v2 v3 μ
def m_X7_together (sh : Sh) (v0 : Nat) (v1 : Int32) (μ : Mu) : Option (Int32 × Mu) :=
  gd (iz sh 7 v0) <|
  bd (sI μ v0 0 0) fun μ2 =>
  ca2 (m_X7_in sh (v1.toInt64) 0 1 μ2) fun r3 μ4 =>
  if r3 = 0 then
    some ((-2), μ4)
  else
    ca2 (m_X7_tornOnes sh v0 μ4) fun r6 μ7 =>
    m_X7_together_h25 sh v0 v1 r6 FU 0 μ7
set_option maxHeartbeats 4000000 in
set_option maxRecDepth 20000 in
theorem t_X7_together_b53 {l : Launch} {G : Gl} {n : Nat} {sh : Sh} {x : Int32 × Mu} {k25 : Int32 → Mu → Option (Int32 × Mu)} {v0 : Nat} {v1 : Int32} {v2 : Int32} {v3 : Int32} {s0 : Int32} {s1 : Int32} {s2 : Nat} {μ : Mu} (hk25 : ∀ (v3 : Int32) (μ : Mu), k25 v3 μ = some x → Sj l G (QI G n sh x) c_X7_together n sh 0 0 μ 25 [some (vr v0), some (vi v1), some (vi v2), some (vi v3), none, none, none, none] []) (h : m_X7_together_b53 sh k25 v0 v1 v2 v3 s0 s1 s2 μ = some x) : Sj l G (QI G n sh x) c_X7_together n sh 0 0 μ 53 [some (vr v0), some (vi v1), some (vi v2), some (vi v3), none, none, none, none] [vi s0, vi s1, vr s2] := by
  unfold m_X7_together_b53 at h
  obtain ⟨g15, h⟩ := gd_1 h
  refine s_iast (pc := 53) d_X7_together_53 g15 ?_
  obtain ⟨μ16, eμ16, h⟩ := bd_1 h
  refine s_mu eμ16 ?_
  obtain ⟨w17, ew17, h⟩ := bd_1 h
  refine s_iinc (pc := 54) (v := w17) (lc' := [some (vr v0), some (vi v1), some (vi v2), some (vi w17), none, none, none, none]) d_X7_together_54 rfl (by rw [ew17]; rfl) (by decide) rfl ?_
  refine s_goto (pc := 57) (tgt := 25) d_X7_together_57 (by decide) ?_
  exact hk25 _ _ h
set_option maxHeartbeats 4000000 in
set_option maxRecDepth 20000 in
theorem t_X7_together_b201 {l : Launch} {G : Gl} {n : Nat} {sh : Sh} {x : Int32 × Mu} {k62 : Int32 → Mu → Option (Int32 × Mu)} {k79 : Int32 → Mu → Option (Int32 × Mu)} {k98 : Int32 → Int32 → Mu → Option (Int32 × Mu)} {v0 : Nat} {v1 : Int32} {v2 : Int32} {v3 : Int32} {v4 : Int32} {v5 : Int32} {v6 : Int32} {μ : Mu} (hk62 : ∀ (v3 : Int32) (μ : Mu), k62 v3 μ = some x → Sj l G (QI G n sh x) c_X7_together n sh 0 0 μ 62 [some (vr v0), some (vi v1), some (vi v2), some (vi v3), none, none, none, none] []) (hk79 : ∀ (v4 : Int32) (μ : Mu), k79 v4 μ = some x → Sj l G (QI G n sh x) c_X7_together n sh 0 0 μ 79 [some (vr v0), some (vi v1), some (vi v2), some (vi v3), some (vi v4), none, none, none] []) (hk98 : ∀ (v5 : Int32) (v6 : Int32) (μ : Mu), k98 v5 v6 μ = some x → Sj l G (QI G n sh x) c_X7_together n sh 0 0 μ 98 [some (vr v0), some (vi v1), some (vi v2), some (vi v3), some (vi v4), some (vi v5), some (vi v6), none] []) (h : m_X7_together_b201 sh k62 k79 k98 v0 v1 v2 v3 v4 v5 v6 μ = some x) : Sj l G (QI G n sh x) c_X7_together n sh 0 0 μ 201 [some (vr v0), some (vi v1), some (vi v2), some (vi v3), some (vi v4), some (vi v5), some (vi v6), none] [] := by
  unfold m_X7_together_b201 at h
  obtain ⟨w68, ew68, h⟩ := bd_1 h
  refine s_iinc (pc := 201) (v := w68) (lc' := [some (vr v0), some (vi v1), some (vi v2), some (vi v3), some (vi v4), some (vi v5), some (vi w68), none]) d_X7_together_201 rfl (by rw [ew68]; rfl) (by decide) rfl ?_
  refine s_goto (pc := 204) (tgt := 98) d_X7_together_204 (by decide) ?_
  exact hk98 _ _ _ h
set_option maxHeartbeats 4000000 in
set_option maxRecDepth 20000 in
theorem t_X7_together_b188 {l : Launch} {G : Gl} {n : Nat} {sh : Sh} {x : Int32 × Mu} {k62 : Int32 → Mu → Option (Int32 × Mu)} {k79 : Int32 → Mu → Option (Int32 × Mu)} {k98 : Int32 → Int32 → Mu → Option (Int32 × Mu)} {v0 : Nat} {v1 : Int32} {v2 : Int32} {v3 : Int32} {v4 : Int32} {v5 : Int32} {v6 : Int32} {v7 : Int32} {s0 : Int32} {s1 : Int32} {s2 : Nat} {μ : Mu} (hk62 : ∀ (v3 : Int32) (μ : Mu), k62 v3 μ = some x → Sj l G (QI G n sh x) c_X7_together n sh 0 0 μ 62 [some (vr v0), some (vi v1), some (vi v2), some (vi v3), none, none, none, none] []) (hk79 : ∀ (v4 : Int32) (μ : Mu), k79 v4 μ = some x → Sj l G (QI G n sh x) c_X7_together n sh 0 0 μ 79 [some (vr v0), some (vi v1), some (vi v2), some (vi v3), some (vi v4), none, none, none] []) (hk98 : ∀ (v5 : Int32) (v6 : Int32) (μ : Mu), k98 v5 v6 μ = some x → Sj l G (QI G n sh x) c_X7_together n sh 0 0 μ 98 [some (vr v0), some (vi v1), some (vi v2), some (vi v3), some (vi v4), some (vi v5), some (vi v6), none] []) (h : m_X7_together_b188 sh k62 k79 k98 v0 v1 v2 v3 v4 v5 v6 v7 s0 s1 s2 μ = some x) : Sj l G (QI G n sh x) c_X7_together n sh 0 0 μ 188 [some (vr v0), some (vi v1), some (vi v2), some (vi v3), some (vi v4), some (vi v5), some (vi v6), some (vi v7)] [vi s0, vi s1, vr s2] := by
  unfold m_X7_together_b188 at h
  obtain ⟨g69, h⟩ := gd_1 h
  refine s_iast (pc := 188) d_X7_together_188 g69 ?_
  obtain ⟨μ70, eμ70, h⟩ := bd_1 h
  refine s_mu eμ70 ?_
  refine s_iload (pc := 189) d_X7_together_189 rfl ?_
  refine s_aload_n (pc := 191) d_X7_together_191 rfl rfl ?_
  obtain ⟨g71, h⟩ := gd_1 h
  refine s_getR (pc := 192) (k := 25) cl_7 d_X7_together_192 g71 (by decide) w_685 (rt_arr _) ?_
  obtain ⟨a72, ea72, h⟩ := bd_1 h
  refine s_topR ea72 ?_
  refine s_iload (pc := 195) d_X7_together_195 rfl ?_
  obtain ⟨g73, h⟩ := gd_1 h
  refine s_iald (pc := 197) d_X7_together_197 g73 ?_
  obtain ⟨w74, ew74, h⟩ := bd_1 h
  refine s_topI ew74 ?_
  refine s_iadd (pc := 198) d_X7_together_198 ?_
  obtain ⟨w75, ew75, h⟩ := bd_1 h
  refine s_topI ew75 ?_
  refine s_istore (pc := 199) (lc' := [some (vr v0), some (vi v1), some (vi v2), some (vi v3), some (vi v4), some (vi w75), some (vi v6), some (vi v7)]) d_X7_together_199 (by decide) rfl ?_
  refine s_mask [true, true, true, true, true, true, true, false] rfl ?_
  exact t_X7_together_b201 hk62 hk79 hk98 h
set_option maxHeartbeats 4000000 in
set_option maxRecDepth 20000 in
theorem t_X7_together_b207 {l : Launch} {G : Gl} {n : Nat} {sh : Sh} {x : Int32 × Mu} {k62 : Int32 → Mu → Option (Int32 × Mu)} {k79 : Int32 → Mu → Option (Int32 × Mu)} {v0 : Nat} {v1 : Int32} {v2 : Int32} {v3 : Int32} {v4 : Int32} {v5 : Int32} {μ : Mu} (hk62 : ∀ (v3 : Int32) (μ : Mu), k62 v3 μ = some x → Sj l G (QI G n sh x) c_X7_together n sh 0 0 μ 62 [some (vr v0), some (vi v1), some (vi v2), some (vi v3), none, none, none, none] []) (hk79 : ∀ (v4 : Int32) (μ : Mu), k79 v4 μ = some x → Sj l G (QI G n sh x) c_X7_together n sh 0 0 μ 79 [some (vr v0), some (vi v1), some (vi v2), some (vi v3), some (vi v4), none, none, none] []) (h : m_X7_together_b207 sh k62 k79 v0 v1 v2 v3 v4 v5 μ = some x) : Sj l G (QI G n sh x) c_X7_together n sh 0 0 μ 207 [some (vr v0), some (vi v1), some (vi v2), some (vi v3), some (vi v4), some (vi v5), none, none] [] := by
  unfold m_X7_together_b207 at h
  refine s_aload_n (pc := 207) d_X7_together_207 rfl rfl ?_
  obtain ⟨g63, h⟩ := gd_1 h
  refine s_getR (pc := 208) (k := 25) cl_7 d_X7_together_208 g63 (by decide) w_685 (rt_arr _) ?_
  obtain ⟨a64, ea64, h⟩ := bd_1 h
  refine s_topR ea64 ?_
  refine s_iload (pc := 211) d_X7_together_211 rfl ?_
  refine s_iload (pc := 213) d_X7_together_213 rfl ?_
  obtain ⟨g65, h⟩ := gd_1 h
  refine s_iast (pc := 215) d_X7_together_215 g65 ?_
  obtain ⟨μ66, eμ66, h⟩ := bd_1 h
  refine s_mu eμ66 ?_
  obtain ⟨w67, ew67, h⟩ := bd_1 h
  refine s_iinc (pc := 216) (v := w67) (lc' := [some (vr v0), some (vi v1), some (vi v2), some (vi v3), some (vi w67), some (vi v5), none, none]) d_X7_together_216 rfl (by rw [ew67]; rfl) (by decide) rfl ?_
  refine s_goto (pc := 219) (tgt := 79) d_X7_together_219 (by decide) ?_
  refine s_mask [true, true, true, true, true, false, true, true] rfl ?_
  exact hk79 _ _ h
set_option maxHeartbeats 4000000 in
set_option maxRecDepth 20000 in
theorem t_X7_together_b98 {l : Launch} {G : Gl} {n : Nat} {sh : Sh} {x : Int32 × Mu} {k62 : Int32 → Mu → Option (Int32 × Mu)} {k79 : Int32 → Mu → Option (Int32 × Mu)} {k98 : Int32 → Int32 → Mu → Option (Int32 × Mu)} {v0 : Nat} {v1 : Int32} {v2 : Int32} {v3 : Int32} {v4 : Int32} {v5 : Int32} {v6 : Int32} {μ : Mu} (hk62 : ∀ (v3 : Int32) (μ : Mu), k62 v3 μ = some x → Sj l G (QI G n sh x) c_X7_together n sh 0 0 μ 62 [some (vr v0), some (vi v1), some (vi v2), some (vi v3), none, none, none, none] []) (hk79 : ∀ (v4 : Int32) (μ : Mu), k79 v4 μ = some x → Sj l G (QI G n sh x) c_X7_together n sh 0 0 μ 79 [some (vr v0), some (vi v1), some (vi v2), some (vi v3), some (vi v4), none, none, none] []) (hk98 : ∀ (v5 : Int32) (v6 : Int32) (μ : Mu), k98 v5 v6 μ = some x → Sj l G (QI G n sh x) c_X7_together n sh 0 0 μ 98 [some (vr v0), some (vi v1), some (vi v2), some (vi v3), some (vi v4), some (vi v5), some (vi v6), none] []) (h : m_X7_together_b98 sh k62 k79 k98 v0 v1 v2 v3 v4 v5 v6 μ = some x) : Sj l G (QI G n sh x) c_X7_together n sh 0 0 μ 98 [some (vr v0), some (vi v1), some (vi v2), some (vi v3), some (vi v4), some (vi v5), some (vi v6), none] [] := by
  unfold m_X7_together_b98 at h
  refine s_iload (pc := 98) d_X7_together_98 rfl ?_
  refine s_aload_n (pc := 100) d_X7_together_100 rfl rfl ?_
  obtain ⟨g37, h⟩ := gd_1 h
  refine s_getR (pc := 101) (k := 16) cl_7 d_X7_together_101 g37 (by decide) w_676 (rt_arr _) ?_
  obtain ⟨a38, ea38, h⟩ := bd_1 h
  refine s_topR ea38 ?_
  refine s_sipush (pc := 104) (v := 202) d_X7_together_104 (by decide) ?_
  obtain ⟨g39, h⟩ := gd_1 h
  refine s_iald (pc := 107) d_X7_together_107 g39 ?_
  obtain ⟨w40, ew40, h⟩ := bd_1 h
  refine s_topI ew40 ?_
  refine s_icmp_ge (pc := 108) (tgt := 207) d_X7_together_108 (by decide) (fun c41 => ?_) (fun c41 => ?_)
  · have h := it_t c41 h
    refine s_mask [true, true, true, true, true, true, false, true] rfl ?_
    exact t_X7_together_b207 hk62 hk79 h
  · have h := it_f c41 h
    refine s_iload (pc := 111) d_X7_together_111 rfl ?_
    refine s_iload_n (pc := 113) d_X7_together_113 rfl rfl ?_
    refine s_iand (pc := 114) d_X7_together_114 ?_
    refine s_iload (pc := 115) d_X7_together_115 rfl ?_
    obtain ⟨r42, μ43, er42, h⟩ := ca2_1 h
    refine s_callS (pc := 117) (as := [vi (v4 &&& v2), vi v6]) (st := []) (vo := [vi r42]) (t_X7_has er42) d_X7_together_117 y_X7_has w_903 w_904 ⟨by decide, by decide⟩ ⟨Nat.le_of_ble_eq_true rfl, Nat.le_of_ble_eq_true rfl⟩ (Nat.le_of_ble_eq_true rfl) rfl rfl rfl ?_
    refine s_as (kc' := 0) (js' := 0) (pc' := 120) (st' := [vi r42]) ⟨rfl, rfl, rfl, rfl⟩ ?_
    refine s_if_eq (pc := 120) (tgt := 201) d_X7_together_120 (by decide) (fun c44 => ?_) (fun c44 => ?_)
    · have h := it_t c44 h
      exact t_X7_together_b201 hk62 hk79 hk98 h
    · have h := it_f c44 h
      refine s_aload_n (pc := 123) d_X7_together_123 rfl rfl ?_
      refine s_iload_n (pc := 124) d_X7_together_124 rfl rfl ?_
      refine s_iload (pc := 125) d_X7_together_125 rfl ?_
      obtain ⟨r45, μ46, er45, h⟩ := ca2_1 h
      refine s_callV (pc := 127) (as := [vi v3, vi v6]) (st := []) (vo := [vi r45]) (t_X7_goes er45) cl_7 g37 d_X7_together_127 y_X7_goes w_906 w_908 w_s24 ⟨by decide, by decide⟩ ⟨Nat.le_of_ble_eq_true rfl, Nat.le_of_ble_eq_true rfl⟩ (Nat.le_of_ble_eq_true rfl) rfl rfl rfl ?_
      refine s_as (kc' := 0) (js' := 0) (pc' := 130) (st' := [vi r45]) ⟨rfl, rfl, rfl, rfl⟩ ?_
      refine s_if_eq (pc := 130) (tgt := 201) d_X7_together_130 (by decide) (fun c47 => ?_) (fun c47 => ?_)
      · have h := it_t c47 h
        exact t_X7_together_b201 hk62 hk79 hk98 h
      · have h := it_f c47 h
        refine s_iload (pc := 133) d_X7_together_133 rfl ?_
        refine s_iconst (pc := 135) (v := 1) d_X7_together_135 (by decide) ?_
        refine s_iload (pc := 136) d_X7_together_136 rfl ?_
        refine s_ishl (pc := 138) d_X7_together_138 ?_
        refine s_iconst (pc := 139) (v := (-1)) d_X7_together_139 (by decide) ?_
        refine s_ixor (pc := 140) d_X7_together_140 ?_
        refine s_iand (pc := 141) d_X7_together_141 ?_
        obtain ⟨w48, ew48, h⟩ := bd_1 h
        refine s_topI ew48 ?_
        refine s_istore (pc := 142) (lc' := [some (vr v0), some (vi v1), some (vi v2), some (vi v3), some (vi v4), some (vi v5), some (vi v6), some (vi w48)]) d_X7_together_142 (by decide) rfl ?_
        refine s_aload_n (pc := 144) d_X7_together_144 rfl rfl ?_
        refine s_getR (pc := 145) (k := 24) cl_7 d_X7_together_145 g37 (by decide) w_684 (rt_arr _) ?_
        obtain ⟨a49, ea49, h⟩ := bd_1 h
        refine s_topR ea49 ?_
        refine s_iload (pc := 148) d_X7_together_148 rfl ?_
        refine s_aload_n (pc := 150) d_X7_together_150 rfl rfl ?_
        refine s_getR (pc := 151) (k := 24) cl_7 d_X7_together_151 g37 (by decide) w_684 (rt_arr _) ?_
        obtain ⟨a50, ea50, h⟩ := bd_1 h
        refine s_topR ea50 ?_
        refine s_iload (pc := 154) d_X7_together_154 rfl ?_
        obtain ⟨g51, h⟩ := gd_1 h
        refine s_iald (pc := 156) d_X7_together_156 g51 ?_
        obtain ⟨w52, ew52, h⟩ := bd_1 h
        refine s_topI ew52 ?_
        refine s_iconst (pc := 157) (v := 1) d_X7_together_157 (by decide) ?_
        refine s_iadd (pc := 158) d_X7_together_158 ?_
        refine s_aload_n (pc := 159) d_X7_together_159 rfl rfl ?_
        refine s_getR (pc := 160) (k := 24) cl_7 d_X7_together_160 g37 (by decide) w_684 (rt_arr _) ?_
        obtain ⟨a53, ea53, h⟩ := bd_1 h
        refine s_topR ea53 ?_
        refine s_iload (pc := 163) d_X7_together_163 rfl ?_
        obtain ⟨g54, h⟩ := gd_1 h
        refine s_iald (pc := 165) d_X7_together_165 g54 ?_
        obtain ⟨w55, ew55, h⟩ := bd_1 h
        refine s_topI ew55 ?_
        refine s_icmp_le (pc := 166) (tgt := 181) d_X7_together_166 (by decide) (fun c56 => ?_) (fun c56 => ?_)
        · have h := it_t c56 h
          refine s_aload_n (pc := 181) d_X7_together_181 rfl rfl ?_
          refine s_getR (pc := 182) (k := 24) cl_7 d_X7_together_182 g37 (by decide) w_684 (rt_arr _) ?_
          obtain ⟨a57, ea57, h⟩ := bd_1 h
          refine s_topR ea57 ?_
          refine s_iload (pc := 185) d_X7_together_185 rfl ?_
          obtain ⟨g58, h⟩ := gd_1 h
          refine s_iald (pc := 187) d_X7_together_187 g58 ?_
          obtain ⟨w59, ew59, h⟩ := bd_1 h
          refine s_topI ew59 ?_
          exact t_X7_together_b188 hk62 hk79 hk98 h
        · have h := it_f c56 h
          refine s_aload_n (pc := 169) d_X7_together_169 rfl rfl ?_
          refine s_getR (pc := 170) (k := 24) cl_7 d_X7_together_170 g37 (by decide) w_684 (rt_arr _) ?_
          obtain ⟨a60, ea60, h⟩ := bd_1 h
          refine s_topR ea60 ?_
          refine s_iload (pc := 173) d_X7_together_173 rfl ?_
          obtain ⟨g61, h⟩ := gd_1 h
          refine s_iald (pc := 175) d_X7_together_175 g61 ?_
          obtain ⟨w62, ew62, h⟩ := bd_1 h
          refine s_topI ew62 ?_
          refine s_iconst (pc := 176) (v := 1) d_X7_together_176 (by decide) ?_
          refine s_iadd (pc := 177) d_X7_together_177 ?_
          refine s_goto (pc := 178) (tgt := 188) d_X7_together_178 (by decide) ?_
          exact t_X7_together_b188 hk62 hk79 hk98 h
set_option maxHeartbeats 4000000 in
set_option maxRecDepth 20000 in
theorem t_X7_together_h98 {l : Launch} {G : Gl} {n : Nat} {sh : Sh} {x : Int32 × Mu} {k62 : Int32 → Mu → Option (Int32 × Mu)} {k79 : Int32 → Mu → Option (Int32 × Mu)} {v0 : Nat} {v1 : Int32} {v2 : Int32} {v3 : Int32} {v4 : Int32} (hk62 : ∀ (v3 : Int32) (μ : Mu), k62 v3 μ = some x → Sj l G (QI G n sh x) c_X7_together n sh 0 0 μ 62 [some (vr v0), some (vi v1), some (vi v2), some (vi v3), none, none, none, none] []) (hk79 : ∀ (v4 : Int32) (μ : Mu), k79 v4 μ = some x → Sj l G (QI G n sh x) c_X7_together n sh 0 0 μ 79 [some (vr v0), some (vi v1), some (vi v2), some (vi v3), some (vi v4), none, none, none] []) : ∀ (f : Nat) (v5 : Int32) (v6 : Int32) (μ : Mu), m_X7_together_h98 sh k62 k79 v0 v1 v2 v3 v4 f v5 v6 μ = some x → Sj l G (QI G n sh x) c_X7_together n sh 0 0 μ 98 [some (vr v0), some (vi v1), some (vi v2), some (vi v3), some (vi v4), some (vi v5), some (vi v6), none] [] := by
  intro f
  induction f with
  | zero =>
    intro v5 v6 μ h
    cases h
  | succ f ih =>
    intro v5 v6 μ h
    exact t_X7_together_b98 hk62 hk79 ih h
set_option maxHeartbeats 4000000 in
set_option maxRecDepth 20000 in
theorem t_X7_together_b222 {l : Launch} {G : Gl} {n : Nat} {sh : Sh} {x : Int32 × Mu} {k62 : Int32 → Mu → Option (Int32 × Mu)} {v0 : Nat} {v1 : Int32} {v2 : Int32} {v3 : Int32} {μ : Mu} (hk62 : ∀ (v3 : Int32) (μ : Mu), k62 v3 μ = some x → Sj l G (QI G n sh x) c_X7_together n sh 0 0 μ 62 [some (vr v0), some (vi v1), some (vi v2), some (vi v3), none, none, none, none] []) (h : m_X7_together_b222 sh k62 v0 v1 v2 v3 μ = some x) : Sj l G (QI G n sh x) c_X7_together n sh 0 0 μ 222 [some (vr v0), some (vi v1), some (vi v2), some (vi v3), none, none, none, none] [] := by
  unfold m_X7_together_b222 at h
  obtain ⟨w36, ew36, h⟩ := bd_1 h
  refine s_iinc (pc := 222) (v := w36) (lc' := [some (vr v0), some (vi v1), some (vi v2), some (vi w36), none, none, none, none]) d_X7_together_222 rfl (by rw [ew36]; rfl) (by decide) rfl ?_
  refine s_goto (pc := 225) (tgt := 62) d_X7_together_225 (by decide) ?_
  exact hk62 _ _ h
set_option maxHeartbeats 4000000 in
set_option maxRecDepth 20000 in
theorem t_X7_together_b79 {l : Launch} {G : Gl} {n : Nat} {sh : Sh} {x : Int32 × Mu} {k62 : Int32 → Mu → Option (Int32 × Mu)} {k79 : Int32 → Mu → Option (Int32 × Mu)} {v0 : Nat} {v1 : Int32} {v2 : Int32} {v3 : Int32} {v4 : Int32} {μ : Mu} (hk62 : ∀ (v3 : Int32) (μ : Mu), k62 v3 μ = some x → Sj l G (QI G n sh x) c_X7_together n sh 0 0 μ 62 [some (vr v0), some (vi v1), some (vi v2), some (vi v3), none, none, none, none] []) (hk79 : ∀ (v4 : Int32) (μ : Mu), k79 v4 μ = some x → Sj l G (QI G n sh x) c_X7_together n sh 0 0 μ 79 [some (vr v0), some (vi v1), some (vi v2), some (vi v3), some (vi v4), none, none, none] []) (h : m_X7_together_b79 sh k62 k79 v0 v1 v2 v3 v4 μ = some x) : Sj l G (QI G n sh x) c_X7_together n sh 0 0 μ 79 [some (vr v0), some (vi v1), some (vi v2), some (vi v3), some (vi v4), none, none, none] [] := by
  unfold m_X7_together_b79 at h
  refine s_iload (pc := 79) d_X7_together_79 rfl ?_
  refine s_if_lt (pc := 81) (tgt := 222) d_X7_together_81 (by decide) (fun c32 => ?_) (fun c32 => ?_)
  · have h := it_t c32 h
    refine s_mask [true, true, true, true, false, true, true, true] rfl ?_
    exact t_X7_together_b222 hk62 h
  · have h := it_f c32 h
    refine s_iload_n (pc := 84) d_X7_together_84 rfl rfl ?_
    refine s_iload_n (pc := 85) d_X7_together_85 rfl rfl ?_
    obtain ⟨r33, μ34, er33, h⟩ := ca2_1 h
    refine s_callS (pc := 86) (as := [vi v2, vi v3]) (st := []) (vo := [vi r33]) (t_X7_has er33) d_X7_together_86 y_X7_has w_903 w_904 ⟨by decide, by decide⟩ ⟨Nat.le_of_ble_eq_true rfl, Nat.le_of_ble_eq_true rfl⟩ (Nat.le_of_ble_eq_true rfl) rfl rfl rfl ?_
    refine s_as (kc' := 0) (js' := 0) (pc' := 89) (st' := [vi r33]) ⟨rfl, rfl, rfl, rfl⟩ ?_
    refine s_if_eq (pc := 89) (tgt := 222) d_X7_together_89 (by decide) (fun c35 => ?_) (fun c35 => ?_)
    · have h := it_t c35 h
      refine s_mask [true, true, true, true, false, true, true, true] rfl ?_
      exact t_X7_together_b222 hk62 h
    · have h := it_f c35 h
      refine s_iconst (pc := 92) (v := 0) d_X7_together_92 (by decide) ?_
      refine s_istore (pc := 93) (lc' := [some (vr v0), some (vi v1), some (vi v2), some (vi v3), some (vi v4), some (vi 0), none, none]) d_X7_together_93 (by decide) rfl ?_
      refine s_iconst (pc := 95) (v := 0) d_X7_together_95 (by decide) ?_
      refine s_istore (pc := 96) (lc' := [some (vr v0), some (vi v1), some (vi v2), some (vi v3), some (vi v4), some (vi 0), some (vi 0), none]) d_X7_together_96 (by decide) rfl ?_
      exact t_X7_together_h98 hk62 hk79 FU _ _ _ h
set_option maxHeartbeats 4000000 in
set_option maxRecDepth 20000 in
theorem t_X7_together_h79 {l : Launch} {G : Gl} {n : Nat} {sh : Sh} {x : Int32 × Mu} {k62 : Int32 → Mu → Option (Int32 × Mu)} {v0 : Nat} {v1 : Int32} {v2 : Int32} {v3 : Int32} (hk62 : ∀ (v3 : Int32) (μ : Mu), k62 v3 μ = some x → Sj l G (QI G n sh x) c_X7_together n sh 0 0 μ 62 [some (vr v0), some (vi v1), some (vi v2), some (vi v3), none, none, none, none] []) : ∀ (f : Nat) (v4 : Int32) (μ : Mu), m_X7_together_h79 sh k62 v0 v1 v2 v3 f v4 μ = some x → Sj l G (QI G n sh x) c_X7_together n sh 0 0 μ 79 [some (vr v0), some (vi v1), some (vi v2), some (vi v3), some (vi v4), none, none, none] [] := by
  intro f
  induction f with
  | zero =>
    intro v4 μ h
    cases h
  | succ f ih =>
    intro v4 μ h
    exact t_X7_together_b79 hk62 ih h
set_option maxHeartbeats 4000000 in
set_option maxRecDepth 20000 in
theorem t_X7_together_b228 {l : Launch} {G : Gl} {n : Nat} {sh : Sh} {x : Int32 × Mu} {v0 : Nat} {v1 : Int32} {v2 : Int32} {μ : Mu} (h : m_X7_together_b228 sh v0 v1 v2 μ = some x) : Sj l G (QI G n sh x) c_X7_together n sh 0 0 μ 228 [some (vr v0), some (vi v1), some (vi v2), none, none, none, none, none] [] := by
  unfold m_X7_together_b228 at h
  refine s_iload_n (pc := 228) d_X7_together_228 rfl rfl ?_
  refine s_if_ne (pc := 229) (tgt := 241) d_X7_together_229 (by decide) (fun c23 => ?_) (fun c23 => ?_)
  · have h := it_f c23 h
    refine s_aload_n (pc := 241) d_X7_together_241 rfl rfl ?_
    obtain ⟨g24, h⟩ := gd_1 h
    refine s_getR (pc := 242) (k := 25) cl_7 d_X7_together_242 g24 (by decide) w_685 (rt_arr _) ?_
    obtain ⟨a25, ea25, h⟩ := bd_1 h
    refine s_topR ea25 ?_
    refine s_iload_n (pc := 245) d_X7_together_245 rfl rfl ?_
    obtain ⟨g26, h⟩ := gd_1 h
    refine s_iald (pc := 246) d_X7_together_246 g26 ?_
    obtain ⟨w27, ew27, h⟩ := bd_1 h
    refine s_topI ew27 ?_
    obtain rfl := Option.some.inj h
    exact s_iret (pc := 247) d_X7_together_247 rfl
  · have h := it_t c23 h
    refine s_aload_n (pc := 232) d_X7_together_232 rfl rfl ?_
    obtain ⟨g28, h⟩ := gd_1 h
    refine s_getR (pc := 233) (k := 24) cl_7 d_X7_together_233 g28 (by decide) w_684 (rt_arr _) ?_
    obtain ⟨a29, ea29, h⟩ := bd_1 h
    refine s_topR ea29 ?_
    refine s_iload_n (pc := 236) d_X7_together_236 rfl rfl ?_
    obtain ⟨g30, h⟩ := gd_1 h
    refine s_iald (pc := 237) d_X7_together_237 g30 ?_
    obtain ⟨w31, ew31, h⟩ := bd_1 h
    refine s_topI ew31 ?_
    refine s_goto (pc := 238) (tgt := 247) d_X7_together_238 (by decide) ?_
    obtain rfl := Option.some.inj h
    exact s_iret (pc := 247) d_X7_together_247 rfl
set_option maxHeartbeats 4000000 in
set_option maxRecDepth 20000 in
theorem t_X7_together_b62 {l : Launch} {G : Gl} {n : Nat} {sh : Sh} {x : Int32 × Mu} {k62 : Int32 → Mu → Option (Int32 × Mu)} {v0 : Nat} {v1 : Int32} {v2 : Int32} {v3 : Int32} {μ : Mu} (hk62 : ∀ (v3 : Int32) (μ : Mu), k62 v3 μ = some x → Sj l G (QI G n sh x) c_X7_together n sh 0 0 μ 62 [some (vr v0), some (vi v1), some (vi v2), some (vi v3), none, none, none, none] []) (h : m_X7_together_b62 sh k62 v0 v1 v2 v3 μ = some x) : Sj l G (QI G n sh x) c_X7_together n sh 0 0 μ 62 [some (vr v0), some (vi v1), some (vi v2), some (vi v3), none, none, none, none] [] := by
  unfold m_X7_together_b62 at h
  refine s_iload_n (pc := 62) d_X7_together_62 rfl rfl ?_
  refine s_aload_n (pc := 63) d_X7_together_63 rfl rfl ?_
  obtain ⟨g18, h⟩ := gd_1 h
  refine s_getR (pc := 64) (k := 16) cl_7 d_X7_together_64 g18 (by decide) w_676 (rt_arr _) ?_
  obtain ⟨a19, ea19, h⟩ := bd_1 h
  refine s_topR ea19 ?_
  refine s_sipush (pc := 67) (v := 202) d_X7_together_67 (by decide) ?_
  obtain ⟨g20, h⟩ := gd_1 h
  refine s_iald (pc := 70) d_X7_together_70 g20 ?_
  obtain ⟨w21, ew21, h⟩ := bd_1 h
  refine s_topI ew21 ?_
  refine s_icmp_ge (pc := 71) (tgt := 228) d_X7_together_71 (by decide) (fun c22 => ?_) (fun c22 => ?_)
  · have h := it_t c22 h
    refine s_mask [true, true, true, false, true, true, true, true] rfl ?_
    exact t_X7_together_b228 h
  · have h := it_f c22 h
    refine s_sipush (pc := 74) (v := 255) d_X7_together_74 (by decide) ?_
    refine s_istore (pc := 77) (lc' := [some (vr v0), some (vi v1), some (vi v2), some (vi v3), some (vi 255), none, none, none]) d_X7_together_77 (by decide) rfl ?_
    exact t_X7_together_h79 hk62 FU _ _ h
set_option maxHeartbeats 4000000 in
set_option maxRecDepth 20000 in
theorem t_X7_together_h62 {l : Launch} {G : Gl} {n : Nat} {sh : Sh} {x : Int32 × Mu} {v0 : Nat} {v1 : Int32} {v2 : Int32} : ∀ (f : Nat) (v3 : Int32) (μ : Mu), m_X7_together_h62 sh v0 v1 v2 f v3 μ = some x → Sj l G (QI G n sh x) c_X7_together n sh 0 0 μ 62 [some (vr v0), some (vi v1), some (vi v2), some (vi v3), none, none, none, none] [] := by
  intro f
  induction f with
  | zero =>
    intro v3 μ h
    cases h
  | succ f ih =>
    intro v3 μ h
    exact t_X7_together_b62 ih h
set_option maxHeartbeats 4000000 in
set_option maxRecDepth 20000 in
theorem t_X7_together_b60 {l : Launch} {G : Gl} {n : Nat} {sh : Sh} {x : Int32 × Mu} {v0 : Nat} {v1 : Int32} {v2 : Int32} {μ : Mu} (h : m_X7_together_b60 sh v0 v1 v2 μ = some x) : Sj l G (QI G n sh x) c_X7_together n sh 0 0 μ 60 [some (vr v0), some (vi v1), some (vi v2), none, none, none, none, none] [] := by
  unfold m_X7_together_b60 at h
  refine s_iconst (pc := 60) (v := 0) d_X7_together_60 (by decide) ?_
  refine s_istore_n (pc := 61) (lc' := [some (vr v0), some (vi v1), some (vi v2), some (vi 0), none, none, none, none]) d_X7_together_61 rfl (by decide) rfl ?_
  exact t_X7_together_h62 FU _ _ h
set_option maxHeartbeats 4000000 in
set_option maxRecDepth 20000 in
theorem t_X7_together_b25 {l : Launch} {G : Gl} {n : Nat} {sh : Sh} {x : Int32 × Mu} {k25 : Int32 → Mu → Option (Int32 × Mu)} {v0 : Nat} {v1 : Int32} {v2 : Int32} {v3 : Int32} {μ : Mu} (hk25 : ∀ (v3 : Int32) (μ : Mu), k25 v3 μ = some x → Sj l G (QI G n sh x) c_X7_together n sh 0 0 μ 25 [some (vr v0), some (vi v1), some (vi v2), some (vi v3), none, none, none, none] []) (h : m_X7_together_b25 sh k25 v0 v1 v2 v3 μ = some x) : Sj l G (QI G n sh x) c_X7_together n sh 0 0 μ 25 [some (vr v0), some (vi v1), some (vi v2), some (vi v3), none, none, none, none] [] := by
  unfold m_X7_together_b25 at h
  refine s_iload_n (pc := 25) d_X7_together_25 rfl rfl ?_
  refine s_sipush (pc := 26) (v := 256) d_X7_together_26 (by decide) ?_
  refine s_icmp_ge (pc := 29) (tgt := 60) d_X7_together_29 (by decide) (fun c8 => ?_) (fun c8 => ?_)
  · have h := it_t c8 h
    refine s_mask [true, true, true, false, true, true, true, true] rfl ?_
    exact t_X7_together_b60 h
  · have h := it_f c8 h
    refine s_aload_n (pc := 32) d_X7_together_32 rfl rfl ?_
    obtain ⟨g9, h⟩ := gd_1 h
    refine s_getR (pc := 33) (k := 24) cl_7 d_X7_together_33 g9 (by decide) w_684 (rt_arr _) ?_
    obtain ⟨a10, ea10, h⟩ := bd_1 h
    refine s_topR ea10 ?_
    refine s_iload_n (pc := 36) d_X7_together_36 rfl rfl ?_
    refine s_iconst (pc := 37) (v := 0) d_X7_together_37 (by decide) ?_
    obtain ⟨g11, h⟩ := gd_1 h
    refine s_iast (pc := 38) d_X7_together_38 g11 ?_
    obtain ⟨μ12, eμ12, h⟩ := bd_1 h
    refine s_mu eμ12 ?_
    refine s_aload_n (pc := 39) d_X7_together_39 rfl rfl ?_
    refine s_getR (pc := 40) (k := 25) cl_7 d_X7_together_40 g9 (by decide) w_685 (rt_arr _) ?_
    obtain ⟨a13, ea13, h⟩ := bd_1 h
    refine s_topR ea13 ?_
    refine s_iload_n (pc := 43) d_X7_together_43 rfl rfl ?_
    refine s_iload_n (pc := 44) d_X7_together_44 rfl rfl ?_
    refine s_if_ne (pc := 45) (tgt := 52) d_X7_together_45 (by decide) (fun c14 => ?_) (fun c14 => ?_)
    · have h := it_f c14 h
      refine s_iconst (pc := 52) (v := 0) d_X7_together_52 (by decide) ?_
      exact t_X7_together_b53 hk25 h
    · have h := it_t c14 h
      refine s_iconst (pc := 48) (v := 1) d_X7_together_48 (by decide) ?_
      refine s_goto (pc := 49) (tgt := 53) d_X7_together_49 (by decide) ?_
      exact t_X7_together_b53 hk25 h
set_option maxHeartbeats 4000000 in
set_option maxRecDepth 20000 in
theorem t_X7_together_h25 {l : Launch} {G : Gl} {n : Nat} {sh : Sh} {x : Int32 × Mu} {v0 : Nat} {v1 : Int32} {v2 : Int32} : ∀ (f : Nat) (v3 : Int32) (μ : Mu), m_X7_together_h25 sh v0 v1 v2 f v3 μ = some x → Sj l G (QI G n sh x) c_X7_together n sh 0 0 μ 25 [some (vr v0), some (vi v1), some (vi v2), some (vi v3), none, none, none, none] [] := by
  intro f
  induction f with
  | zero =>
    intro v3 μ h
    cases h
  | succ f ih =>
    intro v3 μ h
    exact t_X7_together_b25 ih h
set_option maxHeartbeats 4000000 in
set_option maxRecDepth 20000 in
theorem t_X7_together {l : Launch} {G : Gl} {n : Nat} {sh : Sh} {x : Int32 × Mu} {v0 : Nat} {v1 : Int32} {μ : Mu} (h : m_X7_together sh v0 v1 μ = some x) : Ct l G ⟨"StripsOfFourModel", "together", "(I)I"⟩ prog_9_method_43_code 8 (some .int) { frames := 3, cells := 0, slots := 0, locals := 70 } n sh μ [vr v0, vi v1] (some (.int x.1)) n sh x.2 := by
  refine Ct.of (lc := [some (vr v0), some (vi v1), none, none, none, none, none, none]) (by decide +kernel) (Nat.le_of_ble_eq_true rfl) rfl ?_
  show Sj l G (QI G n sh x) c_X7_together n sh 0 0 μ 0 [some (vr v0), some (vi v1), none, none, none, none, none, none] []
  unfold m_X7_together at h
  refine s_aload_n (pc := 0) d_X7_together_0 rfl rfl ?_
  refine s_iconst (pc := 1) (v := 0) d_X7_together_1 (by decide) ?_
  obtain ⟨g1, h⟩ := gd_1 h
  refine s_putI (pc := 2) (k := 0) cl_7 d_X7_together_2 g1 (by decide) w_660 rfl rfl ?_
  obtain ⟨μ2, eμ2, h⟩ := bd_1 h
  refine s_mu eμ2 ?_
  refine s_iload_n (pc := 5) d_X7_together_5 rfl rfl ?_
  refine s_i2l (pc := 6) d_X7_together_6 ?_
  refine s_lconst (pc := 7) (v := 0) d_X7_together_7 (by decide) ?_
  refine s_lconst (pc := 8) (v := 1) d_X7_together_8 (by decide) ?_
  obtain ⟨r3, μ4, er3, h⟩ := ca2_1 h
  refine s_callS (pc := 9) (as := [vl (v1.toInt64), vl 0, vl 1]) (st := []) (vo := [vi r3]) (t_X7_in er3) d_X7_together_9 y_X7_in w_754 w_755 ⟨by decide, by decide⟩ ⟨Nat.le_of_ble_eq_true rfl, Nat.le_of_ble_eq_true rfl⟩ (Nat.le_of_ble_eq_true rfl) rfl rfl rfl ?_
  refine s_as (kc' := 0) (js' := 0) (pc' := 12) (st' := [vi r3]) ⟨rfl, rfl, rfl, rfl⟩ ?_
  refine s_if_ne (pc := 12) (tgt := 18) d_X7_together_12 (by decide) (fun c5 => ?_) (fun c5 => ?_)
  · have h := it_f c5 h
    refine s_aload_n (pc := 18) d_X7_together_18 rfl rfl ?_
    obtain ⟨r6, μ7, er6, h⟩ := ca2_1 h
    refine s_callV (pc := 19) (as := []) (st := []) (vo := [vi r6]) (t_X7_tornOnes er6) cl_7 g1 d_X7_together_19 y_X7_tornOnes w_785 w_787 w_s14 ⟨by decide, by decide⟩ ⟨Nat.le_of_ble_eq_true rfl, Nat.le_of_ble_eq_true rfl⟩ (Nat.le_of_ble_eq_true rfl) rfl rfl rfl ?_
    refine s_as (kc' := 0) (js' := 0) (pc' := 22) (st' := [vi r6]) ⟨rfl, rfl, rfl, rfl⟩ ?_
    refine s_istore_n (pc := 22) (lc' := [some (vr v0), some (vi v1), some (vi r6), none, none, none, none, none]) d_X7_together_22 rfl (by decide) rfl ?_
    refine s_iconst (pc := 23) (v := 0) d_X7_together_23 (by decide) ?_
    refine s_istore_n (pc := 24) (lc' := [some (vr v0), some (vi v1), some (vi r6), some (vi 0), none, none, none, none]) d_X7_together_24 rfl (by decide) rfl ?_
    exact t_X7_together_h25 FU _ _ h
  · have h := it_t c5 h
    refine s_bipush (pc := 15) (v := (-2)) d_X7_together_15 (by decide) ?_
    obtain rfl := Option.some.inj h
    exact s_iret (pc := 17) d_X7_together_17 rfl
/-! StripsOfFourModel.undo -/
abbrev c_X7_undo : Cf := (prog_9_method_37_code, 2, "StripsOfFourModel", "undo", (some .int), { frames := 0, cells := 0, slots := 0, locals := 0 })
theorem d_X7_undo_0 : decode prog_9_method_37_code 0 = .ok (.aload_n 0, 1) := by decide +kernel
theorem d_X7_undo_1 : decode prog_9_method_37_code 1 = .ok (.iconst 0, 1) := by decide +kernel
theorem d_X7_undo_2 : decode prog_9_method_37_code 2 = .ok (.putfield 66, 3) := by decide +kernel
theorem d_X7_undo_5 : decode prog_9_method_37_code 5 = .ok (.aload_n 0, 1) := by decide +kernel
theorem d_X7_undo_6 : decode prog_9_method_37_code 6 = .ok (.getfield 109, 3) := by decide +kernel
theorem d_X7_undo_9 : decode prog_9_method_37_code 9 = .ok (.ifCond .ne 6, 3) := by decide +kernel
theorem d_X7_undo_12 : decode prog_9_method_37_code 12 = .ok (.bipush (-3), 2) := by decide +kernel
theorem d_X7_undo_14 : decode prog_9_method_37_code 14 = .ok (.ireturn, 1) := by decide +kernel
theorem d_X7_undo_15 : decode prog_9_method_37_code 15 = .ok (.aload_n 0, 1) := by decide +kernel
theorem d_X7_undo_16 : decode prog_9_method_37_code 16 = .ok (.dup, 1) := by decide +kernel
theorem d_X7_undo_17 : decode prog_9_method_37_code 17 = .ok (.getfield 109, 3) := by decide +kernel
theorem d_X7_undo_20 : decode prog_9_method_37_code 20 = .ok (.iconst 1, 1) := by decide +kernel
theorem d_X7_undo_21 : decode prog_9_method_37_code 21 = .ok (.isub, 1) := by decide +kernel
theorem d_X7_undo_22 : decode prog_9_method_37_code 22 = .ok (.putfield 109, 3) := by decide +kernel
theorem d_X7_undo_25 : decode prog_9_method_37_code 25 = .ok (.iconst 0, 1) := by decide +kernel
theorem d_X7_undo_26 : decode prog_9_method_37_code 26 = .ok (.istore_n 1, 1) := by decide +kernel
theorem d_X7_undo_27 : decode prog_9_method_37_code 27 = .ok (.iload_n 1, 1) := by decide +kernel
theorem d_X7_undo_28 : decode prog_9_method_37_code 28 = .ok (.sipush 205, 3) := by decide +kernel
theorem d_X7_undo_31 : decode prog_9_method_37_code 31 = .ok (.if_icmp .ge 30, 3) := by decide +kernel
theorem d_X7_undo_34 : decode prog_9_method_37_code 34 = .ok (.aload_n 0, 1) := by decide +kernel
theorem d_X7_undo_35 : decode prog_9_method_37_code 35 = .ok (.getfield 31, 3) := by decide +kernel
theorem d_X7_undo_38 : decode prog_9_method_37_code 38 = .ok (.iload_n 1, 1) := by decide +kernel
theorem d_X7_undo_39 : decode prog_9_method_37_code 39 = .ok (.aload_n 0, 1) := by decide +kernel
theorem d_X7_undo_40 : decode prog_9_method_37_code 40 = .ok (.getfield 34, 3) := by decide +kernel
theorem d_X7_undo_43 : decode prog_9_method_37_code 43 = .ok (.sipush 205, 3) := by decide +kernel
theorem d_X7_undo_46 : decode prog_9_method_37_code 46 = .ok (.aload_n 0, 1) := by decide +kernel
theorem d_X7_undo_47 : decode prog_9_method_37_code 47 = .ok (.getfield 109, 3) := by decide +kernel
theorem d_X7_undo_50 : decode prog_9_method_37_code 50 = .ok (.imul, 1) := by decide +kernel
theorem d_X7_undo_51 : decode prog_9_method_37_code 51 = .ok (.iload_n 1, 1) := by decide +kernel
theorem d_X7_undo_52 : decode prog_9_method_37_code 52 = .ok (.iadd, 1) := by decide +kernel
theorem d_X7_undo_53 : decode prog_9_method_37_code 53 = .ok (.iaload, 1) := by decide +kernel
theorem d_X7_undo_54 : decode prog_9_method_37_code 54 = .ok (.iastore, 1) := by decide +kernel
theorem d_X7_undo_55 : decode prog_9_method_37_code 55 = .ok (.iinc 1 1, 3) := by decide +kernel
theorem d_X7_undo_58 : decode prog_9_method_37_code 58 = .ok (.goto (-31), 3) := by decide +kernel
theorem d_X7_undo_61 : decode prog_9_method_37_code 61 = .ok (.aload_n 0, 1) := by decide +kernel
theorem d_X7_undo_62 : decode prog_9_method_37_code 62 = .ok (.aload_n 0, 1) := by decide +kernel
theorem d_X7_undo_63 : decode prog_9_method_37_code 63 = .ok (.getfield 37, 3) := by decide +kernel
theorem d_X7_undo_66 : decode prog_9_method_37_code 66 = .ok (.aload_n 0, 1) := by decide +kernel
theorem d_X7_undo_67 : decode prog_9_method_37_code 67 = .ok (.getfield 109, 3) := by decide +kernel
theorem d_X7_undo_70 : decode prog_9_method_37_code 70 = .ok (.laload, 1) := by decide +kernel
theorem d_X7_undo_71 : decode prog_9_method_37_code 71 = .ok (.putfield 147, 3) := by decide +kernel
theorem d_X7_undo_74 : decode prog_9_method_37_code 74 = .ok (.aload_n 0, 1) := by decide +kernel
theorem d_X7_undo_75 : decode prog_9_method_37_code 75 = .ok (.getfield 109, 3) := by decide +kernel
theorem d_X7_undo_78 : decode prog_9_method_37_code 78 = .ok (.ireturn, 1) := by decide +kernel
def m_X7_undo_b61 (sh : Sh) (v0 : Nat) (μ : Mu) : Option (Int32 × Mu) :=
  gd (iz sh 7 v0) <|
  bd (gR μ v0 19) fun a15 =>
  gd (ix sh 9 a15 (gI μ v0 20)) <|
  bd (gJ μ a15 (gI μ v0 20).toNatClampNeg) fun w17 =>
  bd (sJ μ v0 17 w17) fun μ18 =>
  some (gI μ18 v0 20, μ18)
def m_X7_undo_b27 (sh : Sh) (k27 : Int32 → Mu → Option (Int32 × Mu)) (v0 : Nat) (v1 : Int32) (μ : Mu) : Option (Int32 × Mu) :=
  if 205 ≤ v1 then
    m_X7_undo_b61 sh v0 μ
  else
    gd (iz sh 7 v0) <|
    bd (gR μ v0 16) fun a7 =>
    bd (gR μ v0 18) fun a8 =>
    gd (ix sh 8 a8 ((205 * (gI μ v0 20)) + v1)) <|
    bd (gI μ a8 ((205 * (gI μ v0 20)) + v1).toNatClampNeg) fun w10 =>
    gd (ix sh 8 a7 v1) <|
    bd (sI μ a7 v1.toNatClampNeg w10) fun μ12 =>
    bd (v1 + 1) fun w13 =>
    k27 w13 μ12
def m_X7_undo_h27 (sh : Sh) (v0 : Nat) : Nat → Int32 → Mu → Option (Int32 × Mu)
  | 0 => fun _ _ => none
  | f + 1 => fun v1 μ => m_X7_undo_b27 sh (m_X7_undo_h27 sh v0 f) v0 v1 μ
def m_X7_undo (sh : Sh) (v0 : Nat) (μ : Mu) : Option (Int32 × Mu) :=
  gd (iz sh 7 v0) <|
  bd (sI μ v0 0 0) fun μ2 =>
  if (gI μ2 v0 20) = 0 then
    some ((-3), μ2)
  else
    bd (sI μ2 v0 20 ((gI μ2 v0 20) - 1)) fun μ4 =>
    m_X7_undo_h27 sh v0 FU 0 μ4
set_option maxHeartbeats 4000000 in
set_option maxRecDepth 20000 in
theorem t_X7_undo_b61 {l : Launch} {G : Gl} {n : Nat} {sh : Sh} {x : Int32 × Mu} {v0 : Nat} {μ : Mu} (h : m_X7_undo_b61 sh v0 μ = some x) : Sj l G (QI G n sh x) c_X7_undo n sh 0 0 μ 61 [some (vr v0), none] [] := by
  unfold m_X7_undo_b61 at h
  refine s_aload_n (pc := 61) d_X7_undo_61 rfl rfl ?_
  refine s_aload_n (pc := 62) d_X7_undo_62 rfl rfl ?_
  obtain ⟨g14, h⟩ := gd_1 h
  refine s_getR (pc := 63) (k := 19) cl_7 d_X7_undo_63 g14 (by decide) w_679 (rt_arr _) ?_
  obtain ⟨a15, ea15, h⟩ := bd_1 h
  refine s_topR ea15 ?_
  refine s_aload_n (pc := 66) d_X7_undo_66 rfl rfl ?_
  refine s_getI (pc := 67) (k := 20) cl_7 d_X7_undo_67 g14 (by decide) w_680 rfl ?_
  obtain ⟨g16, h⟩ := gd_1 h
  refine s_lald (pc := 70) d_X7_undo_70 g16 ?_
  obtain ⟨w17, ew17, h⟩ := bd_1 h
  refine s_topJ ew17 ?_
  refine s_putJ (pc := 71) (k := 17) cl_7 d_X7_undo_71 g14 (by decide) w_677 rfl rfl ?_
  obtain ⟨μ18, eμ18, h⟩ := bd_1 h
  refine s_mu eμ18 ?_
  refine s_aload_n (pc := 74) d_X7_undo_74 rfl rfl ?_
  refine s_getI (pc := 75) (k := 20) cl_7 d_X7_undo_75 g14 (by decide) w_680 rfl ?_
  obtain rfl := Option.some.inj h
  exact s_iret (pc := 78) d_X7_undo_78 rfl
set_option maxHeartbeats 4000000 in
set_option maxRecDepth 20000 in
theorem t_X7_undo_b27 {l : Launch} {G : Gl} {n : Nat} {sh : Sh} {x : Int32 × Mu} {k27 : Int32 → Mu → Option (Int32 × Mu)} {v0 : Nat} {v1 : Int32} {μ : Mu} (hk27 : ∀ (v1 : Int32) (μ : Mu), k27 v1 μ = some x → Sj l G (QI G n sh x) c_X7_undo n sh 0 0 μ 27 [some (vr v0), some (vi v1)] []) (h : m_X7_undo_b27 sh k27 v0 v1 μ = some x) : Sj l G (QI G n sh x) c_X7_undo n sh 0 0 μ 27 [some (vr v0), some (vi v1)] [] := by
  unfold m_X7_undo_b27 at h
  refine s_iload_n (pc := 27) d_X7_undo_27 rfl rfl ?_
  refine s_sipush (pc := 28) (v := 205) d_X7_undo_28 (by decide) ?_
  refine s_icmp_ge (pc := 31) (tgt := 61) d_X7_undo_31 (by decide) (fun c5 => ?_) (fun c5 => ?_)
  · have h := it_t c5 h
    refine s_mask [true, false] rfl ?_
    exact t_X7_undo_b61 h
  · have h := it_f c5 h
    refine s_aload_n (pc := 34) d_X7_undo_34 rfl rfl ?_
    obtain ⟨g6, h⟩ := gd_1 h
    refine s_getR (pc := 35) (k := 16) cl_7 d_X7_undo_35 g6 (by decide) w_676 (rt_arr _) ?_
    obtain ⟨a7, ea7, h⟩ := bd_1 h
    refine s_topR ea7 ?_
    refine s_iload_n (pc := 38) d_X7_undo_38 rfl rfl ?_
    refine s_aload_n (pc := 39) d_X7_undo_39 rfl rfl ?_
    refine s_getR (pc := 40) (k := 18) cl_7 d_X7_undo_40 g6 (by decide) w_678 (rt_arr _) ?_
    obtain ⟨a8, ea8, h⟩ := bd_1 h
    refine s_topR ea8 ?_
    refine s_sipush (pc := 43) (v := 205) d_X7_undo_43 (by decide) ?_
    refine s_aload_n (pc := 46) d_X7_undo_46 rfl rfl ?_
    refine s_getI (pc := 47) (k := 20) cl_7 d_X7_undo_47 g6 (by decide) w_680 rfl ?_
    refine s_imul (pc := 50) d_X7_undo_50 ?_
    refine s_iload_n (pc := 51) d_X7_undo_51 rfl rfl ?_
    refine s_iadd (pc := 52) d_X7_undo_52 ?_
    obtain ⟨g9, h⟩ := gd_1 h
    refine s_iald (pc := 53) d_X7_undo_53 g9 ?_
    obtain ⟨w10, ew10, h⟩ := bd_1 h
    refine s_topI ew10 ?_
    obtain ⟨g11, h⟩ := gd_1 h
    refine s_iast (pc := 54) d_X7_undo_54 g11 ?_
    obtain ⟨μ12, eμ12, h⟩ := bd_1 h
    refine s_mu eμ12 ?_
    obtain ⟨w13, ew13, h⟩ := bd_1 h
    refine s_iinc (pc := 55) (v := w13) (lc' := [some (vr v0), some (vi w13)]) d_X7_undo_55 rfl (by rw [ew13]; rfl) (by decide) rfl ?_
    refine s_goto (pc := 58) (tgt := 27) d_X7_undo_58 (by decide) ?_
    exact hk27 _ _ h
set_option maxHeartbeats 4000000 in
set_option maxRecDepth 20000 in
theorem t_X7_undo_h27 {l : Launch} {G : Gl} {n : Nat} {sh : Sh} {x : Int32 × Mu} {v0 : Nat} : ∀ (f : Nat) (v1 : Int32) (μ : Mu), m_X7_undo_h27 sh v0 f v1 μ = some x → Sj l G (QI G n sh x) c_X7_undo n sh 0 0 μ 27 [some (vr v0), some (vi v1)] [] := by
  intro f
  induction f with
  | zero =>
    intro v1 μ h
    cases h
  | succ f ih =>
    intro v1 μ h
    exact t_X7_undo_b27 ih h
set_option maxHeartbeats 4000000 in
set_option maxRecDepth 20000 in
theorem t_X7_undo {l : Launch} {G : Gl} {n : Nat} {sh : Sh} {x : Int32 × Mu} {v0 : Nat} {μ : Mu} (h : m_X7_undo sh v0 μ = some x) : Ct l G ⟨"StripsOfFourModel", "undo", "()I"⟩ prog_9_method_37_code 2 (some .int) { frames := 0, cells := 0, slots := 0, locals := 0 } n sh μ [vr v0] (some (.int x.1)) n sh x.2 := by
  refine Ct.of (lc := [some (vr v0), none]) (by decide +kernel) (Nat.le_of_ble_eq_true rfl) rfl ?_
  show Sj l G (QI G n sh x) c_X7_undo n sh 0 0 μ 0 [some (vr v0), none] []
  unfold m_X7_undo at h
  refine s_aload_n (pc := 0) d_X7_undo_0 rfl rfl ?_
  refine s_iconst (pc := 1) (v := 0) d_X7_undo_1 (by decide) ?_
  obtain ⟨g1, h⟩ := gd_1 h
  refine s_putI (pc := 2) (k := 0) cl_7 d_X7_undo_2 g1 (by decide) w_660 rfl rfl ?_
  obtain ⟨μ2, eμ2, h⟩ := bd_1 h
  refine s_mu eμ2 ?_
  refine s_aload_n (pc := 5) d_X7_undo_5 rfl rfl ?_
  refine s_getI (pc := 6) (k := 20) cl_7 d_X7_undo_6 g1 (by decide) w_680 rfl ?_
  refine s_if_ne (pc := 9) (tgt := 15) d_X7_undo_9 (by decide) (fun c3 => ?_) (fun c3 => ?_)
  · have h := it_f c3 h
    refine s_aload_n (pc := 15) d_X7_undo_15 rfl rfl ?_
    refine s_dup (pc := 16) d_X7_undo_16 rfl ?_
    refine s_getI (pc := 17) (k := 20) cl_7 d_X7_undo_17 g1 (by decide) w_680 rfl ?_
    refine s_iconst (pc := 20) (v := 1) d_X7_undo_20 (by decide) ?_
    refine s_isub (pc := 21) d_X7_undo_21 ?_
    refine s_putI (pc := 22) (k := 20) cl_7 d_X7_undo_22 g1 (by decide) w_680 rfl rfl ?_
    obtain ⟨μ4, eμ4, h⟩ := bd_1 h
    refine s_mu eμ4 ?_
    refine s_iconst (pc := 25) (v := 0) d_X7_undo_25 (by decide) ?_
    refine s_istore_n (pc := 26) (lc' := [some (vr v0), some (vi 0)]) d_X7_undo_26 rfl (by decide) rfl ?_
    exact t_X7_undo_h27 FU _ _ h
  · have h := it_t c3 h
    refine s_bipush (pc := 12) (v := (-3)) d_X7_undo_12 (by decide) ?_
    obtain rfl := Option.some.inj h
    exact s_iret (pc := 14) d_X7_undo_14 rfl
/-! StripsOfFourModel.whose -/
abbrev c_X7_whose : Cf := (prog_9_method_57_code, 12, "StripsOfFourModel", "whose", (some .long), { frames := 2, cells := 0, slots := 0, locals := 46 })
theorem d_X7_whose_0 : decode prog_9_method_57_code 0 = .ok (.aload_n 0, 1) := by decide +kernel
theorem d_X7_whose_1 : decode prog_9_method_57_code 1 = .ok (.iconst 0, 1) := by decide +kernel
theorem d_X7_whose_2 : decode prog_9_method_57_code 2 = .ok (.putfield 66, 3) := by decide +kernel
theorem d_X7_whose_5 : decode prog_9_method_57_code 5 = .ok (.aload_n 0, 1) := by decide +kernel
theorem d_X7_whose_6 : decode prog_9_method_57_code 6 = .ok (.iload_n 1, 1) := by decide +kernel
theorem d_X7_whose_7 : decode prog_9_method_57_code 7 = .ok (.invokevirtual 133, 3) := by decide +kernel
theorem d_X7_whose_10 : decode prog_9_method_57_code 10 = .ok (.ifCond .eq 7, 3) := by decide +kernel
theorem d_X7_whose_13 : decode prog_9_method_57_code 13 = .ok (.ldc2_w 201, 3) := by decide +kernel
theorem d_X7_whose_16 : decode prog_9_method_57_code 16 = .ok (.lreturn, 1) := by decide +kernel
theorem d_X7_whose_17 : decode prog_9_method_57_code 17 = .ok (.iload_n 2, 1) := by decide +kernel
theorem d_X7_whose_18 : decode prog_9_method_57_code 18 = .ok (.i2l, 1) := by decide +kernel
theorem d_X7_whose_19 : decode prog_9_method_57_code 19 = .ok (.lconst 1, 1) := by decide +kernel
theorem d_X7_whose_20 : decode prog_9_method_57_code 20 = .ok (.ldc2_w 203, 3) := by decide +kernel
theorem d_X7_whose_23 : decode prog_9_method_57_code 23 = .ok (.invokestatic 73, 3) := by decide +kernel
theorem d_X7_whose_26 : decode prog_9_method_57_code 26 = .ok (.ifCond .eq 14, 3) := by decide +kernel
theorem d_X7_whose_29 : decode prog_9_method_57_code 29 = .ok (.iload_n 3, 1) := by decide +kernel
theorem d_X7_whose_30 : decode prog_9_method_57_code 30 = .ok (.i2l, 1) := by decide +kernel
theorem d_X7_whose_31 : decode prog_9_method_57_code 31 = .ok (.lconst 0, 1) := by decide +kernel
theorem d_X7_whose_32 : decode prog_9_method_57_code 32 = .ok (.iload_n 2, 1) := by decide +kernel
theorem d_X7_whose_33 : decode prog_9_method_57_code 33 = .ok (.i2l, 1) := by decide +kernel
theorem d_X7_whose_34 : decode prog_9_method_57_code 34 = .ok (.invokestatic 73, 3) := by decide +kernel
theorem d_X7_whose_37 : decode prog_9_method_57_code 37 = .ok (.ifCond .ne 7, 3) := by decide +kernel
theorem d_X7_whose_40 : decode prog_9_method_57_code 40 = .ok (.ldc2_w 205, 3) := by decide +kernel
theorem d_X7_whose_43 : decode prog_9_method_57_code 43 = .ok (.lreturn, 1) := by decide +kernel
theorem d_X7_whose_44 : decode prog_9_method_57_code 44 = .ok (.lconst 0, 1) := by decide +kernel
theorem d_X7_whose_45 : decode prog_9_method_57_code 45 = .ok (.lstore 5, 2) := by decide +kernel
theorem d_X7_whose_47 : decode prog_9_method_57_code 47 = .ok (.lconst 0, 1) := by decide +kernel
theorem d_X7_whose_48 : decode prog_9_method_57_code 48 = .ok (.lstore 7, 2) := by decide +kernel
theorem d_X7_whose_50 : decode prog_9_method_57_code 50 = .ok (.iconst 0, 1) := by decide +kernel
theorem d_X7_whose_51 : decode prog_9_method_57_code 51 = .ok (.istore 9, 2) := by decide +kernel
theorem d_X7_whose_53 : decode prog_9_method_57_code 53 = .ok (.iload 9, 2) := by decide +kernel
theorem d_X7_whose_55 : decode prog_9_method_57_code 55 = .ok (.aload_n 0, 1) := by decide +kernel
theorem d_X7_whose_56 : decode prog_9_method_57_code 56 = .ok (.getfield 77, 3) := by decide +kernel
theorem d_X7_whose_59 : decode prog_9_method_57_code 59 = .ok (.if_icmp .ge 65, 3) := by decide +kernel
theorem d_X7_whose_62 : decode prog_9_method_57_code 62 = .ok (.aload_n 0, 1) := by decide +kernel
theorem d_X7_whose_63 : decode prog_9_method_57_code 63 = .ok (.getfield 19, 3) := by decide +kernel
theorem d_X7_whose_66 : decode prog_9_method_57_code 66 = .ok (.iload 9, 2) := by decide +kernel
theorem d_X7_whose_68 : decode prog_9_method_57_code 68 = .ok (.iaload, 1) := by decide +kernel
theorem d_X7_whose_69 : decode prog_9_method_57_code 69 = .ok (.i2l, 1) := by decide +kernel
theorem d_X7_whose_70 : decode prog_9_method_57_code 70 = .ok (.iload_n 3, 1) := by decide +kernel
theorem d_X7_whose_71 : decode prog_9_method_57_code 71 = .ok (.invokestatic 207, 3) := by decide +kernel
theorem d_X7_whose_74 : decode prog_9_method_57_code 74 = .ok (.bipush 10, 2) := by decide +kernel
theorem d_X7_whose_76 : decode prog_9_method_57_code 76 = .ok (.aload_n 0, 1) := by decide +kernel
theorem d_X7_whose_77 : decode prog_9_method_57_code 77 = .ok (.getfield 19, 3) := by decide +kernel
theorem d_X7_whose_80 : decode prog_9_method_57_code 80 = .ok (.iload 9, 2) := by decide +kernel
theorem d_X7_whose_82 : decode prog_9_method_57_code 82 = .ok (.iaload, 1) := by decide +kernel
theorem d_X7_whose_83 : decode prog_9_method_57_code 83 = .ok (.isub, 1) := by decide +kernel
theorem d_X7_whose_84 : decode prog_9_method_57_code 84 = .ok (.i2l, 1) := by decide +kernel
theorem d_X7_whose_85 : decode prog_9_method_57_code 85 = .ok (.iload_n 2, 1) := by decide +kernel
theorem d_X7_whose_86 : decode prog_9_method_57_code 86 = .ok (.iload_n 3, 1) := by decide +kernel
theorem d_X7_whose_87 : decode prog_9_method_57_code 87 = .ok (.isub, 1) := by decide +kernel
theorem d_X7_whose_88 : decode prog_9_method_57_code 88 = .ok (.invokestatic 207, 3) := by decide +kernel
theorem d_X7_whose_91 : decode prog_9_method_57_code 91 = .ok (.lmul, 1) := by decide +kernel
theorem d_X7_whose_92 : decode prog_9_method_57_code 92 = .ok (.lstore 10, 2) := by decide +kernel
theorem d_X7_whose_94 : decode prog_9_method_57_code 94 = .ok (.lload 5, 2) := by decide +kernel
theorem d_X7_whose_96 : decode prog_9_method_57_code 96 = .ok (.lload 10, 2) := by decide +kernel
theorem d_X7_whose_98 : decode prog_9_method_57_code 98 = .ok (.ladd, 1) := by decide +kernel
theorem d_X7_whose_99 : decode prog_9_method_57_code 99 = .ok (.lstore 5, 2) := by decide +kernel
theorem d_X7_whose_101 : decode prog_9_method_57_code 101 = .ok (.lload 7, 2) := by decide +kernel
theorem d_X7_whose_103 : decode prog_9_method_57_code 103 = .ok (.iload 9, 2) := by decide +kernel
theorem d_X7_whose_105 : decode prog_9_method_57_code 105 = .ok (.iload_n 1, 1) := by decide +kernel
theorem d_X7_whose_106 : decode prog_9_method_57_code 106 = .ok (.if_icmp .ne 8, 3) := by decide +kernel
theorem d_X7_whose_109 : decode prog_9_method_57_code 109 = .ok (.lload 10, 2) := by decide +kernel
theorem d_X7_whose_111 : decode prog_9_method_57_code 111 = .ok (.goto 4, 3) := by decide +kernel
theorem d_X7_whose_114 : decode prog_9_method_57_code 114 = .ok (.lconst 0, 1) := by decide +kernel
theorem d_X7_whose_115 : decode prog_9_method_57_code 115 = .ok (.ladd, 1) := by decide +kernel
theorem d_X7_whose_116 : decode prog_9_method_57_code 116 = .ok (.lstore 7, 2) := by decide +kernel
theorem d_X7_whose_118 : decode prog_9_method_57_code 118 = .ok (.iinc 9 1, 3) := by decide +kernel
theorem d_X7_whose_121 : decode prog_9_method_57_code 121 = .ok (.goto (-68), 3) := by decide +kernel
theorem d_X7_whose_124 : decode prog_9_method_57_code 124 = .ok (.lload 5, 2) := by decide +kernel
theorem d_X7_whose_126 : decode prog_9_method_57_code 126 = .ok (.lconst 0, 1) := by decide +kernel
theorem d_X7_whose_127 : decode prog_9_method_57_code 127 = .ok (.lcmp, 1) := by decide +kernel
theorem d_X7_whose_128 : decode prog_9_method_57_code 128 = .ok (.ifCond .ne 7, 3) := by decide +kernel
theorem d_X7_whose_131 : decode prog_9_method_57_code 131 = .ok (.ldc2_w 211, 3) := by decide +kernel
theorem d_X7_whose_134 : decode prog_9_method_57_code 134 = .ok (.lreturn, 1) := by decide +kernel
theorem d_X7_whose_135 : decode prog_9_method_57_code 135 = .ok (.lload 7, 2) := by decide +kernel
theorem d_X7_whose_137 : decode prog_9_method_57_code 137 = .ok (.lload 5, 2) := by decide +kernel
theorem d_X7_whose_139 : decode prog_9_method_57_code 139 = .ok (.invokestatic 213, 3) := by decide +kernel
theorem d_X7_whose_142 : decode prog_9_method_57_code 142 = .ok (.lstore 9, 2) := by decide +kernel
theorem d_X7_whose_144 : decode prog_9_method_57_code 144 = .ok (.iload 4, 2) := by decide +kernel
theorem d_X7_whose_146 : decode prog_9_method_57_code 146 = .ok (.ifCond .eq 11, 3) := by decide +kernel
theorem d_X7_whose_149 : decode prog_9_method_57_code 149 = .ok (.lload 7, 2) := by decide +kernel
theorem d_X7_whose_151 : decode prog_9_method_57_code 151 = .ok (.lload 9, 2) := by decide +kernel
theorem d_X7_whose_153 : decode prog_9_method_57_code 153 = .ok (.ldiv, 1) := by decide +kernel
theorem d_X7_whose_154 : decode prog_9_method_57_code 154 = .ok (.goto 8, 3) := by decide +kernel
theorem d_X7_whose_157 : decode prog_9_method_57_code 157 = .ok (.lload 5, 2) := by decide +kernel
theorem d_X7_whose_159 : decode prog_9_method_57_code 159 = .ok (.lload 9, 2) := by decide +kernel
theorem d_X7_whose_161 : decode prog_9_method_57_code 161 = .ok (.ldiv, 1) := by decide +kernel
theorem d_X7_whose_162 : decode prog_9_method_57_code 162 = .ok (.lreturn, 1) := by decide +kernel
def m_X7_whose_b115 (sh : Sh) (k53 : Int64 → Int64 → Int32 → Mu → Option (Int64 × Mu)) (v0 : Nat) (v1 : Int32) (v2 : Int32) (v3 : Int32) (v4 : Int32) (v5 : Int64) (v9 : Int32) (s0 : Int64) (s1 : Int64) (μ : Mu) : Option (Int64 × Mu) :=
  bd (s1 + s0) fun w33 =>
  bd (v9 + 1) fun w34 =>
  k53 v5 w33 w34 μ
def m_X7_whose_b124 (sh : Sh) (v4 : Int32) (v5 : Int64) (v7 : Int64) (μ : Mu) : Option (Int64 × Mu) :=
  if (lg_cmp v5 0) = 0 then
    some ((-3), μ)
  else
    ca2 (m_X7_divisor sh v7 v5 μ) fun r28 μ29 =>
    if v4 = 0 then
      gd (nzJ r28) <|
      some (v5 / r28, μ29)
    else
      gd (nzJ r28) <|
      some (v7 / r28, μ29)
def m_X7_whose_b53 (sh : Sh) (k53 : Int64 → Int64 → Int32 → Mu → Option (Int64 × Mu)) (v0 : Nat) (v1 : Int32) (v2 : Int32) (v3 : Int32) (v4 : Int32) (v5 : Int64) (v7 : Int64) (v9 : Int32) (μ : Mu) : Option (Int64 × Mu) :=
  gd (iz sh 7 v0) <|
  if (gI μ v0 6) ≤ v9 then
    m_X7_whose_b124 sh v4 v5 v7 μ
  else
    bd (gR μ v0 9) fun a14 =>
    gd (ix sh 8 a14 v9) <|
    bd (gI μ a14 v9.toNatClampNeg) fun w16 =>
    ca2 (m_X7_power sh (w16.toInt64) v3 μ) fun r17 μ18 =>
    bd (gR μ18 v0 9) fun a19 =>
    gd (ix sh 8 a19 v9) <|
    bd (gI μ18 a19 v9.toNatClampNeg) fun w21 =>
    ca2 (m_X7_power sh ((10 - w21).toInt64) (v2 - v3) μ18) fun r22 μ23 =>
    bd (r17 * r22) fun w24 =>
    bd (v5 + w24) fun w25 =>
    if v9 = v1 then
      m_X7_whose_b115 sh k53 v0 v1 v2 v3 v4 w25 v9 w24 v7 μ23
    else
      m_X7_whose_b115 sh k53 v0 v1 v2 v3 v4 w25 v9 0 v7 μ23
def m_X7_whose_h53 (sh : Sh) (v0 : Nat) (v1 : Int32) (v2 : Int32) (v3 : Int32) (v4 : Int32) : Nat → Int64 → Int64 → Int32 → Mu → Option (Int64 × Mu)
  | 0 => fun _ _ _ _ => none
  | f + 1 => fun v5 v7 v9 μ => m_X7_whose_b53 sh (m_X7_whose_h53 sh v0 v1 v2 v3 v4 f) v0 v1 v2 v3 v4 v5 v7 v9 μ
def m_X7_whose (sh : Sh) (v0 : Nat) (v1 : Int32) (v2 : Int32) (v3 : Int32) (v4 : Int32) (μ : Mu) : Option (Int64 × Mu) :=
  gd (iz sh 7 v0) <|
  bd (sI μ v0 0 0) fun μ2 =>
  ca2 (m_X7_noOne sh v0 v1 μ2) fun r3 μ4 =>
  if r3 = 0 then
    ca2 (m_X7_in sh (v2.toInt64) 1 8 μ4) fun r6 μ7 =>
    if r6 = 0 then
      some ((-2), μ7)
    else
      ca2 (m_X7_in sh (v3.toInt64) 0 (v2.toInt64) μ7) fun r9 μ10 =>
      if r9 = 0 then
        some ((-2), μ10)
      else
        m_X7_whose_h53 sh v0 v1 v2 v3 v4 FU 0 0 0 μ10
  else
    some ((-1), μ4)
set_option maxHeartbeats 4000000 in
set_option maxRecDepth 20000 in
theorem t_X7_whose_b115 {l : Launch} {G : Gl} {n : Nat} {sh : Sh} {x : Int64 × Mu} {k53 : Int64 → Int64 → Int32 → Mu → Option (Int64 × Mu)} {v0 : Nat} {v1 : Int32} {v2 : Int32} {v3 : Int32} {v4 : Int32} {v5 : Int64} {v9 : Int32} {s0 : Int64} {s1 : Int64} {μ : Mu} (hk53 : ∀ (v5 : Int64) (v7 : Int64) (v9 : Int32) (μ : Mu), k53 v5 v7 v9 μ = some x → Sj l G (QJ G n sh x) c_X7_whose n sh 0 0 μ 53 [some (vr v0), some (vi v1), some (vi v2), some (vi v3), some (vi v4), some (vl v5), none, some (vl v7), none, some (vi v9), none, none] []) (h : m_X7_whose_b115 sh k53 v0 v1 v2 v3 v4 v5 v9 s0 s1 μ = some x) : Sj l G (QJ G n sh x) c_X7_whose n sh 0 0 μ 115 [some (vr v0), some (vi v1), some (vi v2), some (vi v3), some (vi v4), some (vl v5), none, none, none, some (vi v9), none, none] [vl s0, vl s1] := by
  unfold m_X7_whose_b115 at h
  refine s_ladd (pc := 115) d_X7_whose_115 ?_
  obtain ⟨w33, ew33, h⟩ := bd_1 h
  refine s_topJ ew33 ?_
  refine s_lstore (pc := 116) (lc' := [some (vr v0), some (vi v1), some (vi v2), some (vi v3), some (vi v4), some (vl v5), none, some (vl w33), none, some (vi v9), none, none]) d_X7_whose_116 (by decide) rfl ?_
  obtain ⟨w34, ew34, h⟩ := bd_1 h
  refine s_iinc (pc := 118) (v := w34) (lc' := [some (vr v0), some (vi v1), some (vi v2), some (vi v3), some (vi v4), some (vl v5), none, some (vl w33), none, some (vi w34), none, none]) d_X7_whose_118 rfl (by rw [ew34]; rfl) (by decide) rfl ?_
  refine s_goto (pc := 121) (tgt := 53) d_X7_whose_121 (by decide) ?_
  exact hk53 _ _ _ _ h
set_option maxHeartbeats 4000000 in
set_option maxRecDepth 20000 in
theorem t_X7_whose_b124 {l : Launch} {G : Gl} {n : Nat} {sh : Sh} {x : Int64 × Mu} {v4 : Int32} {v5 : Int64} {v7 : Int64} {μ : Mu} (h : m_X7_whose_b124 sh v4 v5 v7 μ = some x) : Sj l G (QJ G n sh x) c_X7_whose n sh 0 0 μ 124 [none, none, none, none, some (vi v4), some (vl v5), none, some (vl v7), none, none, none, none] [] := by
  unfold m_X7_whose_b124 at h
  refine s_lload (pc := 124) d_X7_whose_124 rfl ?_
  refine s_lconst (pc := 126) (v := 0) d_X7_whose_126 (by decide) ?_
  refine s_lcmp (pc := 127) d_X7_whose_127 ?_
  refine s_if_ne (pc := 128) (tgt := 135) d_X7_whose_128 (by decide) (fun c27 => ?_) (fun c27 => ?_)
  · have h := it_f c27 h
    refine s_lload (pc := 135) d_X7_whose_135 rfl ?_
    refine s_lload (pc := 137) d_X7_whose_137 rfl ?_
    obtain ⟨r28, μ29, er28, h⟩ := ca2_1 h
    refine s_callS (pc := 139) (as := [vl v7, vl v5]) (st := []) (vo := [vl r28]) (t_X7_divisor er28) d_X7_whose_139 y_X7_divisor w_966 w_967 ⟨by decide, by decide⟩ ⟨Nat.le_of_ble_eq_true rfl, Nat.le_of_ble_eq_true rfl⟩ (Nat.le_of_ble_eq_true rfl) rfl rfl rfl ?_
    refine s_as (kc' := 0) (js' := 0) (pc' := 142) (st' := [vl r28]) ⟨rfl, rfl, rfl, rfl⟩ ?_
    refine s_lstore (pc := 142) (lc' := [none, none, none, none, some (vi v4), some (vl v5), none, some (vl v7), none, some (vl r28), none, none]) d_X7_whose_142 (by decide) rfl ?_
    refine s_iload (pc := 144) d_X7_whose_144 rfl ?_
    refine s_if_eq (pc := 146) (tgt := 157) d_X7_whose_146 (by decide) (fun c30 => ?_) (fun c30 => ?_)
    · have h := it_t c30 h
      refine s_lload (pc := 157) d_X7_whose_157 rfl ?_
      refine s_lload (pc := 159) d_X7_whose_159 rfl ?_
      obtain ⟨g31, h⟩ := gd_1 h
      refine s_ldiv (pc := 161) d_X7_whose_161 (nzJ_eq g31) ?_
      obtain rfl := Option.some.inj h
      exact s_lret (pc := 162) d_X7_whose_162 rfl
    · have h := it_f c30 h
      refine s_lload (pc := 149) d_X7_whose_149 rfl ?_
      refine s_lload (pc := 151) d_X7_whose_151 rfl ?_
      obtain ⟨g32, h⟩ := gd_1 h
      refine s_ldiv (pc := 153) d_X7_whose_153 (nzJ_eq g32) ?_
      refine s_goto (pc := 154) (tgt := 162) d_X7_whose_154 (by decide) ?_
      obtain rfl := Option.some.inj h
      exact s_lret (pc := 162) d_X7_whose_162 rfl
  · have h := it_t c27 h
    refine s_ldc2 (pc := 131) (v := (-3)) d_X7_whose_131 w_965 ?_
    obtain rfl := Option.some.inj h
    exact s_lret (pc := 134) d_X7_whose_134 rfl
set_option maxHeartbeats 4000000 in
set_option maxRecDepth 20000 in
theorem t_X7_whose_b53 {l : Launch} {G : Gl} {n : Nat} {sh : Sh} {x : Int64 × Mu} {k53 : Int64 → Int64 → Int32 → Mu → Option (Int64 × Mu)} {v0 : Nat} {v1 : Int32} {v2 : Int32} {v3 : Int32} {v4 : Int32} {v5 : Int64} {v7 : Int64} {v9 : Int32} {μ : Mu} (hk53 : ∀ (v5 : Int64) (v7 : Int64) (v9 : Int32) (μ : Mu), k53 v5 v7 v9 μ = some x → Sj l G (QJ G n sh x) c_X7_whose n sh 0 0 μ 53 [some (vr v0), some (vi v1), some (vi v2), some (vi v3), some (vi v4), some (vl v5), none, some (vl v7), none, some (vi v9), none, none] []) (h : m_X7_whose_b53 sh k53 v0 v1 v2 v3 v4 v5 v7 v9 μ = some x) : Sj l G (QJ G n sh x) c_X7_whose n sh 0 0 μ 53 [some (vr v0), some (vi v1), some (vi v2), some (vi v3), some (vi v4), some (vl v5), none, some (vl v7), none, some (vi v9), none, none] [] := by
  unfold m_X7_whose_b53 at h
  refine s_iload (pc := 53) d_X7_whose_53 rfl ?_
  refine s_aload_n (pc := 55) d_X7_whose_55 rfl rfl ?_
  obtain ⟨g12, h⟩ := gd_1 h
  refine s_getI (pc := 56) (k := 6) cl_7 d_X7_whose_56 g12 (by decide) w_666 rfl ?_
  refine s_icmp_ge (pc := 59) (tgt := 124) d_X7_whose_59 (by decide) (fun c13 => ?_) (fun c13 => ?_)
  · have h := it_t c13 h
    refine s_mask [false, false, false, false, true, true, true, true, true, false, true, true] rfl ?_
    exact t_X7_whose_b124 h
  · have h := it_f c13 h
    refine s_aload_n (pc := 62) d_X7_whose_62 rfl rfl ?_
    refine s_getR (pc := 63) (k := 9) cl_7 d_X7_whose_63 g12 (by decide) w_669 (rt_arr _) ?_
    obtain ⟨a14, ea14, h⟩ := bd_1 h
    refine s_topR ea14 ?_
    refine s_iload (pc := 66) d_X7_whose_66 rfl ?_
    obtain ⟨g15, h⟩ := gd_1 h
    refine s_iald (pc := 68) d_X7_whose_68 g15 ?_
    obtain ⟨w16, ew16, h⟩ := bd_1 h
    refine s_topI ew16 ?_
    refine s_i2l (pc := 69) d_X7_whose_69 ?_
    refine s_iload_n (pc := 70) d_X7_whose_70 rfl rfl ?_
    obtain ⟨r17, μ18, er17, h⟩ := ca2_1 h
    refine s_callS (pc := 71) (as := [vl (w16.toInt64), vi v3]) (st := []) (vo := [vl r17]) (t_X7_power er17) d_X7_whose_71 y_X7_power w_962 w_963 ⟨by decide, by decide⟩ ⟨Nat.le_of_ble_eq_true rfl, Nat.le_of_ble_eq_true rfl⟩ (Nat.le_of_ble_eq_true rfl) rfl rfl rfl ?_
    refine s_as (kc' := 0) (js' := 0) (pc' := 74) (st' := [vl r17]) ⟨rfl, rfl, rfl, rfl⟩ ?_
    refine s_bipush (pc := 74) (v := 10) d_X7_whose_74 (by decide) ?_
    refine s_aload_n (pc := 76) d_X7_whose_76 rfl rfl ?_
    refine s_getR (pc := 77) (k := 9) cl_7 d_X7_whose_77 g12 (by decide) w_669 (rt_arr _) ?_
    obtain ⟨a19, ea19, h⟩ := bd_1 h
    refine s_topR ea19 ?_
    refine s_iload (pc := 80) d_X7_whose_80 rfl ?_
    obtain ⟨g20, h⟩ := gd_1 h
    refine s_iald (pc := 82) d_X7_whose_82 g20 ?_
    obtain ⟨w21, ew21, h⟩ := bd_1 h
    refine s_topI ew21 ?_
    refine s_isub (pc := 83) d_X7_whose_83 ?_
    refine s_i2l (pc := 84) d_X7_whose_84 ?_
    refine s_iload_n (pc := 85) d_X7_whose_85 rfl rfl ?_
    refine s_iload_n (pc := 86) d_X7_whose_86 rfl rfl ?_
    refine s_isub (pc := 87) d_X7_whose_87 ?_
    obtain ⟨r22, μ23, er22, h⟩ := ca2_1 h
    refine s_callS (pc := 88) (as := [vl ((10 - w21).toInt64), vi (v2 - v3)]) (st := [vl r17]) (vo := [vl r22]) (t_X7_power er22) d_X7_whose_88 y_X7_power w_962 w_963 ⟨by decide, by decide⟩ ⟨Nat.le_of_ble_eq_true rfl, Nat.le_of_ble_eq_true rfl⟩ (Nat.le_of_ble_eq_true rfl) rfl rfl rfl ?_
    refine s_as (kc' := 0) (js' := 0) (pc' := 91) (st' := [vl r22, vl r17]) ⟨rfl, rfl, rfl, rfl⟩ ?_
    refine s_lmul (pc := 91) d_X7_whose_91 ?_
    obtain ⟨w24, ew24, h⟩ := bd_1 h
    refine s_topJ ew24 ?_
    refine s_lstore (pc := 92) (lc' := [some (vr v0), some (vi v1), some (vi v2), some (vi v3), some (vi v4), some (vl v5), none, some (vl v7), none, some (vi v9), some (vl w24), none]) d_X7_whose_92 (by decide) rfl ?_
    refine s_lload (pc := 94) d_X7_whose_94 rfl ?_
    refine s_lload (pc := 96) d_X7_whose_96 rfl ?_
    refine s_ladd (pc := 98) d_X7_whose_98 ?_
    obtain ⟨w25, ew25, h⟩ := bd_1 h
    refine s_topJ ew25 ?_
    refine s_lstore (pc := 99) (lc' := [some (vr v0), some (vi v1), some (vi v2), some (vi v3), some (vi v4), some (vl w25), none, some (vl v7), none, some (vi v9), some (vl w24), none]) d_X7_whose_99 (by decide) rfl ?_
    refine s_lload (pc := 101) d_X7_whose_101 rfl ?_
    refine s_iload (pc := 103) d_X7_whose_103 rfl ?_
    refine s_iload_n (pc := 105) d_X7_whose_105 rfl rfl ?_
    refine s_icmp_ne (pc := 106) (tgt := 114) d_X7_whose_106 (by decide) (fun c26 => ?_) (fun c26 => ?_)
    · have h := it_f c26 h
      refine s_lconst (pc := 114) (v := 0) d_X7_whose_114 (by decide) ?_
      refine s_mask [true, true, true, true, true, true, true, false, true, true, false, true] rfl ?_
      exact t_X7_whose_b115 hk53 h
    · have h := it_t c26 h
      refine s_lload (pc := 109) d_X7_whose_109 rfl ?_
      refine s_goto (pc := 111) (tgt := 115) d_X7_whose_111 (by decide) ?_
      refine s_mask [true, true, true, true, true, true, true, false, true, true, false, true] rfl ?_
      exact t_X7_whose_b115 hk53 h
set_option maxHeartbeats 4000000 in
set_option maxRecDepth 20000 in
theorem t_X7_whose_h53 {l : Launch} {G : Gl} {n : Nat} {sh : Sh} {x : Int64 × Mu} {v0 : Nat} {v1 : Int32} {v2 : Int32} {v3 : Int32} {v4 : Int32} : ∀ (f : Nat) (v5 : Int64) (v7 : Int64) (v9 : Int32) (μ : Mu), m_X7_whose_h53 sh v0 v1 v2 v3 v4 f v5 v7 v9 μ = some x → Sj l G (QJ G n sh x) c_X7_whose n sh 0 0 μ 53 [some (vr v0), some (vi v1), some (vi v2), some (vi v3), some (vi v4), some (vl v5), none, some (vl v7), none, some (vi v9), none, none] [] := by
  intro f
  induction f with
  | zero =>
    intro v5 v7 v9 μ h
    cases h
  | succ f ih =>
    intro v5 v7 v9 μ h
    exact t_X7_whose_b53 ih h
set_option maxHeartbeats 4000000 in
set_option maxRecDepth 20000 in
theorem t_X7_whose {l : Launch} {G : Gl} {n : Nat} {sh : Sh} {x : Int64 × Mu} {v0 : Nat} {v1 : Int32} {v2 : Int32} {v3 : Int32} {v4 : Int32} {μ : Mu} (h : m_X7_whose sh v0 v1 v2 v3 v4 μ = some x) : Ct l G ⟨"StripsOfFourModel", "whose", "(IIIZ)J"⟩ prog_9_method_57_code 12 (some .long) { frames := 2, cells := 0, slots := 0, locals := 46 } n sh μ [vr v0, vi v1, vi v2, vi v3, vi v4] (some (.long x.1)) n sh x.2 := by
  refine Ct.of (lc := [some (vr v0), some (vi v1), some (vi v2), some (vi v3), some (vi v4), none, none, none, none, none, none, none]) (by decide +kernel) (Nat.le_of_ble_eq_true rfl) rfl ?_
  show Sj l G (QJ G n sh x) c_X7_whose n sh 0 0 μ 0 [some (vr v0), some (vi v1), some (vi v2), some (vi v3), some (vi v4), none, none, none, none, none, none, none] []
  unfold m_X7_whose at h
  refine s_aload_n (pc := 0) d_X7_whose_0 rfl rfl ?_
  refine s_iconst (pc := 1) (v := 0) d_X7_whose_1 (by decide) ?_
  obtain ⟨g1, h⟩ := gd_1 h
  refine s_putI (pc := 2) (k := 0) cl_7 d_X7_whose_2 g1 (by decide) w_660 rfl rfl ?_
  obtain ⟨μ2, eμ2, h⟩ := bd_1 h
  refine s_mu eμ2 ?_
  refine s_aload_n (pc := 5) d_X7_whose_5 rfl rfl ?_
  refine s_iload_n (pc := 6) d_X7_whose_6 rfl rfl ?_
  obtain ⟨r3, μ4, er3, h⟩ := ca2_1 h
  refine s_callV (pc := 7) (as := [vi v1]) (st := []) (vo := [vi r3]) (t_X7_noOne er3) cl_7 g1 d_X7_whose_7 y_X7_noOne w_813 w_815 w_s19 ⟨by decide, by decide⟩ ⟨Nat.le_of_ble_eq_true rfl, Nat.le_of_ble_eq_true rfl⟩ (Nat.le_of_ble_eq_true rfl) rfl rfl rfl ?_
  refine s_as (kc' := 0) (js' := 0) (pc' := 10) (st' := [vi r3]) ⟨rfl, rfl, rfl, rfl⟩ ?_
  refine s_if_eq (pc := 10) (tgt := 17) d_X7_whose_10 (by decide) (fun c5 => ?_) (fun c5 => ?_)
  · have h := it_t c5 h
    refine s_iload_n (pc := 17) d_X7_whose_17 rfl rfl ?_
    refine s_i2l (pc := 18) d_X7_whose_18 ?_
    refine s_lconst (pc := 19) (v := 1) d_X7_whose_19 (by decide) ?_
    refine s_ldc2 (pc := 20) (v := 8) d_X7_whose_20 w_960 ?_
    obtain ⟨r6, μ7, er6, h⟩ := ca2_1 h
    refine s_callS (pc := 23) (as := [vl (v2.toInt64), vl 1, vl 8]) (st := []) (vo := [vi r6]) (t_X7_in er6) d_X7_whose_23 y_X7_in w_754 w_755 ⟨by decide, by decide⟩ ⟨Nat.le_of_ble_eq_true rfl, Nat.le_of_ble_eq_true rfl⟩ (Nat.le_of_ble_eq_true rfl) rfl rfl rfl ?_
    refine s_as (kc' := 0) (js' := 0) (pc' := 26) (st' := [vi r6]) ⟨rfl, rfl, rfl, rfl⟩ ?_
    refine s_if_eq (pc := 26) (tgt := 40) d_X7_whose_26 (by decide) (fun c8 => ?_) (fun c8 => ?_)
    · have h := it_t c8 h
      refine s_ldc2 (pc := 40) (v := (-2)) d_X7_whose_40 w_961 ?_
      obtain rfl := Option.some.inj h
      exact s_lret (pc := 43) d_X7_whose_43 rfl
    · have h := it_f c8 h
      refine s_iload_n (pc := 29) d_X7_whose_29 rfl rfl ?_
      refine s_i2l (pc := 30) d_X7_whose_30 ?_
      refine s_lconst (pc := 31) (v := 0) d_X7_whose_31 (by decide) ?_
      refine s_iload_n (pc := 32) d_X7_whose_32 rfl rfl ?_
      refine s_i2l (pc := 33) d_X7_whose_33 ?_
      obtain ⟨r9, μ10, er9, h⟩ := ca2_1 h
      refine s_callS (pc := 34) (as := [vl (v3.toInt64), vl 0, vl (v2.toInt64)]) (st := []) (vo := [vi r9]) (t_X7_in er9) d_X7_whose_34 y_X7_in w_754 w_755 ⟨by decide, by decide⟩ ⟨Nat.le_of_ble_eq_true rfl, Nat.le_of_ble_eq_true rfl⟩ (Nat.le_of_ble_eq_true rfl) rfl rfl rfl ?_
      refine s_as (kc' := 0) (js' := 0) (pc' := 37) (st' := [vi r9]) ⟨rfl, rfl, rfl, rfl⟩ ?_
      refine s_if_ne (pc := 37) (tgt := 44) d_X7_whose_37 (by decide) (fun c11 => ?_) (fun c11 => ?_)
      · have h := it_f c11 h
        refine s_lconst (pc := 44) (v := 0) d_X7_whose_44 (by decide) ?_
        refine s_lstore (pc := 45) (lc' := [some (vr v0), some (vi v1), some (vi v2), some (vi v3), some (vi v4), some (vl 0), none, none, none, none, none, none]) d_X7_whose_45 (by decide) rfl ?_
        refine s_lconst (pc := 47) (v := 0) d_X7_whose_47 (by decide) ?_
        refine s_lstore (pc := 48) (lc' := [some (vr v0), some (vi v1), some (vi v2), some (vi v3), some (vi v4), some (vl 0), none, some (vl 0), none, none, none, none]) d_X7_whose_48 (by decide) rfl ?_
        refine s_iconst (pc := 50) (v := 0) d_X7_whose_50 (by decide) ?_
        refine s_istore (pc := 51) (lc' := [some (vr v0), some (vi v1), some (vi v2), some (vi v3), some (vi v4), some (vl 0), none, some (vl 0), none, some (vi 0), none, none]) d_X7_whose_51 (by decide) rfl ?_
        exact t_X7_whose_h53 FU _ _ _ _ h
      · have h := it_t c11 h
        refine s_ldc2 (pc := 40) (v := (-2)) d_X7_whose_40 w_961 ?_
        obtain rfl := Option.some.inj h
        exact s_lret (pc := 43) d_X7_whose_43 rfl
  · have h := it_f c5 h
    refine s_ldc2 (pc := 13) (v := (-1)) d_X7_whose_13 w_959 ?_
    obtain rfl := Option.some.inj h
    exact s_lret (pc := 16) d_X7_whose_16 rfl
/-! StripsOfFourModel.wipe -/
abbrev c_X7_wipe : Cf := (prog_9_method_10_code, 2, "StripsOfFourModel", "wipe", (some .int), { frames := 0, cells := 0, slots := 0, locals := 0 })
theorem d_X7_wipe_0 : decode prog_9_method_10_code 0 = .ok (.aload_n 0, 1) := by decide +kernel
theorem d_X7_wipe_1 : decode prog_9_method_10_code 1 = .ok (.iconst 0, 1) := by decide +kernel
theorem d_X7_wipe_2 : decode prog_9_method_10_code 2 = .ok (.putfield 66, 3) := by decide +kernel
theorem d_X7_wipe_5 : decode prog_9_method_10_code 5 = .ok (.aload_n 0, 1) := by decide +kernel
theorem d_X7_wipe_6 : decode prog_9_method_10_code 6 = .ok (.getfield 82, 3) := by decide +kernel
theorem d_X7_wipe_9 : decode prog_9_method_10_code 9 = .ok (.istore_n 1, 1) := by decide +kernel
theorem d_X7_wipe_10 : decode prog_9_method_10_code 10 = .ok (.aload_n 0, 1) := by decide +kernel
theorem d_X7_wipe_11 : decode prog_9_method_10_code 11 = .ok (.iconst 0, 1) := by decide +kernel
theorem d_X7_wipe_12 : decode prog_9_method_10_code 12 = .ok (.putfield 82, 3) := by decide +kernel
theorem d_X7_wipe_15 : decode prog_9_method_10_code 15 = .ok (.iload_n 1, 1) := by decide +kernel
theorem d_X7_wipe_16 : decode prog_9_method_10_code 16 = .ok (.ireturn, 1) := by decide +kernel
def m_X7_wipe (sh : Sh) (v0 : Nat) (μ : Mu) : Option (Int32 × Mu) :=
  gd (iz sh 7 v0) <|
  bd (sI μ v0 0 0) fun μ2 =>
  bd (gI μ2 v0 2) fun w3 =>
  bd (sI μ2 v0 2 0) fun μ4 =>
  some (w3, μ4)
set_option maxHeartbeats 4000000 in
set_option maxRecDepth 20000 in
theorem t_X7_wipe {l : Launch} {G : Gl} {n : Nat} {sh : Sh} {x : Int32 × Mu} {v0 : Nat} {μ : Mu} (h : m_X7_wipe sh v0 μ = some x) : Ct l G ⟨"StripsOfFourModel", "wipe", "()I"⟩ prog_9_method_10_code 2 (some .int) { frames := 0, cells := 0, slots := 0, locals := 0 } n sh μ [vr v0] (some (.int x.1)) n sh x.2 := by
  refine Ct.of (lc := [some (vr v0), none]) (by decide +kernel) (Nat.le_of_ble_eq_true rfl) rfl ?_
  show Sj l G (QI G n sh x) c_X7_wipe n sh 0 0 μ 0 [some (vr v0), none] []
  unfold m_X7_wipe at h
  refine s_aload_n (pc := 0) d_X7_wipe_0 rfl rfl ?_
  refine s_iconst (pc := 1) (v := 0) d_X7_wipe_1 (by decide) ?_
  obtain ⟨g1, h⟩ := gd_1 h
  refine s_putI (pc := 2) (k := 0) cl_7 d_X7_wipe_2 g1 (by decide) w_660 rfl rfl ?_
  obtain ⟨μ2, eμ2, h⟩ := bd_1 h
  refine s_mu eμ2 ?_
  refine s_aload_n (pc := 5) d_X7_wipe_5 rfl rfl ?_
  refine s_getI (pc := 6) (k := 2) cl_7 d_X7_wipe_6 g1 (by decide) w_662 rfl ?_
  obtain ⟨w3, ew3, h⟩ := bd_1 h
  refine s_topI ew3 ?_
  refine s_istore_n (pc := 9) (lc' := [some (vr v0), some (vi w3)]) d_X7_wipe_9 rfl (by decide) rfl ?_
  refine s_aload_n (pc := 10) d_X7_wipe_10 rfl rfl ?_
  refine s_iconst (pc := 11) (v := 0) d_X7_wipe_11 (by decide) ?_
  refine s_putI (pc := 12) (k := 2) cl_7 d_X7_wipe_12 g1 (by decide) w_662 rfl rfl ?_
  obtain ⟨μ4, eμ4, h⟩ := bd_1 h
  refine s_mu eμ4 ?_
  refine s_iload_n (pc := 15) d_X7_wipe_15 rfl rfl ?_
  obtain rfl := Option.some.inj h
  exact s_iret (pc := 16) d_X7_wipe_16 rfl
/-! StripsOfFourModel.write -/
abbrev c_X7_write : Cf := (prog_9_method_9_code, 2, "StripsOfFourModel", "write", (some .int), { frames := 1, cells := 0, slots := 0, locals := 25 })
theorem d_X7_write_0 : decode prog_9_method_9_code 0 = .ok (.aload_n 0, 1) := by decide +kernel
theorem d_X7_write_1 : decode prog_9_method_9_code 1 = .ok (.iconst 0, 1) := by decide +kernel
theorem d_X7_write_2 : decode prog_9_method_9_code 2 = .ok (.putfield 66, 3) := by decide +kernel
theorem d_X7_write_5 : decode prog_9_method_9_code 5 = .ok (.iload_n 1, 1) := by decide +kernel
theorem d_X7_write_6 : decode prog_9_method_9_code 6 = .ok (.i2l, 1) := by decide +kernel
theorem d_X7_write_7 : decode prog_9_method_9_code 7 = .ok (.lconst 0, 1) := by decide +kernel
theorem d_X7_write_8 : decode prog_9_method_9_code 8 = .ok (.ldc2_w 80, 3) := by decide +kernel
theorem d_X7_write_11 : decode prog_9_method_9_code 11 = .ok (.invokestatic 73, 3) := by decide +kernel
theorem d_X7_write_14 : decode prog_9_method_9_code 14 = .ok (.ifCond .ne 6, 3) := by decide +kernel
theorem d_X7_write_17 : decode prog_9_method_9_code 17 = .ok (.bipush (-2), 2) := by decide +kernel
theorem d_X7_write_19 : decode prog_9_method_9_code 19 = .ok (.ireturn, 1) := by decide +kernel
theorem d_X7_write_20 : decode prog_9_method_9_code 20 = .ok (.aload_n 0, 1) := by decide +kernel
theorem d_X7_write_21 : decode prog_9_method_9_code 21 = .ok (.getfield 82, 3) := by decide +kernel
theorem d_X7_write_24 : decode prog_9_method_9_code 24 = .ok (.bipush 24, 2) := by decide +kernel
theorem d_X7_write_26 : decode prog_9_method_9_code 26 = .ok (.if_icmp .ne 6, 3) := by decide +kernel
theorem d_X7_write_29 : decode prog_9_method_9_code 29 = .ok (.bipush (-4), 2) := by decide +kernel
theorem d_X7_write_31 : decode prog_9_method_9_code 31 = .ok (.ireturn, 1) := by decide +kernel
theorem d_X7_write_32 : decode prog_9_method_9_code 32 = .ok (.aload_n 0, 1) := by decide +kernel
theorem d_X7_write_33 : decode prog_9_method_9_code 33 = .ok (.getfield 7, 3) := by decide +kernel
theorem d_X7_write_36 : decode prog_9_method_9_code 36 = .ok (.aload_n 0, 1) := by decide +kernel
theorem d_X7_write_37 : decode prog_9_method_9_code 37 = .ok (.getfield 82, 3) := by decide +kernel
theorem d_X7_write_40 : decode prog_9_method_9_code 40 = .ok (.iload_n 1, 1) := by decide +kernel
theorem d_X7_write_41 : decode prog_9_method_9_code 41 = .ok (.iastore, 1) := by decide +kernel
theorem d_X7_write_42 : decode prog_9_method_9_code 42 = .ok (.aload_n 0, 1) := by decide +kernel
theorem d_X7_write_43 : decode prog_9_method_9_code 43 = .ok (.dup, 1) := by decide +kernel
theorem d_X7_write_44 : decode prog_9_method_9_code 44 = .ok (.getfield 82, 3) := by decide +kernel
theorem d_X7_write_47 : decode prog_9_method_9_code 47 = .ok (.iconst 1, 1) := by decide +kernel
theorem d_X7_write_48 : decode prog_9_method_9_code 48 = .ok (.iadd, 1) := by decide +kernel
theorem d_X7_write_49 : decode prog_9_method_9_code 49 = .ok (.putfield 82, 3) := by decide +kernel
theorem d_X7_write_52 : decode prog_9_method_9_code 52 = .ok (.aload_n 0, 1) := by decide +kernel
theorem d_X7_write_53 : decode prog_9_method_9_code 53 = .ok (.getfield 82, 3) := by decide +kernel
theorem d_X7_write_56 : decode prog_9_method_9_code 56 = .ok (.ireturn, 1) := by decide +kernel
def m_X7_write (sh : Sh) (v0 : Nat) (v1 : Int32) (μ : Mu) : Option (Int32 × Mu) :=
  gd (iz sh 7 v0) <|
  bd (sI μ v0 0 0) fun μ2 =>
  ca2 (m_X7_in sh (v1.toInt64) 0 255 μ2) fun r3 μ4 =>
  if r3 = 0 then
    some ((-2), μ4)
  else
    if (gI μ4 v0 2) = 24 then
      some ((-4), μ4)
    else
      bd (gR μ4 v0 1) fun a7 =>
      gd (ix sh 8 a7 (gI μ4 v0 2)) <|
      bd (sI μ4 a7 (gI μ4 v0 2).toNatClampNeg v1) fun μ9 =>
      bd (sI μ9 v0 2 ((gI μ9 v0 2) + 1)) fun μ10 =>
      some (gI μ10 v0 2, μ10)
set_option maxHeartbeats 4000000 in
set_option maxRecDepth 20000 in
theorem t_X7_write {l : Launch} {G : Gl} {n : Nat} {sh : Sh} {x : Int32 × Mu} {v0 : Nat} {v1 : Int32} {μ : Mu} (h : m_X7_write sh v0 v1 μ = some x) : Ct l G ⟨"StripsOfFourModel", "write", "(I)I"⟩ prog_9_method_9_code 2 (some .int) { frames := 1, cells := 0, slots := 0, locals := 25 } n sh μ [vr v0, vi v1] (some (.int x.1)) n sh x.2 := by
  refine Ct.of (lc := [some (vr v0), some (vi v1)]) (by decide +kernel) (Nat.le_of_ble_eq_true rfl) rfl ?_
  show Sj l G (QI G n sh x) c_X7_write n sh 0 0 μ 0 [some (vr v0), some (vi v1)] []
  unfold m_X7_write at h
  refine s_aload_n (pc := 0) d_X7_write_0 rfl rfl ?_
  refine s_iconst (pc := 1) (v := 0) d_X7_write_1 (by decide) ?_
  obtain ⟨g1, h⟩ := gd_1 h
  refine s_putI (pc := 2) (k := 0) cl_7 d_X7_write_2 g1 (by decide) w_660 rfl rfl ?_
  obtain ⟨μ2, eμ2, h⟩ := bd_1 h
  refine s_mu eμ2 ?_
  refine s_iload_n (pc := 5) d_X7_write_5 rfl rfl ?_
  refine s_i2l (pc := 6) d_X7_write_6 ?_
  refine s_lconst (pc := 7) (v := 0) d_X7_write_7 (by decide) ?_
  refine s_ldc2 (pc := 8) (v := 255) d_X7_write_8 w_753 ?_
  obtain ⟨r3, μ4, er3, h⟩ := ca2_1 h
  refine s_callS (pc := 11) (as := [vl (v1.toInt64), vl 0, vl 255]) (st := []) (vo := [vi r3]) (t_X7_in er3) d_X7_write_11 y_X7_in w_754 w_755 ⟨by decide, by decide⟩ ⟨Nat.le_of_ble_eq_true rfl, Nat.le_of_ble_eq_true rfl⟩ (Nat.le_of_ble_eq_true rfl) rfl rfl rfl ?_
  refine s_as (kc' := 0) (js' := 0) (pc' := 14) (st' := [vi r3]) ⟨rfl, rfl, rfl, rfl⟩ ?_
  refine s_if_ne (pc := 14) (tgt := 20) d_X7_write_14 (by decide) (fun c5 => ?_) (fun c5 => ?_)
  · have h := it_f c5 h
    refine s_aload_n (pc := 20) d_X7_write_20 rfl rfl ?_
    refine s_getI (pc := 21) (k := 2) cl_7 d_X7_write_21 g1 (by decide) w_662 rfl ?_
    refine s_bipush (pc := 24) (v := 24) d_X7_write_24 (by decide) ?_
    refine s_icmp_ne (pc := 26) (tgt := 32) d_X7_write_26 (by decide) (fun c6 => ?_) (fun c6 => ?_)
    · have h := it_f c6 h
      refine s_aload_n (pc := 32) d_X7_write_32 rfl rfl ?_
      refine s_getR (pc := 33) (k := 1) cl_7 d_X7_write_33 g1 (by decide) w_661 (rt_arr _) ?_
      obtain ⟨a7, ea7, h⟩ := bd_1 h
      refine s_topR ea7 ?_
      refine s_aload_n (pc := 36) d_X7_write_36 rfl rfl ?_
      refine s_getI (pc := 37) (k := 2) cl_7 d_X7_write_37 g1 (by decide) w_662 rfl ?_
      refine s_iload_n (pc := 40) d_X7_write_40 rfl rfl ?_
      obtain ⟨g8, h⟩ := gd_1 h
      refine s_iast (pc := 41) d_X7_write_41 g8 ?_
      obtain ⟨μ9, eμ9, h⟩ := bd_1 h
      refine s_mu eμ9 ?_
      refine s_aload_n (pc := 42) d_X7_write_42 rfl rfl ?_
      refine s_dup (pc := 43) d_X7_write_43 rfl ?_
      refine s_getI (pc := 44) (k := 2) cl_7 d_X7_write_44 g1 (by decide) w_662 rfl ?_
      refine s_iconst (pc := 47) (v := 1) d_X7_write_47 (by decide) ?_
      refine s_iadd (pc := 48) d_X7_write_48 ?_
      refine s_putI (pc := 49) (k := 2) cl_7 d_X7_write_49 g1 (by decide) w_662 rfl rfl ?_
      obtain ⟨μ10, eμ10, h⟩ := bd_1 h
      refine s_mu eμ10 ?_
      refine s_aload_n (pc := 52) d_X7_write_52 rfl rfl ?_
      refine s_getI (pc := 53) (k := 2) cl_7 d_X7_write_53 g1 (by decide) w_662 rfl ?_
      obtain rfl := Option.some.inj h
      exact s_iret (pc := 56) d_X7_write_56 rfl
    · have h := it_t c6 h
      refine s_bipush (pc := 29) (v := (-4)) d_X7_write_29 (by decide) ?_
      obtain rfl := Option.some.inj h
      exact s_iret (pc := 31) d_X7_write_31 rfl
  · have h := it_t c5 h
    refine s_bipush (pc := 17) (v := (-2)) d_X7_write_17 (by decide) ?_
    obtain rfl := Option.some.inj h
    exact s_iret (pc := 19) d_X7_write_19 rfl

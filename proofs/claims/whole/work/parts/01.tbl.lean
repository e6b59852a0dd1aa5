-- ===== PART A: goes FIRST, ahead of the names: the tables' words, and 'selects' of the private methods out of them =====
/-- a private method of a class that the tables say can be made, by its rows of tables_1 -/
def lw_okq (q : MethodName × Nat) : Prop := (q.1.cls ≠ "java/lang/invoke/MethodHandle" ∧ q.1.cls ≠ "java/lang/invoke/VarHandle") ∧ Cond.instantiable q.1.cls q.2 ∈ tables_1 ∧ Cond.privateMethod q.1 ∈ tables_1 ∧ Cond.instanceMethod q.1 ∈ tables_1
theorem lw_p0 : lw_okq (⟨"StripsOfFour$Plan", "dueBehind", "(II)I"⟩, 6) := ⟨⟨by decide +kernel, by decide +kernel⟩, List.mem_of_getElem? (i := 21) (by decide +kernel), List.mem_of_getElem? (i := 244) (by decide +kernel), List.mem_of_getElem? (i := 245) (by decide +kernel)⟩
theorem lw_p1 : lw_okq (⟨"StripsOfFour$Plan", "beginPart", "(I)I"⟩, 6) := ⟨⟨by decide +kernel, by decide +kernel⟩, List.mem_of_getElem? (i := 21) (by decide +kernel), List.mem_of_getElem? (i := 248) (by decide +kernel), List.mem_of_getElem? (i := 249) (by decide +kernel)⟩
theorem lw_p2 : lw_okq (⟨"StripsOfFour$Plan", "takeFigure", "(II)I"⟩, 6) := ⟨⟨by decide +kernel, by decide +kernel⟩, List.mem_of_getElem? (i := 21) (by decide +kernel), List.mem_of_getElem? (i := 252) (by decide +kernel), List.mem_of_getElem? (i := 253) (by decide +kernel)⟩
theorem lw_p3 : lw_okq (⟨"StripsOfFour$Scene", "drawBlinks", "(LStripsOfFour$Plan;I)I"⟩, 10) := ⟨⟨by decide +kernel, by decide +kernel⟩, List.mem_of_getElem? (i := 50) (by decide +kernel), List.mem_of_getElem? (i := 429) (by decide +kernel), List.mem_of_getElem? (i := 430) (by decide +kernel)⟩
theorem lw_p4 : lw_okq (⟨"StripsOfFour$Parts", "fitsOf", "(I)I"⟩, 4) := ⟨⟨by decide +kernel, by decide +kernel⟩, List.mem_of_getElem? (i := 155) (by decide +kernel), List.mem_of_getElem? (i := 515) (by decide +kernel), List.mem_of_getElem? (i := 516) (by decide +kernel)⟩
theorem lw_p5 : lw_okq (⟨"StripsOfFour$Rows", "countRows", "([I[I)V"⟩, 5) := ⟨⟨by decide +kernel, by decide +kernel⟩, List.mem_of_getElem? (i := 175) (by decide +kernel), List.mem_of_getElem? (i := 539) (by decide +kernel), List.mem_of_getElem? (i := 540) (by decide +kernel)⟩
theorem lw_p6 : lw_okq (⟨"StripsOfFour$Rows", "sumOver", "([III)I"⟩, 5) := ⟨⟨by decide +kernel, by decide +kernel⟩, List.mem_of_getElem? (i := 175) (by decide +kernel), List.mem_of_getElem? (i := 543) (by decide +kernel), List.mem_of_getElem? (i := 544) (by decide +kernel)⟩
theorem lw_p7 : lw_okq (⟨"StripsOfFour", "canBe", "(III)Z"⟩, 10) := ⟨⟨by decide +kernel, by decide +kernel⟩, List.mem_of_getElem? (i := 13) (by decide +kernel), List.mem_of_getElem? (i := 567) (by decide +kernel), List.mem_of_getElem? (i := 568) (by decide +kernel)⟩
theorem lw_p8 : lw_okq (⟨"StripsOfFour", "canSit", "(I)Z"⟩, 10) := ⟨⟨by decide +kernel, by decide +kernel⟩, List.mem_of_getElem? (i := 13) (by decide +kernel), List.mem_of_getElem? (i := 589) (by decide +kernel), List.mem_of_getElem? (i := 590) (by decide +kernel)⟩
theorem lw_p9 : lw_okq (⟨"StripsOfFour", "canHaveBeenIn", "(III)Z"⟩, 10) := ⟨⟨by decide +kernel, by decide +kernel⟩, List.mem_of_getElem? (i := 13) (by decide +kernel), List.mem_of_getElem? (i := 597) (by decide +kernel), List.mem_of_getElem? (i := 598) (by decide +kernel)⟩
theorem lw_p10 : lw_okq (⟨"StripsOfFourModel", "begin", "()V"⟩, 29) := ⟨⟨by decide +kernel, by decide +kernel⟩, List.mem_of_getElem? (i := 651) (by decide +kernel), List.mem_of_getElem? (i := 657) (by decide +kernel), List.mem_of_getElem? (i := 658) (by decide +kernel)⟩
theorem lw_p11 : lw_okq (⟨"StripsOfFourModel", "readFair", "()I"⟩, 29) := ⟨⟨by decide +kernel, by decide +kernel⟩, List.mem_of_getElem? (i := 651) (by decide +kernel), List.mem_of_getElem? (i := 766) (by decide +kernel), List.mem_of_getElem? (i := 767) (by decide +kernel)⟩
theorem lw_p12 : lw_okq (⟨"StripsOfFourModel", "figure", "(II)I"⟩, 29) := ⟨⟨by decide +kernel, by decide +kernel⟩, List.mem_of_getElem? (i := 651) (by decide +kernel), List.mem_of_getElem? (i := 770) (by decide +kernel), List.mem_of_getElem? (i := 771) (by decide +kernel)⟩
theorem lw_p13 : lw_okq (⟨"StripsOfFourModel", "readPart", "()Z"⟩, 29) := ⟨⟨by decide +kernel, by decide +kernel⟩, List.mem_of_getElem? (i := 651) (by decide +kernel), List.mem_of_getElem? (i := 774) (by decide +kernel), List.mem_of_getElem? (i := 775) (by decide +kernel)⟩
theorem lw_p14 : lw_okq (⟨"StripsOfFourModel", "tornOnes", "()I"⟩, 29) := ⟨⟨by decide +kernel, by decide +kernel⟩, List.mem_of_getElem? (i := 651) (by decide +kernel), List.mem_of_getElem? (i := 786) (by decide +kernel), List.mem_of_getElem? (i := 787) (by decide +kernel)⟩
theorem lw_p15 : lw_okq (⟨"StripsOfFourModel", "of", "(II)I"⟩, 29) := ⟨⟨by decide +kernel, by decide +kernel⟩, List.mem_of_getElem? (i := 651) (by decide +kernel), List.mem_of_getElem? (i := 790) (by decide +kernel), List.mem_of_getElem? (i := 791) (by decide +kernel)⟩
def lw_privs_1 : List (MethodName × Nat) := [(⟨"StripsOfFour$Plan", "dueBehind", "(II)I"⟩, 6), (⟨"StripsOfFour$Plan", "beginPart", "(I)I"⟩, 6), (⟨"StripsOfFour$Plan", "takeFigure", "(II)I"⟩, 6), (⟨"StripsOfFour$Scene", "drawBlinks", "(LStripsOfFour$Plan;I)I"⟩, 10), (⟨"StripsOfFour$Parts", "fitsOf", "(I)I"⟩, 4), (⟨"StripsOfFour$Rows", "countRows", "([I[I)V"⟩, 5), (⟨"StripsOfFour$Rows", "sumOver", "([III)I"⟩, 5), (⟨"StripsOfFour", "canBe", "(III)Z"⟩, 10), (⟨"StripsOfFour", "canSit", "(I)Z"⟩, 10), (⟨"StripsOfFour", "canHaveBeenIn", "(III)Z"⟩, 10), (⟨"StripsOfFourModel", "begin", "()V"⟩, 29), (⟨"StripsOfFourModel", "readFair", "()I"⟩, 29), (⟨"StripsOfFourModel", "figure", "(II)I"⟩, 29), (⟨"StripsOfFourModel", "readPart", "()Z"⟩, 29), (⟨"StripsOfFourModel", "tornOnes", "()I"⟩, 29), (⟨"StripsOfFourModel", "of", "(II)I"⟩, 29)]
theorem lw_r1 : ∀ q ∈ lw_privs_1, lw_okq q := List.forall_mem_cons.mpr ⟨lw_p0, List.forall_mem_cons.mpr ⟨lw_p1, List.forall_mem_cons.mpr ⟨lw_p2, List.forall_mem_cons.mpr ⟨lw_p3, List.forall_mem_cons.mpr ⟨lw_p4, List.forall_mem_cons.mpr ⟨lw_p5, List.forall_mem_cons.mpr ⟨lw_p6, List.forall_mem_cons.mpr ⟨lw_p7, List.forall_mem_cons.mpr ⟨lw_p8, List.forall_mem_cons.mpr ⟨lw_p9, List.forall_mem_cons.mpr ⟨lw_p10, List.forall_mem_cons.mpr ⟨lw_p11, List.forall_mem_cons.mpr ⟨lw_p12, List.forall_mem_cons.mpr ⟨lw_p13, List.forall_mem_cons.mpr ⟨lw_p14, List.forall_mem_cons.mpr ⟨lw_p15, fun _ h => absurd h List.not_mem_nil⟩⟩⟩⟩⟩⟩⟩⟩⟩⟩⟩⟩⟩⟩⟩⟩
theorem lw_p16 : lw_okq (⟨"StripsOfFourModel", "noBooth", "(I)Z"⟩, 29) := ⟨⟨by decide +kernel, by decide +kernel⟩, List.mem_of_getElem? (i := 651) (by decide +kernel), List.mem_of_getElem? (i := 798) (by decide +kernel), List.mem_of_getElem? (i := 799) (by decide +kernel)⟩
theorem lw_p17 : lw_okq (⟨"StripsOfFourModel", "isFlash", "(II)Z"⟩, 29) := ⟨⟨by decide +kernel, by decide +kernel⟩, List.mem_of_getElem? (i := 651) (by decide +kernel), List.mem_of_getElem? (i := 802) (by decide +kernel), List.mem_of_getElem? (i := 803) (by decide +kernel)⟩
theorem lw_p18 : lw_okq (⟨"StripsOfFourModel", "inOf", "(I)I"⟩, 29) := ⟨⟨by decide +kernel, by decide +kernel⟩, List.mem_of_getElem? (i := 651) (by decide +kernel), List.mem_of_getElem? (i := 806) (by decide +kernel), List.mem_of_getElem? (i := 807) (by decide +kernel)⟩
theorem lw_p19 : lw_okq (⟨"StripsOfFourModel", "noOne", "(I)Z"⟩, 29) := ⟨⟨by decide +kernel, by decide +kernel⟩, List.mem_of_getElem? (i := 651) (by decide +kernel), List.mem_of_getElem? (i := 814) (by decide +kernel), List.mem_of_getElem? (i := 815) (by decide +kernel)⟩
theorem lw_p20 : lw_okq (⟨"StripsOfFourModel", "noStrip", "(I)Z"⟩, 29) := ⟨⟨by decide +kernel, by decide +kernel⟩, List.mem_of_getElem? (i := 651) (by decide +kernel), List.mem_of_getElem? (i := 823) (by decide +kernel), List.mem_of_getElem? (i := 824) (by decide +kernel)⟩
theorem lw_p21 : lw_okq (⟨"StripsOfFourModel", "lookOf", "(III)I"⟩, 29) := ⟨⟨by decide +kernel, by decide +kernel⟩, List.mem_of_getElem? (i := 651) (by decide +kernel), List.mem_of_getElem? (i := 827) (by decide +kernel), List.mem_of_getElem? (i := 828) (by decide +kernel)⟩
theorem lw_p22 : lw_okq (⟨"StripsOfFourModel", "note", "()V"⟩, 29) := ⟨⟨by decide +kernel, by decide +kernel⟩, List.mem_of_getElem? (i := 651) (by decide +kernel), List.mem_of_getElem? (i := 847) (by decide +kernel), List.mem_of_getElem? (i := 848) (by decide +kernel)⟩
theorem lw_p23 : lw_okq (⟨"StripsOfFourModel", "flash", "(I)Z"⟩, 29) := ⟨⟨by decide +kernel, by decide +kernel⟩, List.mem_of_getElem? (i := 651) (by decide +kernel), List.mem_of_getElem? (i := 863) (by decide +kernel), List.mem_of_getElem? (i := 864) (by decide +kernel)⟩
theorem lw_p24 : lw_okq (⟨"StripsOfFourModel", "goes", "(II)Z"⟩, 29) := ⟨⟨by decide +kernel, by decide +kernel⟩, List.mem_of_getElem? (i := 651) (by decide +kernel), List.mem_of_getElem? (i := 907) (by decide +kernel), List.mem_of_getElem? (i := 908) (by decide +kernel)⟩
theorem lw_p25 : lw_okq (⟨"StripsOfFourModel", "layOrders", "()V"⟩, 29) := ⟨⟨by decide +kernel, by decide +kernel⟩, List.mem_of_getElem? (i := 651) (by decide +kernel), List.mem_of_getElem? (i := 915) (by decide +kernel), List.mem_of_getElem? (i := 916) (by decide +kernel)⟩
theorem lw_p26 : lw_okq (⟨"StripsOfFourModel", "fits", "(II)Z"⟩, 29) := ⟨⟨by decide +kernel, by decide +kernel⟩, List.mem_of_getElem? (i := 651) (by decide +kernel), List.mem_of_getElem? (i := 919) (by decide +kernel), List.mem_of_getElem? (i := 920) (by decide +kernel)⟩
theorem lw_p27 : lw_okq (⟨"StripsOfFourModel", "shown", "(II)I"⟩, 29) := ⟨⟨by decide +kernel, by decide +kernel⟩, List.mem_of_getElem? (i := 651) (by decide +kernel), List.mem_of_getElem? (i := 932) (by decide +kernel), List.mem_of_getElem? (i := 933) (by decide +kernel)⟩
theorem lw_p28 : lw_okq (⟨"StripsOfFourModel", "isElsewhere", "(III)Z"⟩, 29) := ⟨⟨by decide +kernel, by decide +kernel⟩, List.mem_of_getElem? (i := 651) (by decide +kernel), List.mem_of_getElem? (i := 936) (by decide +kernel), List.mem_of_getElem? (i := 937) (by decide +kernel)⟩
def lw_privs_2 : List (MethodName × Nat) := [(⟨"StripsOfFourModel", "noBooth", "(I)Z"⟩, 29), (⟨"StripsOfFourModel", "isFlash", "(II)Z"⟩, 29), (⟨"StripsOfFourModel", "inOf", "(I)I"⟩, 29), (⟨"StripsOfFourModel", "noOne", "(I)Z"⟩, 29), (⟨"StripsOfFourModel", "noStrip", "(I)Z"⟩, 29), (⟨"StripsOfFourModel", "lookOf", "(III)I"⟩, 29), (⟨"StripsOfFourModel", "note", "()V"⟩, 29), (⟨"StripsOfFourModel", "flash", "(I)Z"⟩, 29), (⟨"StripsOfFourModel", "goes", "(II)Z"⟩, 29), (⟨"StripsOfFourModel", "layOrders", "()V"⟩, 29), (⟨"StripsOfFourModel", "fits", "(II)Z"⟩, 29), (⟨"StripsOfFourModel", "shown", "(II)I"⟩, 29), (⟨"StripsOfFourModel", "isElsewhere", "(III)Z"⟩, 29)]
theorem lw_r2 : ∀ q ∈ lw_privs_2, lw_okq q := List.forall_mem_cons.mpr ⟨lw_p16, List.forall_mem_cons.mpr ⟨lw_p17, List.forall_mem_cons.mpr ⟨lw_p18, List.forall_mem_cons.mpr ⟨lw_p19, List.forall_mem_cons.mpr ⟨lw_p20, List.forall_mem_cons.mpr ⟨lw_p21, List.forall_mem_cons.mpr ⟨lw_p22, List.forall_mem_cons.mpr ⟨lw_p23, List.forall_mem_cons.mpr ⟨lw_p24, List.forall_mem_cons.mpr ⟨lw_p25, List.forall_mem_cons.mpr ⟨lw_p26, List.forall_mem_cons.mpr ⟨lw_p27, List.forall_mem_cons.mpr ⟨lw_p28, fun _ h => absurd h List.not_mem_nil⟩⟩⟩⟩⟩⟩⟩⟩⟩⟩⟩⟩⟩
def lw_privs : List (MethodName × Nat) := lw_privs_1 ++ (lw_privs_2)
def lw_tbl : List Cond := k2_sels lw_privs ++ tables_1
theorem lw_privs_ok : ∀ q ∈ lw_privs, lw_okq q := by
  show ∀ q ∈ lw_privs_1 ++ (lw_privs_2), lw_okq q
  exact List.forall_mem_append.mpr ⟨lw_r1, lw_r2⟩

def TX0 : u_T := fun k => match k with
  | 0 => ("StripsOfFour$Parts", "count", "I", false)
  | 1 => ("StripsOfFour$Parts", "torn", "[I", true)
  | 2 => ("StripsOfFour$Parts", "fits", "[I", true)
  | _ => ("StripsOfFour$Parts", "table", "[I", true)
def tyX0 : Nat → FieldType := fun k => match k with
  | 0 => .int
  | 1 => .array .int
  | 2 => .array .int
  | _ => .array .int
theorem nmX0 : ∀ a, a < 4 → ∀ b, b < 4 → a ≠ b → (TX0 a).2.1 ≠ (TX0 b).2.1 := by decide +kernel
theorem tyX0_ok : ∀ k, k < 4 → parseFieldDescriptor (TX0 k).2.2.1 = some (tyX0 k) := by decide +kernel
def TX1 : u_T := fun k => match k with
  | 0 => ("StripsOfFour$Past", "acts", "I", false)
  | 1 => ("StripsOfFour$Past", "first", "I", false)
  | _ => ("StripsOfFour$Past", "before", "[LStripsOfFour$Scene;", true)
def tyX1 : Nat → FieldType := fun k => match k with
  | 0 => .int
  | 1 => .int
  | _ => .array (.object "StripsOfFour$Scene")
theorem nmX1 : ∀ a, a < 3 → ∀ b, b < 3 → a ≠ b → (TX1 a).2.1 ≠ (TX1 b).2.1 := by decide +kernel
theorem tyX1_ok : ∀ k, k < 3 → parseFieldDescriptor (TX1 k).2.2.1 = some (tyX1 k) := by decide +kernel
def TX2 : u_T := fun k => match k with
  | 0 => ("StripsOfFour$Plan", "walk", "I", false)
  | 1 => ("StripsOfFour$Plan", "booths", "I", false)
  | 2 => ("StripsOfFour$Plan", "people", "I", false)
  | 3 => ("StripsOfFour$Plan", "firsts", "[I", true)
  | 4 => ("StripsOfFour$Plan", "everies", "[I", true)
  | _ => ("StripsOfFour$Plan", "tenths", "[I", true)
def tyX2 : Nat → FieldType := fun k => match k with
  | 0 => .int
  | 1 => .int
  | 2 => .int
  | 3 => .array .int
  | 4 => .array .int
  | _ => .array .int
theorem nmX2 : ∀ a, a < 6 → ∀ b, b < 6 → a ≠ b → (TX2 a).2.1 ≠ (TX2 b).2.1 := by decide +kernel
theorem tyX2_ok : ∀ k, k < 6 → parseFieldDescriptor (TX2 k).2.2.1 = some (tyX2 k) := by decide +kernel
def TX3 : u_T := fun k => match k with
  | 0 => ("StripsOfFour$Rows", "count", "I", false)
  | 1 => ("StripsOfFour$Rows", "before", "[I", true)
  | 2 => ("StripsOfFour$Rows", "behind", "[I", true)
  | 3 => ("StripsOfFour$Rows", "ending", "[I", true)
  | _ => ("StripsOfFour$Rows", "beginning", "[I", true)
def tyX3 : Nat → FieldType := fun k => match k with
  | 0 => .int
  | 1 => .array .int
  | 2 => .array .int
  | 3 => .array .int
  | _ => .array .int
theorem nmX3 : ∀ a, a < 5 → ∀ b, b < 5 → a ≠ b → (TX3 a).2.1 ≠ (TX3 b).2.1 := by decide +kernel
theorem tyX3_ok : ∀ k, k < 5 → parseFieldDescriptor (TX3 k).2.2.1 = some (tyX3 k) := by decide +kernel
def TX4 : u_T := fun k => match k with
  | 0 => ("StripsOfFour$Scene", "seed", "J", false)
  | 1 => ("StripsOfFour$Scene", "minute", "I", false)
  | 2 => ("StripsOfFour$Scene", "day", "I", false)
  | 3 => ("StripsOfFour$Scene", "hat", "I", false)
  | 4 => ("StripsOfFour$Scene", "strips", "I", false)
  | 5 => ("StripsOfFour$Scene", "chute", "[LStripsOfFour$Strip;", true)
  | 6 => ("StripsOfFour$Scene", "begun", "[LStripsOfFour$Strip;", true)
  | 7 => ("StripsOfFour$Scene", "places", "[I", true)
  | 8 => ("StripsOfFour$Scene", "leftBooths", "[I", true)
  | _ => ("StripsOfFour$Scene", "leftMinutes", "[I", true)
def tyX4 : Nat → FieldType := fun k => match k with
  | 0 => .long
  | 1 => .int
  | 2 => .int
  | 3 => .int
  | 4 => .int
  | 5 => .array (.object "StripsOfFour$Strip")
  | 6 => .array (.object "StripsOfFour$Strip")
  | 7 => .array .int
  | 8 => .array .int
  | _ => .array .int
theorem nmX4 : ∀ a, a < 10 → ∀ b, b < 10 → a ≠ b → (TX4 a).2.1 ≠ (TX4 b).2.1 := by decide +kernel
theorem tyX4_ok : ∀ k, k < 10 → parseFieldDescriptor (TX4 k).2.2.1 = some (tyX4 k) := by decide +kernel
def TX5 : u_T := fun k => match k with
  | 0 => ("StripsOfFour$Strip", "booth", "I", false)
  | 1 => ("StripsOfFour$Strip", "looks", "I", false)
  | 2 => ("StripsOfFour$Strip", "torn", "I", false)
  | 3 => ("StripsOfFour$Strip", "faded", "I", false)
  | _ => ("StripsOfFour$Strip", "cells", "[I", true)
def tyX5 : Nat → FieldType := fun k => match k with
  | 0 => .int
  | 1 => .int
  | 2 => .int
  | 3 => .int
  | _ => .array .int
theorem nmX5 : ∀ a, a < 5 → ∀ b, b < 5 → a ≠ b → (TX5 a).2.1 ≠ (TX5 b).2.1 := by decide +kernel
theorem tyX5_ok : ∀ k, k < 5 → parseFieldDescriptor (TX5 k).2.2.1 = some (tyX5 k) := by decide +kernel
def TX6 : u_T := fun k => match k with
  | 0 => ("StripsOfFour", "text", "[I", true)
  | 1 => ("StripsOfFour", "bytes", "I", false)
  | 2 => ("StripsOfFour", "plan", "LStripsOfFour$Plan;", false)
  | 3 => ("StripsOfFour", "draft", "LStripsOfFour$Plan;", false)
  | 4 => ("StripsOfFour", "now", "LStripsOfFour$Scene;", true)
  | 5 => ("StripsOfFour", "past", "LStripsOfFour$Past;", true)
  | 6 => ("StripsOfFour", "kept", "[LStripsOfFour$Scene;", true)
  | 7 => ("StripsOfFour", "isKept", "[Z", true)
  | 8 => ("StripsOfFour", "parts", "LStripsOfFour$Parts;", true)
  | _ => ("StripsOfFour", "rows", "LStripsOfFour$Rows;", true)
def tyX6 : Nat → FieldType := fun k => match k with
  | 0 => .array .int
  | 1 => .int
  | 2 => .object "StripsOfFour$Plan"
  | 3 => .object "StripsOfFour$Plan"
  | 4 => .object "StripsOfFour$Scene"
  | 5 => .object "StripsOfFour$Past"
  | 6 => .array (.object "StripsOfFour$Scene")
  | 7 => .array .boolean
  | 8 => .object "StripsOfFour$Parts"
  | _ => .object "StripsOfFour$Rows"
theorem nmX6 : ∀ a, a < 10 → ∀ b, b < 10 → a ≠ b → (TX6 a).2.1 ≠ (TX6 b).2.1 := by decide +kernel
theorem tyX6_ok : ∀ k, k < 10 → parseFieldDescriptor (TX6 k).2.2.1 = some (tyX6 k) := by decide +kernel
def TX7 : u_T := fun k => match k with
  | 0 => ("StripsOfFourModel", "thrown", "I", false)
  | 1 => ("StripsOfFourModel", "text", "[I", true)
  | 2 => ("StripsOfFourModel", "textSize", "I", false)
  | 3 => ("StripsOfFourModel", "place", "I", false)
  | 4 => ("StripsOfFourModel", "walk", "I", false)
  | 5 => ("StripsOfFourModel", "booths", "I", false)
  | 6 => ("StripsOfFourModel", "people", "I", false)
  | 7 => ("StripsOfFourModel", "first", "[I", true)
  | 8 => ("StripsOfFourModel", "every", "[I", true)
  | 9 => ("StripsOfFourModel", "blink", "[I", true)
  | 10 => ("StripsOfFourModel", "readWalk", "I", false)
  | 11 => ("StripsOfFourModel", "readBooths", "I", false)
  | 12 => ("StripsOfFourModel", "readPeople", "I", false)
  | 13 => ("StripsOfFourModel", "readFirst", "[I", true)
  | 14 => ("StripsOfFourModel", "readEvery", "[I", true)
  | 15 => ("StripsOfFourModel", "readBlink", "[I", true)
  | 16 => ("StripsOfFourModel", "page", "[I", true)
  | 17 => ("StripsOfFourModel", "seed", "J", false)
  | 18 => ("StripsOfFourModel", "book", "[I", true)
  | 19 => ("StripsOfFourModel", "bookSeed", "[J", true)
  | 20 => ("StripsOfFourModel", "acts", "I", false)
  | 21 => ("StripsOfFourModel", "kept", "[I", true)
  | 22 => ("StripsOfFourModel", "keptSeed", "[J", true)
  | 23 => ("StripsOfFourModel", "isKept", "[Z", true)
  | 24 => ("StripsOfFourModel", "most", "[I", true)
  | 25 => ("StripsOfFourModel", "ways", "[I", true)
  | 26 => ("StripsOfFourModel", "order", "[I", true)
  | 27 => ("StripsOfFourModel", "orders", "I", false)
  | _ => ("StripsOfFourModel", "places", "[I", true)
def tyX7 : Nat → FieldType := fun k => match k with
  | 0 => .int
  | 1 => .array .int
  | 2 => .int
  | 3 => .int
  | 4 => .int
  | 5 => .int
  | 6 => .int
  | 7 => .array .int
  | 8 => .array .int
  | 9 => .array .int
  | 10 => .int
  | 11 => .int
  | 12 => .int
  | 13 => .array .int
  | 14 => .array .int
  | 15 => .array .int
  | 16 => .array .int
  | 17 => .long
  | 18 => .array .int
  | 19 => .array .long
  | 20 => .int
  | 21 => .array .int
  | 22 => .array .long
  | 23 => .array .boolean
  | 24 => .array .int
  | 25 => .array .int
  | 26 => .array .int
  | 27 => .int
  | _ => .array .int
theorem nmX7 : ∀ a, a < 29 → ∀ b, b < 29 → a ≠ b → (TX7 a).2.1 ≠ (TX7 b).2.1 := by decide +kernel
theorem tyX7_ok : ∀ k, k < 29 → parseFieldDescriptor (TX7 k).2.2.1 = some (tyX7 k) := by decide +kernel
def lw_g : List Cond := lw_tbl.filter goodWord
theorem lw_gt {w : Cond} (h : w ∈ lw_g) : w ∈ lw_tbl := (List.mem_filter.mp h).1
theorem lw_goodIn {y : Cond} (hy : y ∈ lw_g) : GoodIn lw_g (y :: lw_g) := fun w hw => (List.mem_cons.mp hw).elim (fun e => ⟨e ▸ hy, good_of_word (List.mem_filter.mp (e ▸ hy)).2⟩) (fun h => ⟨h, good_of_word (List.mem_filter.mp h).2⟩)
theorem lw_tm {w : Cond} (i : Nat) (h : tables_1[i]? = some w) (hg : goodWord w = true) : w ∈ lw_g := List.mem_filter.mpr ⟨List.mem_append_right _ (List.mem_of_getElem? h), hg⟩
theorem lw_sm {w : Cond} (i : Nat) (h : (k2_sels lw_privs)[i]? = some w) (hg : goodWord w = true) : w ∈ lw_g := List.mem_filter.mpr ⟨List.mem_append_left _ (List.mem_of_getElem? h), hg⟩
def lw_isN : Cond → Bool
  | .methodLinkNest _ _ _ _ => true
  | _ => false
def lw_n : List Cond := lw_tbl.filter lw_isN
theorem lw_nm {w : Cond} (i : Nat) (h : tables_1[i]? = some w) (hg : lw_isN w = true) : w ∈ lw_n := List.mem_filter.mpr ⟨List.mem_append_right _ (List.mem_of_getElem? h), hg⟩
theorem inX0 : ∀ w ∈ u_ws "StripsOfFour$Parts" TX0 4, w ∈ lw_g := by decide +kernel
theorem inX1 : ∀ w ∈ u_ws "StripsOfFour$Past" TX1 3, w ∈ lw_g := by decide +kernel
theorem inX2 : ∀ w ∈ u_ws "StripsOfFour$Plan" TX2 6, w ∈ lw_g := by decide +kernel
theorem inX3 : ∀ w ∈ u_ws "StripsOfFour$Rows" TX3 5, w ∈ lw_g := by decide +kernel
theorem inX4 : ∀ w ∈ u_ws "StripsOfFour$Scene" TX4 10, w ∈ lw_g := by decide +kernel
theorem inX5 : ∀ w ∈ u_ws "StripsOfFour$Strip" TX5 5, w ∈ lw_g := by decide +kernel
theorem inX6 : ∀ w ∈ u_ws "StripsOfFour" TX6 10, w ∈ lw_g := by decide +kernel
theorem inX7 : ∀ w ∈ u_ws "StripsOfFourModel" TX7 29, w ∈ lw_g := by decide +kernel

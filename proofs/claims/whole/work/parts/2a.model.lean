/-! printed by dec4.py: 2a.model -/
abbrev rm_M_lies : Room := { frames := 1, cells := 0, slots := 0, locals := 64 }
abbrev rm_M_refuses : Room := { frames := 1, cells := 0, slots := 0, locals := 64 }
abbrev rm_M_good : Room := { frames := 1, cells := 0, slots := 0, locals := 64 }
abbrev rm_M_image : Room := { frames := 2, cells := 0, slots := 0, locals := 86 }
abbrev rm_M_settled : Room := { frames := 2, cells := 0, slots := 0, locals := 85 }
abbrev rm_M_back : Room := { frames := 3, cells := 0, slots := 0, locals := 106 }
abbrev rm_M_springMany : Room := { frames := 1, cells := 0, slots := 0, locals := 64 }
abbrev rm_M_spring : Room := { frames := 3, cells := 0, slots := 0, locals := 106 }
abbrev rm_M_isSpring : Room := { frames := 2, cells := 0, slots := 0, locals := 86 }
abbrev rm_M_areTwo : Room := { frames := 3, cells := 0, slots := 0, locals := 107 }
abbrev rm_M_pairAt : Room := { frames := 1, cells := 0, slots := 0, locals := 64 }
abbrev rm_M_farOf : Room := { frames := 2, cells := 0, slots := 0, locals := 85 }
abbrev rm_M_laysChannel : Room := { frames := 2, cells := 0, slots := 0, locals := 85 }
abbrev rm_M_channel : Room := { frames := 4, cells := 0, slots := 0, locals := 129 }
abbrev rm_M_setsSpring : Room := { frames := 1, cells := 0, slots := 0, locals := 64 }
abbrev rm_M_codeAt : Room := { frames := 1, cells := 0, slots := 0, locals := 64 }
abbrev rm_M_sign : Room := { frames := 1, cells := 0, slots := 0, locals := 64 }
abbrev rm_M_passes0 : Room := { frames := 2, cells := 0, slots := 0, locals := 85 }
abbrev rm_M_isShut : Room := { frames := 2, cells := 0, slots := 0, locals := 85 }
abbrev rm_M_channelMany : Room := { frames := 3, cells := 0, slots := 0, locals := 107 }
abbrev rm_M_shutMany : Room := { frames := 4, cells := 0, slots := 0, locals := 131 }
abbrev rm_M_orderValue : Room := { frames := 5, cells := 0, slots := 0, locals := 151 }
abbrev rm_M_bounded : Room := { frames := 1, cells := 0, slots := 0, locals := 64 }
def rm_g1 (d : Nat) : Room := { frames := 6 + d, cells := 0, slots := 0, locals := 173 + d * 26 }
def rm_g2 (d : Nat) : Room := { frames := 71 + d, cells := 0, slots := 0, locals := 1863 + d * 26 }
abbrev rm_M_tells : Room := { frames := 136, cells := 0, slots := 0, locals := 3550 }
abbrev rm_M_settlesTo : Room := { frames := 137, cells := 0, slots := 0, locals := 3581 }
abbrev rm_M_of : Room := { frames := 138, cells := 0, slots := 0, locals := 3602 }
abbrev rm_M_setsChannel : Room := { frames := 3, cells := 0, slots := 0, locals := 107 }
abbrev rm_M_takesFor : Room := { frames := 137, cells := 0, slots := 0, locals := 3581 }
abbrev rm_M_weighsFor : Room := { frames := 137, cells := 0, slots := 0, locals := 3581 }
abbrev rm_M_isBarred : Room := { frames := 137, cells := 0, slots := 0, locals := 3581 }
theorem rm_le_M_partOf_M_sign {dp : Nat} : rm_M_sign.frames + 1 ≤ (rm_g1 (dp + 1)).frames ∧ 8 + (1 + 11) + rm_M_sign.locals ≤ (rm_g1 (dp + 1)).locals := by
  unfold rm_g1
  constructor <;> simp only [] <;> omega
theorem rm_le_M_partOf_M_passes0 {dp : Nat} : rm_M_passes0.frames + 1 ≤ (rm_g1 (dp + 1)).frames ∧ 8 + (3 + 11) + rm_M_passes0.locals ≤ (rm_g1 (dp + 1)).locals := by
  unfold rm_g1
  constructor <;> simp only [] <;> omega
theorem rm_le_M_partOf_M_sumOf {dp : Nat} : (rm_g1 dp).frames + 1 ≤ (rm_g1 (dp + 1)).frames ∧ 8 + (7 + 11) + (rm_g1 dp).locals ≤ (rm_g1 (dp + 1)).locals := by
  unfold rm_g1
  constructor <;> simp only [] <;> omega
theorem rm_le_M_partOf_M_codeAt {dp : Nat} : rm_M_codeAt.frames + 1 ≤ (rm_g1 (dp + 1)).frames ∧ 8 + (2 + 11) + rm_M_codeAt.locals ≤ (rm_g1 (dp + 1)).locals := by
  unfold rm_g1
  constructor <;> simp only [] <;> omega
theorem rm_le_M_partOf_M_orderValue {dp : Nat} : rm_M_orderValue.frames + 1 ≤ (rm_g1 (dp + 1)).frames ∧ 8 + (3 + 11) + rm_M_orderValue.locals ≤ (rm_g1 (dp + 1)).locals := by
  unfold rm_g1
  constructor <;> simp only [] <;> omega
theorem rm_le_M_termOf_M_partOf {dp : Nat} : (rm_g1 dp).frames + 1 ≤ (rm_g1 (dp + 1)).frames ∧ 8 + (4 + 11) + (rm_g1 dp).locals ≤ (rm_g1 (dp + 1)).locals := by
  unfold rm_g1
  constructor <;> simp only [] <;> omega
theorem rm_le_M_termOf_M_codeAt {dp : Nat} : rm_M_codeAt.frames + 1 ≤ (rm_g1 (dp + 1)).frames ∧ 8 + (2 + 11) + rm_M_codeAt.locals ≤ (rm_g1 (dp + 1)).locals := by
  unfold rm_g1
  constructor <;> simp only [] <;> omega
theorem rm_le_M_termOf_M_sign {dp : Nat} : rm_M_sign.frames + 1 ≤ (rm_g1 (dp + 1)).frames ∧ 8 + (1 + 11) + rm_M_sign.locals ≤ (rm_g1 (dp + 1)).locals := by
  unfold rm_g1
  constructor <;> simp only [] <;> omega
theorem rm_le_M_termOf_M_bounded {dp : Nat} : rm_M_bounded.frames + 1 ≤ (rm_g1 (dp + 1)).frames ∧ 8 + (4 + 11) + rm_M_bounded.locals ≤ (rm_g1 (dp + 1)).locals := by
  unfold rm_g1
  constructor <;> simp only [] <;> omega
theorem rm_le_M_sumOf_M_termOf {dp : Nat} : (rm_g1 dp).frames + 1 ≤ (rm_g1 (dp + 1)).frames ∧ 8 + (7 + 11) + (rm_g1 dp).locals ≤ (rm_g1 (dp + 1)).locals := by
  unfold rm_g1
  constructor <;> simp only [] <;> omega
theorem rm_le_M_sumOf_M_codeAt {dp : Nat} : rm_M_codeAt.frames + 1 ≤ (rm_g1 (dp + 1)).frames ∧ 8 + (2 + 11) + rm_M_codeAt.locals ≤ (rm_g1 (dp + 1)).locals := by
  unfold rm_g1
  constructor <;> simp only [] <;> omega
theorem rm_le_M_sumOf_M_sign {dp : Nat} : rm_M_sign.frames + 1 ≤ (rm_g1 (dp + 1)).frames ∧ 8 + (1 + 11) + rm_M_sign.locals ≤ (rm_g1 (dp + 1)).locals := by
  unfold rm_g1
  constructor <;> simp only [] <;> omega
theorem rm_le_M_sumOf_M_bounded {dp : Nat} : rm_M_bounded.frames + 1 ≤ (rm_g1 (dp + 1)).frames ∧ 8 + (4 + 11) + rm_M_bounded.locals ≤ (rm_g1 (dp + 1)).locals := by
  unfold rm_g1
  constructor <;> simp only [] <;> omega
theorem rm_le_M_positiveOf_M_sign {dp : Nat} : rm_M_sign.frames + 1 ≤ (rm_g2 (dp + 1)).frames ∧ 8 + (1 + 11) + rm_M_sign.locals ≤ (rm_g2 (dp + 1)).locals := by
  unfold rm_g2
  constructor <;> simp only [] <;> omega
theorem rm_le_M_positiveOf_M_passes0 {dp : Nat} : rm_M_passes0.frames + 1 ≤ (rm_g2 (dp + 1)).frames ∧ 8 + (3 + 11) + rm_M_passes0.locals ≤ (rm_g2 (dp + 1)).locals := by
  unfold rm_g2
  constructor <;> simp only [] <;> omega
theorem rm_le_M_positiveOf_M_testOf {dp : Nat} : (rm_g2 dp).frames + 1 ≤ (rm_g2 (dp + 1)).frames ∧ 8 + (4 + 11) + (rm_g2 dp).locals ≤ (rm_g2 (dp + 1)).locals := by
  unfold rm_g2
  constructor <;> simp only [] <;> omega
theorem rm_le_M_positiveOf_M_sumOf {dp : Nat} : (rm_g1 64).frames + 1 ≤ (rm_g2 (dp + 1)).frames ∧ 8 + (7 + 11) + (rm_g1 64).locals ≤ (rm_g2 (dp + 1)).locals := by
  unfold rm_g2 rm_g1
  constructor <;> simp only [] <;> omega
theorem rm_le_M_positiveOf_M_codeAt {dp : Nat} : rm_M_codeAt.frames + 1 ≤ (rm_g2 (dp + 1)).frames ∧ 8 + (2 + 11) + rm_M_codeAt.locals ≤ (rm_g2 (dp + 1)).locals := by
  unfold rm_g2
  constructor <;> simp only [] <;> omega
theorem rm_le_M_plainOf_M_passes0 {dp : Nat} : rm_M_passes0.frames + 1 ≤ (rm_g2 (dp + 1)).frames ∧ 8 + (3 + 11) + rm_M_passes0.locals ≤ (rm_g2 (dp + 1)).locals := by
  unfold rm_g2
  constructor <;> simp only [] <;> omega
theorem rm_le_M_plainOf_M_positiveOf {dp : Nat} : (rm_g2 dp).frames + 1 ≤ (rm_g2 (dp + 1)).frames ∧ 8 + (7 + 11) + (rm_g2 dp).locals ≤ (rm_g2 (dp + 1)).locals := by
  unfold rm_g2
  constructor <;> simp only [] <;> omega
theorem rm_le_M_bothOf_M_plainOf {dp : Nat} : (rm_g2 dp).frames + 1 ≤ (rm_g2 (dp + 1)).frames ∧ 8 + (3 + 11) + (rm_g2 dp).locals ≤ (rm_g2 (dp + 1)).locals := by
  unfold rm_g2
  constructor <;> simp only [] <;> omega
theorem rm_le_M_bothOf_M_passes0 {dp : Nat} : rm_M_passes0.frames + 1 ≤ (rm_g2 (dp + 1)).frames ∧ 8 + (3 + 11) + rm_M_passes0.locals ≤ (rm_g2 (dp + 1)).locals := by
  unfold rm_g2
  constructor <;> simp only [] <;> omega
theorem rm_le_M_testOf_M_bothOf {dp : Nat} : (rm_g2 dp).frames + 1 ≤ (rm_g2 (dp + 1)).frames ∧ 8 + (4 + 11) + (rm_g2 dp).locals ≤ (rm_g2 (dp + 1)).locals := by
  unfold rm_g2
  constructor <;> simp only [] <;> omega
theorem rm_le_M_testOf_M_passes0 {dp : Nat} : rm_M_passes0.frames + 1 ≤ (rm_g2 (dp + 1)).frames ∧ 8 + (3 + 11) + rm_M_passes0.locals ≤ (rm_g2 (dp + 1)).locals := by
  unfold rm_g2
  constructor <;> simp only [] <;> omega
def y_M_lies : MethodName := ⟨zNm 11, "lies", "(III)Z"⟩
abbrev b_M_lies : ByteArray := prog_13_method_1_code
theorem d_M_lies_0 : decode b_M_lies 0 = .ok (.iload_n 0, 1) := by decide +kernel
theorem d_M_lies_1 : decode b_M_lies 1 = .ok (.iload_n 1, 1) := by decide +kernel
theorem d_M_lies_2 : decode b_M_lies 2 = .ok (.if_icmp .lt 12, 3) := by decide +kernel
theorem d_M_lies_5 : decode b_M_lies 5 = .ok (.iload_n 0, 1) := by decide +kernel
theorem d_M_lies_6 : decode b_M_lies 6 = .ok (.iload_n 2, 1) := by decide +kernel
theorem d_M_lies_7 : decode b_M_lies 7 = .ok (.if_icmp .gt 7, 3) := by decide +kernel
theorem d_M_lies_10 : decode b_M_lies 10 = .ok (.iconst 1, 1) := by decide +kernel
theorem d_M_lies_11 : decode b_M_lies 11 = .ok (.goto 4, 3) := by decide +kernel
theorem d_M_lies_14 : decode b_M_lies 14 = .ok (.iconst 0, 1) := by decide +kernel
theorem d_M_lies_15 : decode b_M_lies 15 = .ok (.ireturn, 1) := by decide +kernel
theorem mf_M_lies : zMF y_M_lies b_M_lies 3 (some .boolean) 3 := ⟨zGW_in 1440 (by decide +kernel) (by decide +kernel), zGW_in 135 (by decide +kernel) (by decide +kernel), by decide +kernel⟩
theorem st_M_lies : Cond.static y_M_lies ∈ zGW := zGW_in 1439 (by decide +kernel) (by decide +kernel)
def y_M_refuses : MethodName := ⟨zNm 11, "refuses", "(I)I"⟩
abbrev b_M_refuses : ByteArray := prog_13_method_4_code
theorem d_M_refuses_0 : decode b_M_refuses 0 = .ok (.aload_n 0, 1) := by decide +kernel
theorem d_M_refuses_1 : decode b_M_refuses 1 = .ok (.iload_n 1, 1) := by decide +kernel
theorem d_M_refuses_2 : decode b_M_refuses 2 = .ok (.putfield 3, 3) := by decide +kernel
theorem d_M_refuses_5 : decode b_M_refuses 5 = .ok (.aload_n 0, 1) := by decide +kernel
theorem d_M_refuses_6 : decode b_M_refuses 6 = .ok (.getfield 7, 3) := by decide +kernel
theorem d_M_refuses_9 : decode b_M_refuses 9 = .ok (.iload_n 1, 1) := by decide +kernel
theorem d_M_refuses_10 : decode b_M_refuses 10 = .ok (.ineg, 1) := by decide +kernel
theorem d_M_refuses_11 : decode b_M_refuses 11 = .ok (.dup2, 1) := by decide +kernel
theorem d_M_refuses_12 : decode b_M_refuses 12 = .ok (.iaload, 1) := by decide +kernel
theorem d_M_refuses_13 : decode b_M_refuses 13 = .ok (.iconst 1, 1) := by decide +kernel
theorem d_M_refuses_14 : decode b_M_refuses 14 = .ok (.iadd, 1) := by decide +kernel
theorem d_M_refuses_15 : decode b_M_refuses 15 = .ok (.iastore, 1) := by decide +kernel
theorem d_M_refuses_16 : decode b_M_refuses 16 = .ok (.iload_n 1, 1) := by decide +kernel
theorem d_M_refuses_17 : decode b_M_refuses 17 = .ok (.ireturn, 1) := by decide +kernel
theorem mf_M_refuses : zMF y_M_refuses b_M_refuses 2 (some .int) 1 := ⟨zGW_in 1444 (by decide +kernel) (by decide +kernel), zGW_in 135 (by decide +kernel) (by decide +kernel), by decide +kernel⟩
theorem in_M_refuses : Cond.instanceMethod y_M_refuses ∈ zGW := zGW_in 1443 (by decide +kernel) (by decide +kernel)
theorem se_M_refuses : Cond.selects y_M_refuses.cls y_M_refuses y_M_refuses ∈ zGW := zGW_in 39 (by decide +kernel) (by decide +kernel)
def y_M_good : MethodName := ⟨zNm 11, "good", "(I)I"⟩
abbrev b_M_good : ByteArray := prog_13_method_5_code
theorem d_M_good_0 : decode b_M_good 0 = .ok (.aload_n 0, 1) := by decide +kernel
theorem d_M_good_1 : decode b_M_good 1 = .ok (.iconst 0, 1) := by decide +kernel
theorem d_M_good_2 : decode b_M_good 2 = .ok (.putfield 3, 3) := by decide +kernel
theorem d_M_good_5 : decode b_M_good 5 = .ok (.iload_n 1, 1) := by decide +kernel
theorem d_M_good_6 : decode b_M_good 6 = .ok (.ireturn, 1) := by decide +kernel
theorem mf_M_good : zMF y_M_good b_M_good 2 (some .int) 1 := ⟨zGW_in 1448 (by decide +kernel) (by decide +kernel), zGW_in 135 (by decide +kernel) (by decide +kernel), by decide +kernel⟩
theorem in_M_good : Cond.instanceMethod y_M_good ∈ zGW := zGW_in 1447 (by decide +kernel) (by decide +kernel)
theorem se_M_good : Cond.selects y_M_good.cls y_M_good y_M_good ∈ zGW := zGW_in 40 (by decide +kernel) (by decide +kernel)
def y_M_image : MethodName := ⟨zNm 11, "image", "(I)I"⟩
abbrev b_M_image : ByteArray := prog_13_method_12_code
theorem d_M_image_0 : decode b_M_image 0 = .ok (.iload_n 1, 1) := by decide +kernel
theorem d_M_image_1 : decode b_M_image 1 = .ok (.iconst 0, 1) := by decide +kernel
theorem d_M_image_2 : decode b_M_image 2 = .ok (.iconst 1, 1) := by decide +kernel
theorem d_M_image_3 : decode b_M_image 3 = .ok (.invokestatic 108, 3) := by decide +kernel
theorem d_M_image_6 : decode b_M_image 6 = .ok (.ifCond .ne 9, 3) := by decide +kernel
theorem d_M_image_9 : decode b_M_image 9 = .ok (.aload_n 0, 1) := by decide +kernel
theorem d_M_image_10 : decode b_M_image 10 = .ok (.iconst (-1), 1) := by decide +kernel
theorem d_M_image_11 : decode b_M_image 11 = .ok (.invokevirtual 112, 3) := by decide +kernel
theorem d_M_image_14 : decode b_M_image 14 = .ok (.ireturn, 1) := by decide +kernel
theorem d_M_image_15 : decode b_M_image 15 = .ok (.iconst 0, 1) := by decide +kernel
theorem d_M_image_16 : decode b_M_image 16 = .ok (.istore_n 2, 1) := by decide +kernel
theorem d_M_image_17 : decode b_M_image 17 = .ok (.iload_n 2, 1) := by decide +kernel
theorem d_M_image_18 : decode b_M_image 18 = .ok (.sipush 5807, 3) := by decide +kernel
theorem d_M_image_21 : decode b_M_image 21 = .ok (.if_icmp .ge 27, 3) := by decide +kernel
theorem d_M_image_24 : decode b_M_image 24 = .ok (.aload_n 0, 1) := by decide +kernel
theorem d_M_image_25 : decode b_M_image 25 = .ok (.getfield 27, 3) := by decide +kernel
theorem d_M_image_28 : decode b_M_image 28 = .ok (.sipush 5807, 3) := by decide +kernel
theorem d_M_image_31 : decode b_M_image 31 = .ok (.iload_n 1, 1) := by decide +kernel
theorem d_M_image_32 : decode b_M_image 32 = .ok (.imul, 1) := by decide +kernel
theorem d_M_image_33 : decode b_M_image 33 = .ok (.iload_n 2, 1) := by decide +kernel
theorem d_M_image_34 : decode b_M_image 34 = .ok (.iadd, 1) := by decide +kernel
theorem d_M_image_35 : decode b_M_image 35 = .ok (.aload_n 0, 1) := by decide +kernel
theorem d_M_image_36 : decode b_M_image 36 = .ok (.getfield 24, 3) := by decide +kernel
theorem d_M_image_39 : decode b_M_image 39 = .ok (.iload_n 2, 1) := by decide +kernel
theorem d_M_image_40 : decode b_M_image 40 = .ok (.iaload, 1) := by decide +kernel
theorem d_M_image_41 : decode b_M_image 41 = .ok (.iastore, 1) := by decide +kernel
theorem d_M_image_42 : decode b_M_image 42 = .ok (.iinc 2 1, 3) := by decide +kernel
theorem d_M_image_45 : decode b_M_image 45 = .ok (.goto (-28), 3) := by decide +kernel
theorem d_M_image_48 : decode b_M_image 48 = .ok (.aload_n 0, 1) := by decide +kernel
theorem d_M_image_49 : decode b_M_image 49 = .ok (.getfield 30, 3) := by decide +kernel
theorem d_M_image_52 : decode b_M_image 52 = .ok (.iload_n 1, 1) := by decide +kernel
theorem d_M_image_53 : decode b_M_image 53 = .ok (.iconst 1, 1) := by decide +kernel
theorem d_M_image_54 : decode b_M_image 54 = .ok (.bastore, 1) := by decide +kernel
theorem d_M_image_55 : decode b_M_image 55 = .ok (.aload_n 0, 1) := by decide +kernel
theorem d_M_image_56 : decode b_M_image 56 = .ok (.iconst 0, 1) := by decide +kernel
theorem d_M_image_57 : decode b_M_image 57 = .ok (.invokevirtual 14, 3) := by decide +kernel
theorem d_M_image_60 : decode b_M_image 60 = .ok (.ireturn, 1) := by decide +kernel
theorem mf_M_image : zMF y_M_image b_M_image 3 (some .int) 1 := ⟨zGW_in 1437 (by decide +kernel) (by decide +kernel), zGW_in 135 (by decide +kernel) (by decide +kernel), by decide +kernel⟩
theorem in_M_image : Cond.instanceMethod y_M_image ∈ zGW := zGW_in 1435 (by decide +kernel) (by decide +kernel)
theorem se_M_image : Cond.selects y_M_image.cls y_M_image y_M_image ∈ zGW := zGW_in 1436 (by decide +kernel) (by decide +kernel)
def y_M_settled : MethodName := ⟨zNm 11, "settled", "(I)I"⟩
abbrev b_M_settled : ByteArray := prog_13_method_6_code
theorem d_M_settled_0 : decode b_M_settled 0 = .ok (.aload_n 0, 1) := by decide +kernel
theorem d_M_settled_1 : decode b_M_settled 1 = .ok (.iconst 0, 1) := by decide +kernel
theorem d_M_settled_2 : decode b_M_settled 2 = .ok (.putfield 11, 3) := by decide +kernel
theorem d_M_settled_5 : decode b_M_settled 5 = .ok (.aload_n 0, 1) := by decide +kernel
theorem d_M_settled_6 : decode b_M_settled 6 = .ok (.iload_n 1, 1) := by decide +kernel
theorem d_M_settled_7 : decode b_M_settled 7 = .ok (.invokevirtual 14, 3) := by decide +kernel
theorem d_M_settled_10 : decode b_M_settled 10 = .ok (.ireturn, 1) := by decide +kernel
theorem mf_M_settled : zMF y_M_settled b_M_settled 2 (some .int) 1 := ⟨zGW_in 1456 (by decide +kernel) (by decide +kernel), zGW_in 135 (by decide +kernel) (by decide +kernel), by decide +kernel⟩
theorem in_M_settled : Cond.instanceMethod y_M_settled ∈ zGW := zGW_in 1455 (by decide +kernel) (by decide +kernel)
theorem se_M_settled : Cond.selects y_M_settled.cls y_M_settled y_M_settled ∈ zGW := zGW_in 41 (by decide +kernel) (by decide +kernel)
def y_M_back : MethodName := ⟨zNm 11, "back", "(I)I"⟩
abbrev b_M_back : ByteArray := prog_13_method_13_code
theorem d_M_back_0 : decode b_M_back 0 = .ok (.iload_n 1, 1) := by decide +kernel
theorem d_M_back_1 : decode b_M_back 1 = .ok (.iconst 0, 1) := by decide +kernel
theorem d_M_back_2 : decode b_M_back 2 = .ok (.iconst 1, 1) := by decide +kernel
theorem d_M_back_3 : decode b_M_back 3 = .ok (.invokestatic 108, 3) := by decide +kernel
theorem d_M_back_6 : decode b_M_back 6 = .ok (.ifCond .ne 9, 3) := by decide +kernel
theorem d_M_back_9 : decode b_M_back 9 = .ok (.aload_n 0, 1) := by decide +kernel
theorem d_M_back_10 : decode b_M_back 10 = .ok (.iconst (-1), 1) := by decide +kernel
theorem d_M_back_11 : decode b_M_back 11 = .ok (.invokevirtual 112, 3) := by decide +kernel
theorem d_M_back_14 : decode b_M_back 14 = .ok (.ireturn, 1) := by decide +kernel
theorem d_M_back_15 : decode b_M_back 15 = .ok (.aload_n 0, 1) := by decide +kernel
theorem d_M_back_16 : decode b_M_back 16 = .ok (.getfield 30, 3) := by decide +kernel
theorem d_M_back_19 : decode b_M_back 19 = .ok (.iload_n 1, 1) := by decide +kernel
theorem d_M_back_20 : decode b_M_back 20 = .ok (.baload, 1) := by decide +kernel
theorem d_M_back_21 : decode b_M_back 21 = .ok (.ifCond .ne 10, 3) := by decide +kernel
theorem d_M_back_24 : decode b_M_back 24 = .ok (.aload_n 0, 1) := by decide +kernel
theorem d_M_back_25 : decode b_M_back 25 = .ok (.bipush (-2), 2) := by decide +kernel
theorem d_M_back_27 : decode b_M_back 27 = .ok (.invokevirtual 112, 3) := by decide +kernel
theorem d_M_back_30 : decode b_M_back 30 = .ok (.ireturn, 1) := by decide +kernel
theorem d_M_back_31 : decode b_M_back 31 = .ok (.iconst 0, 1) := by decide +kernel
theorem d_M_back_32 : decode b_M_back 32 = .ok (.istore_n 2, 1) := by decide +kernel
theorem d_M_back_33 : decode b_M_back 33 = .ok (.iload_n 2, 1) := by decide +kernel
theorem d_M_back_34 : decode b_M_back 34 = .ok (.sipush 5807, 3) := by decide +kernel
theorem d_M_back_37 : decode b_M_back 37 = .ok (.if_icmp .ge 27, 3) := by decide +kernel
theorem d_M_back_40 : decode b_M_back 40 = .ok (.aload_n 0, 1) := by decide +kernel
theorem d_M_back_41 : decode b_M_back 41 = .ok (.getfield 24, 3) := by decide +kernel
theorem d_M_back_44 : decode b_M_back 44 = .ok (.iload_n 2, 1) := by decide +kernel
theorem d_M_back_45 : decode b_M_back 45 = .ok (.aload_n 0, 1) := by decide +kernel
theorem d_M_back_46 : decode b_M_back 46 = .ok (.getfield 27, 3) := by decide +kernel
theorem d_M_back_49 : decode b_M_back 49 = .ok (.sipush 5807, 3) := by decide +kernel
theorem d_M_back_52 : decode b_M_back 52 = .ok (.iload_n 1, 1) := by decide +kernel
theorem d_M_back_53 : decode b_M_back 53 = .ok (.imul, 1) := by decide +kernel
theorem d_M_back_54 : decode b_M_back 54 = .ok (.iload_n 2, 1) := by decide +kernel
theorem d_M_back_55 : decode b_M_back 55 = .ok (.iadd, 1) := by decide +kernel
theorem d_M_back_56 : decode b_M_back 56 = .ok (.iaload, 1) := by decide +kernel
theorem d_M_back_57 : decode b_M_back 57 = .ok (.iastore, 1) := by decide +kernel
theorem d_M_back_58 : decode b_M_back 58 = .ok (.iinc 2 1, 3) := by decide +kernel
theorem d_M_back_61 : decode b_M_back 61 = .ok (.goto (-28), 3) := by decide +kernel
theorem d_M_back_64 : decode b_M_back 64 = .ok (.aload_n 0, 1) := by decide +kernel
theorem d_M_back_65 : decode b_M_back 65 = .ok (.iconst 0, 1) := by decide +kernel
theorem d_M_back_66 : decode b_M_back 66 = .ok (.invokevirtual 115, 3) := by decide +kernel
theorem d_M_back_69 : decode b_M_back 69 = .ok (.ireturn, 1) := by decide +kernel
theorem mf_M_back : zMF y_M_back b_M_back 3 (some .int) 1 := ⟨zGW_in 1452 (by decide +kernel) (by decide +kernel), zGW_in 135 (by decide +kernel) (by decide +kernel), by decide +kernel⟩
theorem in_M_back : Cond.instanceMethod y_M_back ∈ zGW := zGW_in 1450 (by decide +kernel) (by decide +kernel)
theorem se_M_back : Cond.selects y_M_back.cls y_M_back y_M_back ∈ zGW := zGW_in 1451 (by decide +kernel) (by decide +kernel)
def y_M_springMany : MethodName := ⟨zNm 11, "springMany", "()I"⟩
abbrev b_M_springMany : ByteArray := prog_13_method_14_code
theorem d_M_springMany_0 : decode b_M_springMany 0 = .ok (.aload_n 0, 1) := by decide +kernel
theorem d_M_springMany_1 : decode b_M_springMany 1 = .ok (.getfield 24, 3) := by decide +kernel
theorem d_M_springMany_4 : decode b_M_springMany 4 = .ok (.sipush 196, 3) := by decide +kernel
theorem d_M_springMany_7 : decode b_M_springMany 7 = .ok (.iaload, 1) := by decide +kernel
theorem d_M_springMany_8 : decode b_M_springMany 8 = .ok (.ireturn, 1) := by decide +kernel
theorem mf_M_springMany : zMF y_M_springMany b_M_springMany 1 (some .int) 0 := ⟨zGW_in 1464 (by decide +kernel) (by decide +kernel), zGW_in 135 (by decide +kernel) (by decide +kernel), by decide +kernel⟩
theorem in_M_springMany : Cond.instanceMethod y_M_springMany ∈ zGW := zGW_in 1463 (by decide +kernel) (by decide +kernel)
theorem se_M_springMany : Cond.selects y_M_springMany.cls y_M_springMany y_M_springMany ∈ zGW := zGW_in 42 (by decide +kernel) (by decide +kernel)
def y_M_spring : MethodName := ⟨zNm 11, "spring", "(II)I"⟩
abbrev b_M_spring : ByteArray := prog_13_method_17_code
theorem d_M_spring_0 : decode b_M_spring 0 = .ok (.iload_n 1, 1) := by decide +kernel
theorem d_M_spring_1 : decode b_M_spring 1 = .ok (.iconst 0, 1) := by decide +kernel
theorem d_M_spring_2 : decode b_M_spring 2 = .ok (.bipush 9, 2) := by decide +kernel
theorem d_M_spring_4 : decode b_M_spring 4 = .ok (.invokestatic 108, 3) := by decide +kernel
theorem d_M_spring_7 : decode b_M_spring 7 = .ok (.ifCond .eq 13, 3) := by decide +kernel
theorem d_M_spring_10 : decode b_M_spring 10 = .ok (.iload_n 2, 1) := by decide +kernel
theorem d_M_spring_11 : decode b_M_spring 11 = .ok (.iconst 0, 1) := by decide +kernel
theorem d_M_spring_12 : decode b_M_spring 12 = .ok (.bipush 9, 2) := by decide +kernel
theorem d_M_spring_14 : decode b_M_spring 14 = .ok (.invokestatic 108, 3) := by decide +kernel
theorem d_M_spring_17 : decode b_M_spring 17 = .ok (.ifCond .ne 9, 3) := by decide +kernel
theorem d_M_spring_20 : decode b_M_spring 20 = .ok (.aload_n 0, 1) := by decide +kernel
theorem d_M_spring_21 : decode b_M_spring 21 = .ok (.iconst (-1), 1) := by decide +kernel
theorem d_M_spring_22 : decode b_M_spring 22 = .ok (.invokevirtual 112, 3) := by decide +kernel
theorem d_M_spring_25 : decode b_M_spring 25 = .ok (.ireturn, 1) := by decide +kernel
theorem d_M_spring_26 : decode b_M_spring 26 = .ok (.aload_n 0, 1) := by decide +kernel
theorem d_M_spring_27 : decode b_M_spring 27 = .ok (.invokevirtual 118, 3) := by decide +kernel
theorem d_M_spring_30 : decode b_M_spring 30 = .ok (.istore_n 3, 1) := by decide +kernel
theorem d_M_spring_31 : decode b_M_spring 31 = .ok (.iload_n 3, 1) := by decide +kernel
theorem d_M_spring_32 : decode b_M_spring 32 = .ok (.bipush 9, 2) := by decide +kernel
theorem d_M_spring_34 : decode b_M_spring 34 = .ok (.if_icmp .ne 10, 3) := by decide +kernel
theorem d_M_spring_37 : decode b_M_spring 37 = .ok (.aload_n 0, 1) := by decide +kernel
theorem d_M_spring_38 : decode b_M_spring 38 = .ok (.bipush (-5), 2) := by decide +kernel
theorem d_M_spring_40 : decode b_M_spring 40 = .ok (.invokevirtual 112, 3) := by decide +kernel
theorem d_M_spring_43 : decode b_M_spring 43 = .ok (.ireturn, 1) := by decide +kernel
theorem d_M_spring_44 : decode b_M_spring 44 = .ok (.aload_n 0, 1) := by decide +kernel
theorem d_M_spring_45 : decode b_M_spring 45 = .ok (.getfield 24, 3) := by decide +kernel
theorem d_M_spring_48 : decode b_M_spring 48 = .ok (.bipush 92, 2) := by decide +kernel
theorem d_M_spring_50 : decode b_M_spring 50 = .ok (.iload_n 3, 1) := by decide +kernel
theorem d_M_spring_51 : decode b_M_spring 51 = .ok (.iadd, 1) := by decide +kernel
theorem d_M_spring_52 : decode b_M_spring 52 = .ok (.iload_n 1, 1) := by decide +kernel
theorem d_M_spring_53 : decode b_M_spring 53 = .ok (.iastore, 1) := by decide +kernel
theorem d_M_spring_54 : decode b_M_spring 54 = .ok (.aload_n 0, 1) := by decide +kernel
theorem d_M_spring_55 : decode b_M_spring 55 = .ok (.getfield 24, 3) := by decide +kernel
theorem d_M_spring_58 : decode b_M_spring 58 = .ok (.iconst 1, 1) := by decide +kernel
theorem d_M_spring_59 : decode b_M_spring 59 = .ok (.iload_n 3, 1) := by decide +kernel
theorem d_M_spring_60 : decode b_M_spring 60 = .ok (.iadd, 1) := by decide +kernel
theorem d_M_spring_61 : decode b_M_spring 61 = .ok (.iload_n 2, 1) := by decide +kernel
theorem d_M_spring_62 : decode b_M_spring 62 = .ok (.iastore, 1) := by decide +kernel
theorem d_M_spring_63 : decode b_M_spring 63 = .ok (.aload_n 0, 1) := by decide +kernel
theorem d_M_spring_64 : decode b_M_spring 64 = .ok (.getfield 24, 3) := by decide +kernel
theorem d_M_spring_67 : decode b_M_spring 67 = .ok (.sipush 196, 3) := by decide +kernel
theorem d_M_spring_70 : decode b_M_spring 70 = .ok (.dup2, 1) := by decide +kernel
theorem d_M_spring_71 : decode b_M_spring 71 = .ok (.iaload, 1) := by decide +kernel
theorem d_M_spring_72 : decode b_M_spring 72 = .ok (.iconst 1, 1) := by decide +kernel
theorem d_M_spring_73 : decode b_M_spring 73 = .ok (.iadd, 1) := by decide +kernel
theorem d_M_spring_74 : decode b_M_spring 74 = .ok (.iastore, 1) := by decide +kernel
theorem d_M_spring_75 : decode b_M_spring 75 = .ok (.aload_n 0, 1) := by decide +kernel
theorem d_M_spring_76 : decode b_M_spring 76 = .ok (.iload_n 3, 1) := by decide +kernel
theorem d_M_spring_77 : decode b_M_spring 77 = .ok (.invokevirtual 115, 3) := by decide +kernel
theorem d_M_spring_80 : decode b_M_spring 80 = .ok (.ireturn, 1) := by decide +kernel
theorem mf_M_spring : zMF y_M_spring b_M_spring 4 (some .int) 2 := ⟨zGW_in 1460 (by decide +kernel) (by decide +kernel), zGW_in 135 (by decide +kernel) (by decide +kernel), by decide +kernel⟩
theorem in_M_spring : Cond.instanceMethod y_M_spring ∈ zGW := zGW_in 1458 (by decide +kernel) (by decide +kernel)
theorem se_M_spring : Cond.selects y_M_spring.cls y_M_spring y_M_spring ∈ zGW := zGW_in 1459 (by decide +kernel) (by decide +kernel)
def y_M_isSpring : MethodName := ⟨zNm 11, "isSpring", "(I)Z"⟩
abbrev b_M_isSpring : ByteArray := prog_13_method_15_code
theorem d_M_isSpring_0 : decode b_M_isSpring 0 = .ok (.iload_n 1, 1) := by decide +kernel
theorem d_M_isSpring_1 : decode b_M_isSpring 1 = .ok (.iconst 0, 1) := by decide +kernel
theorem d_M_isSpring_2 : decode b_M_isSpring 2 = .ok (.aload_n 0, 1) := by decide +kernel
theorem d_M_isSpring_3 : decode b_M_isSpring 3 = .ok (.invokevirtual 118, 3) := by decide +kernel
theorem d_M_isSpring_6 : decode b_M_isSpring 6 = .ok (.iconst 1, 1) := by decide +kernel
theorem d_M_isSpring_7 : decode b_M_isSpring 7 = .ok (.isub, 1) := by decide +kernel
theorem d_M_isSpring_8 : decode b_M_isSpring 8 = .ok (.invokestatic 108, 3) := by decide +kernel
theorem d_M_isSpring_11 : decode b_M_isSpring 11 = .ok (.ireturn, 1) := by decide +kernel
theorem mf_M_isSpring : zMF y_M_isSpring b_M_isSpring 2 (some .boolean) 1 := ⟨zGW_in 1476 (by decide +kernel) (by decide +kernel), zGW_in 135 (by decide +kernel) (by decide +kernel), by decide +kernel⟩
theorem in_M_isSpring : Cond.instanceMethod y_M_isSpring ∈ zGW := zGW_in 1475 (by decide +kernel) (by decide +kernel)
theorem se_M_isSpring : Cond.selects y_M_isSpring.cls y_M_isSpring y_M_isSpring ∈ zGW := zGW_in 44 (by decide +kernel) (by decide +kernel)
def y_M_areTwo : MethodName := ⟨zNm 11, "areTwo", "(II)Z"⟩
abbrev b_M_areTwo : ByteArray := prog_13_method_16_code
theorem d_M_areTwo_0 : decode b_M_areTwo 0 = .ok (.aload_n 0, 1) := by decide +kernel
theorem d_M_areTwo_1 : decode b_M_areTwo 1 = .ok (.iload_n 1, 1) := by decide +kernel
theorem d_M_areTwo_2 : decode b_M_areTwo 2 = .ok (.invokevirtual 122, 3) := by decide +kernel
theorem d_M_areTwo_5 : decode b_M_areTwo 5 = .ok (.ifCond .eq 20, 3) := by decide +kernel
theorem d_M_areTwo_8 : decode b_M_areTwo 8 = .ok (.aload_n 0, 1) := by decide +kernel
theorem d_M_areTwo_9 : decode b_M_areTwo 9 = .ok (.iload_n 2, 1) := by decide +kernel
theorem d_M_areTwo_10 : decode b_M_areTwo 10 = .ok (.invokevirtual 122, 3) := by decide +kernel
theorem d_M_areTwo_13 : decode b_M_areTwo 13 = .ok (.ifCond .eq 12, 3) := by decide +kernel
theorem d_M_areTwo_16 : decode b_M_areTwo 16 = .ok (.iload_n 1, 1) := by decide +kernel
theorem d_M_areTwo_17 : decode b_M_areTwo 17 = .ok (.iload_n 2, 1) := by decide +kernel
theorem d_M_areTwo_18 : decode b_M_areTwo 18 = .ok (.if_icmp .eq 7, 3) := by decide +kernel
theorem d_M_areTwo_21 : decode b_M_areTwo 21 = .ok (.iconst 1, 1) := by decide +kernel
theorem d_M_areTwo_22 : decode b_M_areTwo 22 = .ok (.goto 4, 3) := by decide +kernel
theorem d_M_areTwo_25 : decode b_M_areTwo 25 = .ok (.iconst 0, 1) := by decide +kernel
theorem d_M_areTwo_26 : decode b_M_areTwo 26 = .ok (.ireturn, 1) := by decide +kernel
theorem mf_M_areTwo : zMF y_M_areTwo b_M_areTwo 3 (some .boolean) 2 := ⟨zGW_in 1472 (by decide +kernel) (by decide +kernel), zGW_in 135 (by decide +kernel) (by decide +kernel), by decide +kernel⟩
theorem in_M_areTwo : Cond.instanceMethod y_M_areTwo ∈ zGW := zGW_in 1471 (by decide +kernel) (by decide +kernel)
theorem se_M_areTwo : Cond.selects y_M_areTwo.cls y_M_areTwo y_M_areTwo ∈ zGW := zGW_in 43 (by decide +kernel) (by decide +kernel)
def y_M_pairAt : MethodName := ⟨zNm 11, "pairAt", "(II)I"⟩
abbrev b_M_pairAt : ByteArray := prog_13_method_8_code
theorem d_M_pairAt_0 : decode b_M_pairAt 0 = .ok (.bipush 9, 2) := by decide +kernel
theorem d_M_pairAt_2 : decode b_M_pairAt 2 = .ok (.iload_n 0, 1) := by decide +kernel
theorem d_M_pairAt_3 : decode b_M_pairAt 3 = .ok (.imul, 1) := by decide +kernel
theorem d_M_pairAt_4 : decode b_M_pairAt 4 = .ok (.iload_n 1, 1) := by decide +kernel
theorem d_M_pairAt_5 : decode b_M_pairAt 5 = .ok (.iadd, 1) := by decide +kernel
theorem d_M_pairAt_6 : decode b_M_pairAt 6 = .ok (.ireturn, 1) := by decide +kernel
theorem mf_M_pairAt : zMF y_M_pairAt b_M_pairAt 2 (some .int) 2 := ⟨zGW_in 1483 (by decide +kernel) (by decide +kernel), zGW_in 135 (by decide +kernel) (by decide +kernel), by decide +kernel⟩
theorem st_M_pairAt : Cond.static y_M_pairAt ∈ zGW := zGW_in 1482 (by decide +kernel) (by decide +kernel)
def y_M_farOf : MethodName := ⟨zNm 11, "farOf", "(II)I"⟩
abbrev b_M_farOf : ByteArray := prog_13_method_19_code
theorem d_M_farOf_0 : decode b_M_farOf 0 = .ok (.aload_n 0, 1) := by decide +kernel
theorem d_M_farOf_1 : decode b_M_farOf 1 = .ok (.getfield 24, 3) := by decide +kernel
theorem d_M_farOf_4 : decode b_M_farOf 4 = .ok (.bipush 101, 2) := by decide +kernel
theorem d_M_farOf_6 : decode b_M_farOf 6 = .ok (.iload_n 1, 1) := by decide +kernel
theorem d_M_farOf_7 : decode b_M_farOf 7 = .ok (.iload_n 2, 1) := by decide +kernel
theorem d_M_farOf_8 : decode b_M_farOf 8 = .ok (.invokestatic 126, 3) := by decide +kernel
theorem d_M_farOf_11 : decode b_M_farOf 11 = .ok (.iadd, 1) := by decide +kernel
theorem d_M_farOf_12 : decode b_M_farOf 12 = .ok (.iaload, 1) := by decide +kernel
theorem d_M_farOf_13 : decode b_M_farOf 13 = .ok (.ireturn, 1) := by decide +kernel
theorem mf_M_farOf : zMF y_M_farOf b_M_farOf 3 (some .int) 2 := ⟨zGW_in 1480 (by decide +kernel) (by decide +kernel), zGW_in 135 (by decide +kernel) (by decide +kernel), by decide +kernel⟩
theorem in_M_farOf : Cond.instanceMethod y_M_farOf ∈ zGW := zGW_in 1479 (by decide +kernel) (by decide +kernel)
theorem se_M_farOf : Cond.selects y_M_farOf.cls y_M_farOf y_M_farOf ∈ zGW := zGW_in 45 (by decide +kernel) (by decide +kernel)
def y_M_laysChannel : MethodName := ⟨zNm 11, "laysChannel", "(III)V"⟩
abbrev b_M_laysChannel : ByteArray := prog_13_method_18_code
theorem d_M_laysChannel_0 : decode b_M_laysChannel 0 = .ok (.aload_n 0, 1) := by decide +kernel
theorem d_M_laysChannel_1 : decode b_M_laysChannel 1 = .ok (.getfield 24, 3) := by decide +kernel
theorem d_M_laysChannel_4 : decode b_M_laysChannel 4 = .ok (.bipush 101, 2) := by decide +kernel
theorem d_M_laysChannel_6 : decode b_M_laysChannel 6 = .ok (.iload_n 1, 1) := by decide +kernel
theorem d_M_laysChannel_7 : decode b_M_laysChannel 7 = .ok (.iload_n 2, 1) := by decide +kernel
theorem d_M_laysChannel_8 : decode b_M_laysChannel 8 = .ok (.invokestatic 126, 3) := by decide +kernel
theorem d_M_laysChannel_11 : decode b_M_laysChannel 11 = .ok (.iadd, 1) := by decide +kernel
theorem d_M_laysChannel_12 : decode b_M_laysChannel 12 = .ok (.iload_n 3, 1) := by decide +kernel
theorem d_M_laysChannel_13 : decode b_M_laysChannel 13 = .ok (.iastore, 1) := by decide +kernel
theorem d_M_laysChannel_14 : decode b_M_laysChannel 14 = .ok (.aload_n 0, 1) := by decide +kernel
theorem d_M_laysChannel_15 : decode b_M_laysChannel 15 = .ok (.getfield 24, 3) := by decide +kernel
theorem d_M_laysChannel_18 : decode b_M_laysChannel 18 = .ok (.bipush 101, 2) := by decide +kernel
theorem d_M_laysChannel_20 : decode b_M_laysChannel 20 = .ok (.iload_n 2, 1) := by decide +kernel
theorem d_M_laysChannel_21 : decode b_M_laysChannel 21 = .ok (.iload_n 1, 1) := by decide +kernel
theorem d_M_laysChannel_22 : decode b_M_laysChannel 22 = .ok (.invokestatic 126, 3) := by decide +kernel
theorem d_M_laysChannel_25 : decode b_M_laysChannel 25 = .ok (.iadd, 1) := by decide +kernel
theorem d_M_laysChannel_26 : decode b_M_laysChannel 26 = .ok (.iload_n 3, 1) := by decide +kernel
theorem d_M_laysChannel_27 : decode b_M_laysChannel 27 = .ok (.iastore, 1) := by decide +kernel
theorem d_M_laysChannel_28 : decode b_M_laysChannel 28 = .ok (.aload_n 0, 1) := by decide +kernel
theorem d_M_laysChannel_29 : decode b_M_laysChannel 29 = .ok (.getfield 24, 3) := by decide +kernel
theorem d_M_laysChannel_32 : decode b_M_laysChannel 32 = .ok (.bipush 10, 2) := by decide +kernel
theorem d_M_laysChannel_34 : decode b_M_laysChannel 34 = .ok (.iload_n 1, 1) := by decide +kernel
theorem d_M_laysChannel_35 : decode b_M_laysChannel 35 = .ok (.iload_n 2, 1) := by decide +kernel
theorem d_M_laysChannel_36 : decode b_M_laysChannel 36 = .ok (.invokestatic 126, 3) := by decide +kernel
theorem d_M_laysChannel_39 : decode b_M_laysChannel 39 = .ok (.iadd, 1) := by decide +kernel
theorem d_M_laysChannel_40 : decode b_M_laysChannel 40 = .ok (.iconst 0, 1) := by decide +kernel
theorem d_M_laysChannel_41 : decode b_M_laysChannel 41 = .ok (.iastore, 1) := by decide +kernel
theorem d_M_laysChannel_42 : decode b_M_laysChannel 42 = .ok (.aload_n 0, 1) := by decide +kernel
theorem d_M_laysChannel_43 : decode b_M_laysChannel 43 = .ok (.getfield 24, 3) := by decide +kernel
theorem d_M_laysChannel_46 : decode b_M_laysChannel 46 = .ok (.bipush 10, 2) := by decide +kernel
theorem d_M_laysChannel_48 : decode b_M_laysChannel 48 = .ok (.iload_n 2, 1) := by decide +kernel
theorem d_M_laysChannel_49 : decode b_M_laysChannel 49 = .ok (.iload_n 1, 1) := by decide +kernel
theorem d_M_laysChannel_50 : decode b_M_laysChannel 50 = .ok (.invokestatic 126, 3) := by decide +kernel
theorem d_M_laysChannel_53 : decode b_M_laysChannel 53 = .ok (.iadd, 1) := by decide +kernel
theorem d_M_laysChannel_54 : decode b_M_laysChannel 54 = .ok (.iconst 0, 1) := by decide +kernel
theorem d_M_laysChannel_55 : decode b_M_laysChannel 55 = .ok (.iastore, 1) := by decide +kernel
theorem d_M_laysChannel_56 : decode b_M_laysChannel 56 = .ok (.return_, 1) := by decide +kernel
theorem mf_M_laysChannel : zMF y_M_laysChannel b_M_laysChannel 4 none 3 := ⟨zGW_in 1487 (by decide +kernel) (by decide +kernel), zGW_in 135 (by decide +kernel) (by decide +kernel), by decide +kernel⟩
theorem in_M_laysChannel : Cond.instanceMethod y_M_laysChannel ∈ zGW := zGW_in 1486 (by decide +kernel) (by decide +kernel)
theorem se_M_laysChannel : Cond.selects y_M_laysChannel.cls y_M_laysChannel y_M_laysChannel ∈ zGW := zGW_in 46 (by decide +kernel) (by decide +kernel)
def y_M_channel : MethodName := ⟨zNm 11, "channel", "(III)I"⟩
abbrev b_M_channel : ByteArray := prog_13_method_21_code
theorem d_M_channel_0 : decode b_M_channel 0 = .ok (.iload_n 1, 1) := by decide +kernel
theorem d_M_channel_1 : decode b_M_channel 1 = .ok (.iload_n 2, 1) := by decide +kernel
theorem d_M_channel_2 : decode b_M_channel 2 = .ok (.if_icmp .eq 13, 3) := by decide +kernel
theorem d_M_channel_5 : decode b_M_channel 5 = .ok (.iload_n 3, 1) := by decide +kernel
theorem d_M_channel_6 : decode b_M_channel 6 = .ok (.iconst 0, 1) := by decide +kernel
theorem d_M_channel_7 : decode b_M_channel 7 = .ok (.bipush 50, 2) := by decide +kernel
theorem d_M_channel_9 : decode b_M_channel 9 = .ok (.invokestatic 108, 3) := by decide +kernel
theorem d_M_channel_12 : decode b_M_channel 12 = .ok (.ifCond .ne 9, 3) := by decide +kernel
theorem d_M_channel_15 : decode b_M_channel 15 = .ok (.aload_n 0, 1) := by decide +kernel
theorem d_M_channel_16 : decode b_M_channel 16 = .ok (.iconst (-1), 1) := by decide +kernel
theorem d_M_channel_17 : decode b_M_channel 17 = .ok (.invokevirtual 112, 3) := by decide +kernel
theorem d_M_channel_20 : decode b_M_channel 20 = .ok (.ireturn, 1) := by decide +kernel
theorem d_M_channel_21 : decode b_M_channel 21 = .ok (.aload_n 0, 1) := by decide +kernel
theorem d_M_channel_22 : decode b_M_channel 22 = .ok (.iload_n 1, 1) := by decide +kernel
theorem d_M_channel_23 : decode b_M_channel 23 = .ok (.iload_n 2, 1) := by decide +kernel
theorem d_M_channel_24 : decode b_M_channel 24 = .ok (.invokevirtual 130, 3) := by decide +kernel
theorem d_M_channel_27 : decode b_M_channel 27 = .ok (.ifCond .ne 10, 3) := by decide +kernel
theorem d_M_channel_30 : decode b_M_channel 30 = .ok (.aload_n 0, 1) := by decide +kernel
theorem d_M_channel_31 : decode b_M_channel 31 = .ok (.bipush (-2), 2) := by decide +kernel
theorem d_M_channel_33 : decode b_M_channel 33 = .ok (.invokevirtual 112, 3) := by decide +kernel
theorem d_M_channel_36 : decode b_M_channel 36 = .ok (.ireturn, 1) := by decide +kernel
theorem d_M_channel_37 : decode b_M_channel 37 = .ok (.aload_n 0, 1) := by decide +kernel
theorem d_M_channel_38 : decode b_M_channel 38 = .ok (.iload_n 1, 1) := by decide +kernel
theorem d_M_channel_39 : decode b_M_channel 39 = .ok (.iload_n 2, 1) := by decide +kernel
theorem d_M_channel_40 : decode b_M_channel 40 = .ok (.invokevirtual 134, 3) := by decide +kernel
theorem d_M_channel_43 : decode b_M_channel 43 = .ok (.istore 4, 2) := by decide +kernel
theorem d_M_channel_45 : decode b_M_channel 45 = .ok (.aload_n 0, 1) := by decide +kernel
theorem d_M_channel_46 : decode b_M_channel 46 = .ok (.iload_n 1, 1) := by decide +kernel
theorem d_M_channel_47 : decode b_M_channel 47 = .ok (.iload_n 2, 1) := by decide +kernel
theorem d_M_channel_48 : decode b_M_channel 48 = .ok (.iload_n 3, 1) := by decide +kernel
theorem d_M_channel_49 : decode b_M_channel 49 = .ok (.invokevirtual 137, 3) := by decide +kernel
theorem d_M_channel_52 : decode b_M_channel 52 = .ok (.aload_n 0, 1) := by decide +kernel
theorem d_M_channel_53 : decode b_M_channel 53 = .ok (.iload 4, 2) := by decide +kernel
theorem d_M_channel_55 : decode b_M_channel 55 = .ok (.invokevirtual 115, 3) := by decide +kernel
theorem d_M_channel_58 : decode b_M_channel 58 = .ok (.ireturn, 1) := by decide +kernel
theorem mf_M_channel : zMF y_M_channel b_M_channel 5 (some .int) 3 := ⟨zGW_in 1468 (by decide +kernel) (by decide +kernel), zGW_in 135 (by decide +kernel) (by decide +kernel), by decide +kernel⟩
theorem in_M_channel : Cond.instanceMethod y_M_channel ∈ zGW := zGW_in 1466 (by decide +kernel) (by decide +kernel)
theorem se_M_channel : Cond.selects y_M_channel.cls y_M_channel y_M_channel ∈ zGW := zGW_in 1467 (by decide +kernel) (by decide +kernel)
def y_M_setsSpring : MethodName := ⟨zNm 11, "setsSpring", "(I)V"⟩
abbrev b_M_setsSpring : ByteArray := prog_13_method_70_code
theorem d_M_setsSpring_0 : decode b_M_setsSpring 0 = .ok (.aload_n 0, 1) := by decide +kernel
theorem d_M_setsSpring_1 : decode b_M_setsSpring 1 = .ok (.getfield 59, 3) := by decide +kernel
theorem d_M_setsSpring_4 : decode b_M_setsSpring 4 = .ok (.iconst 0, 1) := by decide +kernel
theorem d_M_setsSpring_5 : decode b_M_setsSpring 5 = .ok (.iload_n 1, 1) := by decide +kernel
theorem d_M_setsSpring_6 : decode b_M_setsSpring 6 = .ok (.iastore, 1) := by decide +kernel
theorem d_M_setsSpring_7 : decode b_M_setsSpring 7 = .ok (.aload_n 0, 1) := by decide +kernel
theorem d_M_setsSpring_8 : decode b_M_setsSpring 8 = .ok (.getfield 59, 3) := by decide +kernel
theorem d_M_setsSpring_11 : decode b_M_setsSpring 11 = .ok (.iconst 1, 1) := by decide +kernel
theorem d_M_setsSpring_12 : decode b_M_setsSpring 12 = .ok (.iconst (-1), 1) := by decide +kernel
theorem d_M_setsSpring_13 : decode b_M_setsSpring 13 = .ok (.iastore, 1) := by decide +kernel
theorem d_M_setsSpring_14 : decode b_M_setsSpring 14 = .ok (.aload_n 0, 1) := by decide +kernel
theorem d_M_setsSpring_15 : decode b_M_setsSpring 15 = .ok (.getfield 59, 3) := by decide +kernel
theorem d_M_setsSpring_18 : decode b_M_setsSpring 18 = .ok (.iconst 2, 1) := by decide +kernel
theorem d_M_setsSpring_19 : decode b_M_setsSpring 19 = .ok (.iconst (-1), 1) := by decide +kernel
theorem d_M_setsSpring_20 : decode b_M_setsSpring 20 = .ok (.iastore, 1) := by decide +kernel
theorem d_M_setsSpring_21 : decode b_M_setsSpring 21 = .ok (.aload_n 0, 1) := by decide +kernel
theorem d_M_setsSpring_22 : decode b_M_setsSpring 22 = .ok (.getfield 59, 3) := by decide +kernel
theorem d_M_setsSpring_25 : decode b_M_setsSpring 25 = .ok (.iconst 3, 1) := by decide +kernel
theorem d_M_setsSpring_26 : decode b_M_setsSpring 26 = .ok (.iconst 0, 1) := by decide +kernel
theorem d_M_setsSpring_27 : decode b_M_setsSpring 27 = .ok (.iastore, 1) := by decide +kernel
theorem d_M_setsSpring_28 : decode b_M_setsSpring 28 = .ok (.aload_n 0, 1) := by decide +kernel
theorem d_M_setsSpring_29 : decode b_M_setsSpring 29 = .ok (.getfield 59, 3) := by decide +kernel
theorem d_M_setsSpring_32 : decode b_M_setsSpring 32 = .ok (.iconst 4, 1) := by decide +kernel
theorem d_M_setsSpring_33 : decode b_M_setsSpring 33 = .ok (.aload_n 0, 1) := by decide +kernel
theorem d_M_setsSpring_34 : decode b_M_setsSpring 34 = .ok (.getfield 24, 3) := by decide +kernel
theorem d_M_setsSpring_37 : decode b_M_setsSpring 37 = .ok (.sipush 195, 3) := by decide +kernel
theorem d_M_setsSpring_40 : decode b_M_setsSpring 40 = .ok (.iaload, 1) := by decide +kernel
theorem d_M_setsSpring_41 : decode b_M_setsSpring 41 = .ok (.iastore, 1) := by decide +kernel
theorem d_M_setsSpring_42 : decode b_M_setsSpring 42 = .ok (.aload_n 0, 1) := by decide +kernel
theorem d_M_setsSpring_43 : decode b_M_setsSpring 43 = .ok (.getfield 59, 3) := by decide +kernel
theorem d_M_setsSpring_46 : decode b_M_setsSpring 46 = .ok (.iconst 5, 1) := by decide +kernel
theorem d_M_setsSpring_47 : decode b_M_setsSpring 47 = .ok (.aload_n 0, 1) := by decide +kernel
theorem d_M_setsSpring_48 : decode b_M_setsSpring 48 = .ok (.getfield 24, 3) := by decide +kernel
theorem d_M_setsSpring_51 : decode b_M_setsSpring 51 = .ok (.iconst 1, 1) := by decide +kernel
theorem d_M_setsSpring_52 : decode b_M_setsSpring 52 = .ok (.iload_n 1, 1) := by decide +kernel
theorem d_M_setsSpring_53 : decode b_M_setsSpring 53 = .ok (.iadd, 1) := by decide +kernel
theorem d_M_setsSpring_54 : decode b_M_setsSpring 54 = .ok (.iaload, 1) := by decide +kernel
theorem d_M_setsSpring_55 : decode b_M_setsSpring 55 = .ok (.iastore, 1) := by decide +kernel
theorem d_M_setsSpring_56 : decode b_M_setsSpring 56 = .ok (.aload_n 0, 1) := by decide +kernel
theorem d_M_setsSpring_57 : decode b_M_setsSpring 57 = .ok (.getfield 59, 3) := by decide +kernel
theorem d_M_setsSpring_60 : decode b_M_setsSpring 60 = .ok (.bipush 6, 2) := by decide +kernel
theorem d_M_setsSpring_62 : decode b_M_setsSpring 62 = .ok (.aload_n 0, 1) := by decide +kernel
theorem d_M_setsSpring_63 : decode b_M_setsSpring 63 = .ok (.getfield 24, 3) := by decide +kernel
theorem d_M_setsSpring_66 : decode b_M_setsSpring 66 = .ok (.bipush 91, 2) := by decide +kernel
theorem d_M_setsSpring_68 : decode b_M_setsSpring 68 = .ok (.iaload, 1) := by decide +kernel
theorem d_M_setsSpring_69 : decode b_M_setsSpring 69 = .ok (.iastore, 1) := by decide +kernel
theorem d_M_setsSpring_70 : decode b_M_setsSpring 70 = .ok (.return_, 1) := by decide +kernel
theorem mf_M_setsSpring : zMF y_M_setsSpring b_M_setsSpring 2 none 1 := ⟨zGW_in 1499 (by decide +kernel) (by decide +kernel), zGW_in 135 (by decide +kernel) (by decide +kernel), by decide +kernel⟩
theorem in_M_setsSpring : Cond.instanceMethod y_M_setsSpring ∈ zGW := zGW_in 1498 (by decide +kernel) (by decide +kernel)
theorem se_M_setsSpring : Cond.selects y_M_setsSpring.cls y_M_setsSpring y_M_setsSpring ∈ zGW := zGW_in 48 (by decide +kernel) (by decide +kernel)
def y_M_codeAt : MethodName := ⟨zNm 11, "codeAt", "(I)I"⟩
abbrev b_M_codeAt : ByteArray := prog_13_method_58_code
theorem d_M_codeAt_0 : decode b_M_codeAt 0 = .ok (.iload_n 1, 1) := by decide +kernel
theorem d_M_codeAt_1 : decode b_M_codeAt 1 = .ok (.aload_n 0, 1) := by decide +kernel
theorem d_M_codeAt_2 : decode b_M_codeAt 2 = .ok (.getfield 265, 3) := by decide +kernel
theorem d_M_codeAt_5 : decode b_M_codeAt 5 = .ok (.if_icmp .ge 16, 3) := by decide +kernel
theorem d_M_codeAt_8 : decode b_M_codeAt 8 = .ok (.aload_n 0, 1) := by decide +kernel
theorem d_M_codeAt_9 : decode b_M_codeAt 9 = .ok (.getfield 24, 3) := by decide +kernel
theorem d_M_codeAt_12 : decode b_M_codeAt 12 = .ok (.sipush 207, 3) := by decide +kernel
theorem d_M_codeAt_15 : decode b_M_codeAt 15 = .ok (.iload_n 1, 1) := by decide +kernel
theorem d_M_codeAt_16 : decode b_M_codeAt 16 = .ok (.iadd, 1) := by decide +kernel
theorem d_M_codeAt_17 : decode b_M_codeAt 17 = .ok (.iaload, 1) := by decide +kernel
theorem d_M_codeAt_18 : decode b_M_codeAt 18 = .ok (.goto 4, 3) := by decide +kernel
theorem d_M_codeAt_21 : decode b_M_codeAt 21 = .ok (.iconst 0, 1) := by decide +kernel
theorem d_M_codeAt_22 : decode b_M_codeAt 22 = .ok (.ireturn, 1) := by decide +kernel
theorem mf_M_codeAt : zMF y_M_codeAt b_M_codeAt 2 (some .int) 1 := ⟨zGW_in 1507 (by decide +kernel) (by decide +kernel), zGW_in 135 (by decide +kernel) (by decide +kernel), by decide +kernel⟩
theorem in_M_codeAt : Cond.instanceMethod y_M_codeAt ∈ zGW := zGW_in 1506 (by decide +kernel) (by decide +kernel)
theorem se_M_codeAt : Cond.selects y_M_codeAt.cls y_M_codeAt y_M_codeAt ∈ zGW := zGW_in 50 (by decide +kernel) (by decide +kernel)
def y_M_sign : MethodName := ⟨zNm 11, "sign", "(C)I"⟩
abbrev b_M_sign : ByteArray := prog_13_method_40_code
theorem d_M_sign_0 : decode b_M_sign 0 = .ok (.bipush 100, 2) := by decide +kernel
theorem d_M_sign_2 : decode b_M_sign 2 = .ok (.iload_n 0, 1) := by decide +kernel
theorem d_M_sign_3 : decode b_M_sign 3 = .ok (.iadd, 1) := by decide +kernel
theorem d_M_sign_4 : decode b_M_sign 4 = .ok (.ireturn, 1) := by decide +kernel
theorem mf_M_sign : zMF y_M_sign b_M_sign 1 (some .int) 1 := ⟨zGW_in 1522 (by decide +kernel) (by decide +kernel), zGW_in 135 (by decide +kernel) (by decide +kernel), by decide +kernel⟩
theorem st_M_sign : Cond.static y_M_sign ∈ zGW := zGW_in 1521 (by decide +kernel) (by decide +kernel)
def y_M_passes0 : MethodName := ⟨zNm 11, "passes0", "(I)Z"⟩
abbrev b_M_passes0 : ByteArray := prog_13_method_59_code
theorem d_M_passes0_0 : decode b_M_passes0 0 = .ok (.aload_n 0, 1) := by decide +kernel
theorem d_M_passes0_1 : decode b_M_passes0 1 = .ok (.aload_n 0, 1) := by decide +kernel
theorem d_M_passes0_2 : decode b_M_passes0 2 = .ok (.getfield 268, 3) := by decide +kernel
theorem d_M_passes0_5 : decode b_M_passes0 5 = .ok (.invokevirtual 271, 3) := by decide +kernel
theorem d_M_passes0_8 : decode b_M_passes0 8 = .ok (.iload_n 1, 1) := by decide +kernel
theorem d_M_passes0_9 : decode b_M_passes0 9 = .ok (.if_icmp .ne 7, 3) := by decide +kernel
theorem d_M_passes0_12 : decode b_M_passes0 12 = .ok (.iconst 1, 1) := by decide +kernel
theorem d_M_passes0_13 : decode b_M_passes0 13 = .ok (.goto 4, 3) := by decide +kernel
theorem d_M_passes0_16 : decode b_M_passes0 16 = .ok (.iconst 0, 1) := by decide +kernel
theorem d_M_passes0_17 : decode b_M_passes0 17 = .ok (.istore_n 2, 1) := by decide +kernel
theorem d_M_passes0_18 : decode b_M_passes0 18 = .ok (.iload_n 2, 1) := by decide +kernel
theorem d_M_passes0_19 : decode b_M_passes0 19 = .ok (.ifCond .eq 13, 3) := by decide +kernel
theorem d_M_passes0_22 : decode b_M_passes0 22 = .ok (.aload_n 0, 1) := by decide +kernel
theorem d_M_passes0_23 : decode b_M_passes0 23 = .ok (.dup, 1) := by decide +kernel
theorem d_M_passes0_24 : decode b_M_passes0 24 = .ok (.getfield 268, 3) := by decide +kernel
theorem d_M_passes0_27 : decode b_M_passes0 27 = .ok (.iconst 1, 1) := by decide +kernel
theorem d_M_passes0_28 : decode b_M_passes0 28 = .ok (.iadd, 1) := by decide +kernel
theorem d_M_passes0_29 : decode b_M_passes0 29 = .ok (.putfield 268, 3) := by decide +kernel
theorem d_M_passes0_32 : decode b_M_passes0 32 = .ok (.iload_n 2, 1) := by decide +kernel
theorem d_M_passes0_33 : decode b_M_passes0 33 = .ok (.ireturn, 1) := by decide +kernel
theorem mf_M_passes0 : zMF y_M_passes0 b_M_passes0 3 (some .boolean) 1 := ⟨zGW_in 1526 (by decide +kernel) (by decide +kernel), zGW_in 135 (by decide +kernel) (by decide +kernel), by decide +kernel⟩
theorem in_M_passes0 : Cond.instanceMethod y_M_passes0 ∈ zGW := zGW_in 1525 (by decide +kernel) (by decide +kernel)
theorem se_M_passes0 : Cond.selects y_M_passes0.cls y_M_passes0 y_M_passes0 ∈ zGW := zGW_in 54 (by decide +kernel) (by decide +kernel)
def y_M_isShut : MethodName := ⟨zNm 11, "isShut", "(II)Z"⟩
abbrev b_M_isShut : ByteArray := prog_13_method_20_code
theorem d_M_isShut_0 : decode b_M_isShut 0 = .ok (.aload_n 0, 1) := by decide +kernel
theorem d_M_isShut_1 : decode b_M_isShut 1 = .ok (.getfield 24, 3) := by decide +kernel
theorem d_M_isShut_4 : decode b_M_isShut 4 = .ok (.bipush 10, 2) := by decide +kernel
theorem d_M_isShut_6 : decode b_M_isShut 6 = .ok (.iload_n 1, 1) := by decide +kernel
theorem d_M_isShut_7 : decode b_M_isShut 7 = .ok (.iload_n 2, 1) := by decide +kernel
theorem d_M_isShut_8 : decode b_M_isShut 8 = .ok (.invokestatic 126, 3) := by decide +kernel
theorem d_M_isShut_11 : decode b_M_isShut 11 = .ok (.iadd, 1) := by decide +kernel
theorem d_M_isShut_12 : decode b_M_isShut 12 = .ok (.iaload, 1) := by decide +kernel
theorem d_M_isShut_13 : decode b_M_isShut 13 = .ok (.iconst 1, 1) := by decide +kernel
theorem d_M_isShut_14 : decode b_M_isShut 14 = .ok (.if_icmp .ne 7, 3) := by decide +kernel
theorem d_M_isShut_17 : decode b_M_isShut 17 = .ok (.iconst 1, 1) := by decide +kernel
theorem d_M_isShut_18 : decode b_M_isShut 18 = .ok (.goto 4, 3) := by decide +kernel
theorem d_M_isShut_21 : decode b_M_isShut 21 = .ok (.iconst 0, 1) := by decide +kernel
theorem d_M_isShut_22 : decode b_M_isShut 22 = .ok (.ireturn, 1) := by decide +kernel
theorem mf_M_isShut : zMF y_M_isShut b_M_isShut 3 (some .boolean) 2 := ⟨zGW_in 1542 (by decide +kernel) (by decide +kernel), zGW_in 135 (by decide +kernel) (by decide +kernel), by decide +kernel⟩
theorem in_M_isShut : Cond.instanceMethod y_M_isShut ∈ zGW := zGW_in 1541 (by decide +kernel) (by decide +kernel)
theorem se_M_isShut : Cond.selects y_M_isShut.cls y_M_isShut y_M_isShut ∈ zGW := zGW_in 58 (by decide +kernel) (by decide +kernel)
def y_M_channelMany : MethodName := ⟨zNm 11, "channelMany", "(Z)I"⟩
abbrev b_M_channelMany : ByteArray := prog_13_method_78_code
theorem d_M_channelMany_0 : decode b_M_channelMany 0 = .ok (.iconst 0, 1) := by decide +kernel
theorem d_M_channelMany_1 : decode b_M_channelMany 1 = .ok (.istore_n 2, 1) := by decide +kernel
theorem d_M_channelMany_2 : decode b_M_channelMany 2 = .ok (.iconst 0, 1) := by decide +kernel
theorem d_M_channelMany_3 : decode b_M_channelMany 3 = .ok (.istore_n 3, 1) := by decide +kernel
theorem d_M_channelMany_4 : decode b_M_channelMany 4 = .ok (.iload_n 3, 1) := by decide +kernel
theorem d_M_channelMany_5 : decode b_M_channelMany 5 = .ok (.aload_n 0, 1) := by decide +kernel
theorem d_M_channelMany_6 : decode b_M_channelMany 6 = .ok (.invokevirtual 118, 3) := by decide +kernel
theorem d_M_channelMany_9 : decode b_M_channelMany 9 = .ok (.if_icmp .ge 61, 3) := by decide +kernel
theorem d_M_channelMany_12 : decode b_M_channelMany 12 = .ok (.iload_n 3, 1) := by decide +kernel
theorem d_M_channelMany_13 : decode b_M_channelMany 13 = .ok (.iconst 1, 1) := by decide +kernel
theorem d_M_channelMany_14 : decode b_M_channelMany 14 = .ok (.iadd, 1) := by decide +kernel
theorem d_M_channelMany_15 : decode b_M_channelMany 15 = .ok (.istore 4, 2) := by decide +kernel
theorem d_M_channelMany_17 : decode b_M_channelMany 17 = .ok (.iload 4, 2) := by decide +kernel
theorem d_M_channelMany_19 : decode b_M_channelMany 19 = .ok (.aload_n 0, 1) := by decide +kernel
theorem d_M_channelMany_20 : decode b_M_channelMany 20 = .ok (.invokevirtual 118, 3) := by decide +kernel
theorem d_M_channelMany_23 : decode b_M_channelMany 23 = .ok (.if_icmp .ge 41, 3) := by decide +kernel
theorem d_M_channelMany_26 : decode b_M_channelMany 26 = .ok (.iload_n 2, 1) := by decide +kernel
theorem d_M_channelMany_27 : decode b_M_channelMany 27 = .ok (.aload_n 0, 1) := by decide +kernel
theorem d_M_channelMany_28 : decode b_M_channelMany 28 = .ok (.iload_n 3, 1) := by decide +kernel
theorem d_M_channelMany_29 : decode b_M_channelMany 29 = .ok (.iload 4, 2) := by decide +kernel
theorem d_M_channelMany_31 : decode b_M_channelMany 31 = .ok (.invokevirtual 134, 3) := by decide +kernel
theorem d_M_channelMany_34 : decode b_M_channelMany 34 = .ok (.ifCond .le 21, 3) := by decide +kernel
theorem d_M_channelMany_37 : decode b_M_channelMany 37 = .ok (.iload_n 1, 1) := by decide +kernel
theorem d_M_channelMany_38 : decode b_M_channelMany 38 = .ok (.ifCond .eq 13, 3) := by decide +kernel
theorem d_M_channelMany_41 : decode b_M_channelMany 41 = .ok (.aload_n 0, 1) := by decide +kernel
theorem d_M_channelMany_42 : decode b_M_channelMany 42 = .ok (.iload_n 3, 1) := by decide +kernel
theorem d_M_channelMany_43 : decode b_M_channelMany 43 = .ok (.iload 4, 2) := by decide +kernel
theorem d_M_channelMany_45 : decode b_M_channelMany 45 = .ok (.invokevirtual 338, 3) := by decide +kernel
theorem d_M_channelMany_48 : decode b_M_channelMany 48 = .ok (.ifCond .eq 7, 3) := by decide +kernel
theorem d_M_channelMany_51 : decode b_M_channelMany 51 = .ok (.iconst 1, 1) := by decide +kernel
theorem d_M_channelMany_52 : decode b_M_channelMany 52 = .ok (.goto 4, 3) := by decide +kernel
theorem d_M_channelMany_55 : decode b_M_channelMany 55 = .ok (.iconst 0, 1) := by decide +kernel
theorem d_M_channelMany_56 : decode b_M_channelMany 56 = .ok (.iadd, 1) := by decide +kernel
theorem d_M_channelMany_57 : decode b_M_channelMany 57 = .ok (.istore_n 2, 1) := by decide +kernel
theorem d_M_channelMany_58 : decode b_M_channelMany 58 = .ok (.iinc 4 1, 3) := by decide +kernel
theorem d_M_channelMany_61 : decode b_M_channelMany 61 = .ok (.goto (-44), 3) := by decide +kernel
theorem d_M_channelMany_64 : decode b_M_channelMany 64 = .ok (.iinc 3 1, 3) := by decide +kernel
theorem d_M_channelMany_67 : decode b_M_channelMany 67 = .ok (.goto (-63), 3) := by decide +kernel
theorem d_M_channelMany_70 : decode b_M_channelMany 70 = .ok (.iload_n 2, 1) := by decide +kernel
theorem d_M_channelMany_71 : decode b_M_channelMany 71 = .ok (.ireturn, 1) := by decide +kernel
theorem mf_M_channelMany : zMF y_M_channelMany b_M_channelMany 5 (some .int) 1 := ⟨zGW_in 1538 (by decide +kernel) (by decide +kernel), zGW_in 135 (by decide +kernel) (by decide +kernel), by decide +kernel⟩
theorem in_M_channelMany : Cond.instanceMethod y_M_channelMany ∈ zGW := zGW_in 1537 (by decide +kernel) (by decide +kernel)
theorem se_M_channelMany : Cond.selects y_M_channelMany.cls y_M_channelMany y_M_channelMany ∈ zGW := zGW_in 57 (by decide +kernel) (by decide +kernel)
def y_M_shutMany : MethodName := ⟨zNm 11, "shutMany", "()I"⟩
abbrev b_M_shutMany : ByteArray := prog_13_method_79_code
theorem d_M_shutMany_0 : decode b_M_shutMany 0 = .ok (.aload_n 0, 1) := by decide +kernel
theorem d_M_shutMany_1 : decode b_M_shutMany 1 = .ok (.iconst 1, 1) := by decide +kernel
theorem d_M_shutMany_2 : decode b_M_shutMany 2 = .ok (.invokevirtual 341, 3) := by decide +kernel
theorem d_M_shutMany_5 : decode b_M_shutMany 5 = .ok (.ireturn, 1) := by decide +kernel
theorem mf_M_shutMany : zMF y_M_shutMany b_M_shutMany 1 (some .int) 0 := ⟨zGW_in 1534 (by decide +kernel) (by decide +kernel), zGW_in 135 (by decide +kernel) (by decide +kernel), by decide +kernel⟩
theorem in_M_shutMany : Cond.instanceMethod y_M_shutMany ∈ zGW := zGW_in 1533 (by decide +kernel) (by decide +kernel)
theorem se_M_shutMany : Cond.selects y_M_shutMany.cls y_M_shutMany y_M_shutMany ∈ zGW := zGW_in 56 (by decide +kernel) (by decide +kernel)
def y_M_orderValue : MethodName := ⟨zNm 11, "orderValue", "(II)I"⟩
abbrev b_M_orderValue : ByteArray := prog_13_method_64_code
theorem d_M_orderValue_0 : decode b_M_orderValue 0 = .ok (.iload_n 1, 1) := by decide +kernel
theorem d_M_orderValue_1 : decode b_M_orderValue 1 = .ok (.tableswitch 90 14 19 #[39, 60, 68, 73, 78, 85], 39) := by decide +kernel
theorem d_M_orderValue_40 : decode b_M_orderValue 40 = .ok (.aload_n 0, 1) := by decide +kernel
theorem d_M_orderValue_41 : decode b_M_orderValue 41 = .ok (.iload_n 2, 1) := by decide +kernel
theorem d_M_orderValue_42 : decode b_M_orderValue 42 = .ok (.invokevirtual 122, 3) := by decide +kernel
theorem d_M_orderValue_45 : decode b_M_orderValue 45 = .ok (.ifCond .eq 14, 3) := by decide +kernel
theorem d_M_orderValue_48 : decode b_M_orderValue 48 = .ok (.aload_n 0, 1) := by decide +kernel
theorem d_M_orderValue_49 : decode b_M_orderValue 49 = .ok (.getfield 24, 3) := by decide +kernel
theorem d_M_orderValue_52 : decode b_M_orderValue 52 = .ok (.iconst 1, 1) := by decide +kernel
theorem d_M_orderValue_53 : decode b_M_orderValue 53 = .ok (.iload_n 2, 1) := by decide +kernel
theorem d_M_orderValue_54 : decode b_M_orderValue 54 = .ok (.iadd, 1) := by decide +kernel
theorem d_M_orderValue_55 : decode b_M_orderValue 55 = .ok (.iaload, 1) := by decide +kernel
theorem d_M_orderValue_56 : decode b_M_orderValue 56 = .ok (.goto 4, 3) := by decide +kernel
theorem d_M_orderValue_59 : decode b_M_orderValue 59 = .ok (.iconst (-1), 1) := by decide +kernel
theorem d_M_orderValue_60 : decode b_M_orderValue 60 = .ok (.ireturn, 1) := by decide +kernel
theorem d_M_orderValue_61 : decode b_M_orderValue 61 = .ok (.aload_n 0, 1) := by decide +kernel
theorem d_M_orderValue_62 : decode b_M_orderValue 62 = .ok (.getfield 24, 3) := by decide +kernel
theorem d_M_orderValue_65 : decode b_M_orderValue 65 = .ok (.bipush 91, 2) := by decide +kernel
theorem d_M_orderValue_67 : decode b_M_orderValue 67 = .ok (.iaload, 1) := by decide +kernel
theorem d_M_orderValue_68 : decode b_M_orderValue 68 = .ok (.ireturn, 1) := by decide +kernel
theorem d_M_orderValue_69 : decode b_M_orderValue 69 = .ok (.aload_n 0, 1) := by decide +kernel
theorem d_M_orderValue_70 : decode b_M_orderValue 70 = .ok (.getfield 304, 3) := by decide +kernel
theorem d_M_orderValue_73 : decode b_M_orderValue 73 = .ok (.ireturn, 1) := by decide +kernel
theorem d_M_orderValue_74 : decode b_M_orderValue 74 = .ok (.aload_n 0, 1) := by decide +kernel
theorem d_M_orderValue_75 : decode b_M_orderValue 75 = .ok (.getfield 307, 3) := by decide +kernel
theorem d_M_orderValue_78 : decode b_M_orderValue 78 = .ok (.ireturn, 1) := by decide +kernel
theorem d_M_orderValue_79 : decode b_M_orderValue 79 = .ok (.aload_n 0, 1) := by decide +kernel
theorem d_M_orderValue_80 : decode b_M_orderValue 80 = .ok (.getfield 24, 3) := by decide +kernel
theorem d_M_orderValue_83 : decode b_M_orderValue 83 = .ok (.iconst 0, 1) := by decide +kernel
theorem d_M_orderValue_84 : decode b_M_orderValue 84 = .ok (.iaload, 1) := by decide +kernel
theorem d_M_orderValue_85 : decode b_M_orderValue 85 = .ok (.ireturn, 1) := by decide +kernel
theorem d_M_orderValue_86 : decode b_M_orderValue 86 = .ok (.aload_n 0, 1) := by decide +kernel
theorem d_M_orderValue_87 : decode b_M_orderValue 87 = .ok (.invokevirtual 310, 3) := by decide +kernel
theorem d_M_orderValue_90 : decode b_M_orderValue 90 = .ok (.ireturn, 1) := by decide +kernel
theorem d_M_orderValue_91 : decode b_M_orderValue 91 = .ok (.aload_n 0, 1) := by decide +kernel
theorem d_M_orderValue_92 : decode b_M_orderValue 92 = .ok (.iload_n 2, 1) := by decide +kernel
theorem d_M_orderValue_93 : decode b_M_orderValue 93 = .ok (.invokevirtual 122, 3) := by decide +kernel
theorem d_M_orderValue_96 : decode b_M_orderValue 96 = .ok (.ifCond .eq 12, 3) := by decide +kernel
theorem d_M_orderValue_99 : decode b_M_orderValue 99 = .ok (.aload_n 0, 1) := by decide +kernel
theorem d_M_orderValue_100 : decode b_M_orderValue 100 = .ok (.getfield 62, 3) := by decide +kernel
theorem d_M_orderValue_103 : decode b_M_orderValue 103 = .ok (.iload_n 2, 1) := by decide +kernel
theorem d_M_orderValue_104 : decode b_M_orderValue 104 = .ok (.iaload, 1) := by decide +kernel
theorem d_M_orderValue_105 : decode b_M_orderValue 105 = .ok (.goto 4, 3) := by decide +kernel
theorem d_M_orderValue_108 : decode b_M_orderValue 108 = .ok (.iconst (-1), 1) := by decide +kernel
theorem d_M_orderValue_109 : decode b_M_orderValue 109 = .ok (.ireturn, 1) := by decide +kernel
theorem mf_M_orderValue : zMF y_M_orderValue b_M_orderValue 3 (some .int) 2 := ⟨zGW_in 1530 (by decide +kernel) (by decide +kernel), zGW_in 135 (by decide +kernel) (by decide +kernel), by decide +kernel⟩
theorem in_M_orderValue : Cond.instanceMethod y_M_orderValue ∈ zGW := zGW_in 1529 (by decide +kernel) (by decide +kernel)
theorem se_M_orderValue : Cond.selects y_M_orderValue.cls y_M_orderValue y_M_orderValue ∈ zGW := zGW_in 55 (by decide +kernel) (by decide +kernel)
def y_M_bounded : MethodName := ⟨zNm 11, "bounded", "(JZ)J"⟩
abbrev b_M_bounded : ByteArray := prog_13_method_60_code
theorem d_M_bounded_0 : decode b_M_bounded 0 = .ok (.iload_n 3, 1) := by decide +kernel
theorem d_M_bounded_1 : decode b_M_bounded 1 = .ok (.ifCond .eq 24, 3) := by decide +kernel
theorem d_M_bounded_4 : decode b_M_bounded 4 = .ok (.lload_n 1, 1) := by decide +kernel
theorem d_M_bounded_5 : decode b_M_bounded 5 = .ok (.ldc2_w 274, 3) := by decide +kernel
theorem d_M_bounded_8 : decode b_M_bounded 8 = .ok (.lcmp, 1) := by decide +kernel
theorem d_M_bounded_9 : decode b_M_bounded 9 = .ok (.ifCond .gt 11, 3) := by decide +kernel
theorem d_M_bounded_12 : decode b_M_bounded 12 = .ok (.lload_n 1, 1) := by decide +kernel
theorem d_M_bounded_13 : decode b_M_bounded 13 = .ok (.ldc2_w 276, 3) := by decide +kernel
theorem d_M_bounded_16 : decode b_M_bounded 16 = .ok (.lcmp, 1) := by decide +kernel
theorem d_M_bounded_17 : decode b_M_bounded 17 = .ok (.ifCond .ge 8, 3) := by decide +kernel
theorem d_M_bounded_20 : decode b_M_bounded 20 = .ok (.aload_n 0, 1) := by decide +kernel
theorem d_M_bounded_21 : decode b_M_bounded 21 = .ok (.iconst 1, 1) := by decide +kernel
theorem d_M_bounded_22 : decode b_M_bounded 22 = .ok (.putfield 278, 3) := by decide +kernel
theorem d_M_bounded_25 : decode b_M_bounded 25 = .ok (.aload_n 0, 1) := by decide +kernel
theorem d_M_bounded_26 : decode b_M_bounded 26 = .ok (.getfield 278, 3) := by decide +kernel
theorem d_M_bounded_29 : decode b_M_bounded 29 = .ok (.ifCond .eq 7, 3) := by decide +kernel
theorem d_M_bounded_32 : decode b_M_bounded 32 = .ok (.lconst 0, 1) := by decide +kernel
theorem d_M_bounded_33 : decode b_M_bounded 33 = .ok (.goto 4, 3) := by decide +kernel
theorem d_M_bounded_36 : decode b_M_bounded 36 = .ok (.lload_n 1, 1) := by decide +kernel
theorem d_M_bounded_37 : decode b_M_bounded 37 = .ok (.lreturn, 1) := by decide +kernel
theorem mf_M_bounded : zMF y_M_bounded b_M_bounded 4 (some .long) 2 := ⟨zGW_in 1546 (by decide +kernel) (by decide +kernel), zGW_in 135 (by decide +kernel) (by decide +kernel), by decide +kernel⟩
theorem in_M_bounded : Cond.instanceMethod y_M_bounded ∈ zGW := zGW_in 1545 (by decide +kernel) (by decide +kernel)
theorem se_M_bounded : Cond.selects y_M_bounded.cls y_M_bounded y_M_bounded ∈ zGW := zGW_in 59 (by decide +kernel) (by decide +kernel)
def y_M_partOf : MethodName := ⟨zNm 11, "partOf", "(Z)J"⟩
abbrev b_M_partOf : ByteArray := prog_13_method_63_code
theorem d_M_partOf_0 : decode b_M_partOf 0 = .ok (.aload_n 0, 1) := by decide +kernel
theorem d_M_partOf_1 : decode b_M_partOf 1 = .ok (.bipush 91, 2) := by decide +kernel
theorem d_M_partOf_3 : decode b_M_partOf 3 = .ok (.invokestatic 227, 3) := by decide +kernel
theorem d_M_partOf_6 : decode b_M_partOf 6 = .ok (.invokevirtual 292, 3) := by decide +kernel
theorem d_M_partOf_9 : decode b_M_partOf 9 = .ok (.ifCond .eq 21, 3) := by decide +kernel
theorem d_M_partOf_12 : decode b_M_partOf 12 = .ok (.aload_n 0, 1) := by decide +kernel
theorem d_M_partOf_13 : decode b_M_partOf 13 = .ok (.iload_n 1, 1) := by decide +kernel
theorem d_M_partOf_14 : decode b_M_partOf 14 = .ok (.invokevirtual 295, 3) := by decide +kernel
theorem d_M_partOf_17 : decode b_M_partOf 17 = .ok (.lstore_n 2, 1) := by decide +kernel
theorem d_M_partOf_18 : decode b_M_partOf 18 = .ok (.aload_n 0, 1) := by decide +kernel
theorem d_M_partOf_19 : decode b_M_partOf 19 = .ok (.dup, 1) := by decide +kernel
theorem d_M_partOf_20 : decode b_M_partOf 20 = .ok (.getfield 268, 3) := by decide +kernel
theorem d_M_partOf_23 : decode b_M_partOf 23 = .ok (.iconst 1, 1) := by decide +kernel
theorem d_M_partOf_24 : decode b_M_partOf 24 = .ok (.iadd, 1) := by decide +kernel
theorem d_M_partOf_25 : decode b_M_partOf 25 = .ok (.putfield 268, 3) := by decide +kernel
theorem d_M_partOf_28 : decode b_M_partOf 28 = .ok (.lload_n 2, 1) := by decide +kernel
theorem d_M_partOf_29 : decode b_M_partOf 29 = .ok (.lreturn, 1) := by decide +kernel
theorem d_M_partOf_30 : decode b_M_partOf 30 = .ok (.aload_n 0, 1) := by decide +kernel
theorem d_M_partOf_31 : decode b_M_partOf 31 = .ok (.aload_n 0, 1) := by decide +kernel
theorem d_M_partOf_32 : decode b_M_partOf 32 = .ok (.getfield 268, 3) := by decide +kernel
theorem d_M_partOf_35 : decode b_M_partOf 35 = .ok (.invokevirtual 271, 3) := by decide +kernel
theorem d_M_partOf_38 : decode b_M_partOf 38 = .ok (.istore_n 2, 1) := by decide +kernel
theorem d_M_partOf_39 : decode b_M_partOf 39 = .ok (.iconst 0, 1) := by decide +kernel
theorem d_M_partOf_40 : decode b_M_partOf 40 = .ok (.istore_n 3, 1) := by decide +kernel
theorem d_M_partOf_41 : decode b_M_partOf 41 = .ok (.aload_n 0, 1) := by decide +kernel
theorem d_M_partOf_42 : decode b_M_partOf 42 = .ok (.dup, 1) := by decide +kernel
theorem d_M_partOf_43 : decode b_M_partOf 43 = .ok (.getfield 268, 3) := by decide +kernel
theorem d_M_partOf_46 : decode b_M_partOf 46 = .ok (.iconst 1, 1) := by decide +kernel
theorem d_M_partOf_47 : decode b_M_partOf 47 = .ok (.iadd, 1) := by decide +kernel
theorem d_M_partOf_48 : decode b_M_partOf 48 = .ok (.putfield 268, 3) := by decide +kernel
theorem d_M_partOf_51 : decode b_M_partOf 51 = .ok (.aload_n 0, 1) := by decide +kernel
theorem d_M_partOf_52 : decode b_M_partOf 52 = .ok (.getfield 298, 3) := by decide +kernel
theorem d_M_partOf_55 : decode b_M_partOf 55 = .ok (.ifCond .eq 39, 3) := by decide +kernel
theorem d_M_partOf_58 : decode b_M_partOf 58 = .ok (.iload_n 2, 1) := by decide +kernel
theorem d_M_partOf_59 : decode b_M_partOf 59 = .ok (.bipush 14, 2) := by decide +kernel
theorem d_M_partOf_61 : decode b_M_partOf 61 = .ok (.if_icmp .eq 9, 3) := by decide +kernel
theorem d_M_partOf_64 : decode b_M_partOf 64 = .ok (.iload_n 2, 1) := by decide +kernel
theorem d_M_partOf_65 : decode b_M_partOf 65 = .ok (.bipush 20, 2) := by decide +kernel
theorem d_M_partOf_67 : decode b_M_partOf 67 = .ok (.if_icmp .ne 27, 3) := by decide +kernel
theorem d_M_partOf_70 : decode b_M_partOf 70 = .ok (.aload_n 0, 1) := by decide +kernel
theorem d_M_partOf_71 : decode b_M_partOf 71 = .ok (.getfield 24, 3) := by decide +kernel
theorem d_M_partOf_74 : decode b_M_partOf 74 = .ok (.sipush 3007, 3) := by decide +kernel
theorem d_M_partOf_77 : decode b_M_partOf 77 = .ok (.aload_n 0, 1) := by decide +kernel
theorem d_M_partOf_78 : decode b_M_partOf 78 = .ok (.getfield 268, 3) := by decide +kernel
theorem d_M_partOf_81 : decode b_M_partOf 81 = .ok (.iadd, 1) := by decide +kernel
theorem d_M_partOf_82 : decode b_M_partOf 82 = .ok (.iaload, 1) := by decide +kernel
theorem d_M_partOf_83 : decode b_M_partOf 83 = .ok (.istore_n 3, 1) := by decide +kernel
theorem d_M_partOf_84 : decode b_M_partOf 84 = .ok (.aload_n 0, 1) := by decide +kernel
theorem d_M_partOf_85 : decode b_M_partOf 85 = .ok (.dup, 1) := by decide +kernel
theorem d_M_partOf_86 : decode b_M_partOf 86 = .ok (.getfield 268, 3) := by decide +kernel
theorem d_M_partOf_89 : decode b_M_partOf 89 = .ok (.iconst 1, 1) := by decide +kernel
theorem d_M_partOf_90 : decode b_M_partOf 90 = .ok (.iadd, 1) := by decide +kernel
theorem d_M_partOf_91 : decode b_M_partOf 91 = .ok (.putfield 268, 3) := by decide +kernel
theorem d_M_partOf_94 : decode b_M_partOf 94 = .ok (.iload_n 1, 1) := by decide +kernel
theorem d_M_partOf_95 : decode b_M_partOf 95 = .ok (.ifCond .eq 10, 3) := by decide +kernel
theorem d_M_partOf_98 : decode b_M_partOf 98 = .ok (.aload_n 0, 1) := by decide +kernel
theorem d_M_partOf_99 : decode b_M_partOf 99 = .ok (.getfield 278, 3) := by decide +kernel
theorem d_M_partOf_102 : decode b_M_partOf 102 = .ok (.ifCond .eq 5, 3) := by decide +kernel
theorem d_M_partOf_105 : decode b_M_partOf 105 = .ok (.lconst 0, 1) := by decide +kernel
theorem d_M_partOf_106 : decode b_M_partOf 106 = .ok (.lreturn, 1) := by decide +kernel
theorem d_M_partOf_107 : decode b_M_partOf 107 = .ok (.iload_n 2, 1) := by decide +kernel
theorem d_M_partOf_108 : decode b_M_partOf 108 = .ok (.bipush 50, 2) := by decide +kernel
theorem d_M_partOf_110 : decode b_M_partOf 110 = .ok (.if_icmp .ne 20, 3) := by decide +kernel
theorem d_M_partOf_113 : decode b_M_partOf 113 = .ok (.aload_n 0, 1) := by decide +kernel
theorem d_M_partOf_114 : decode b_M_partOf 114 = .ok (.getfield 24, 3) := by decide +kernel
theorem d_M_partOf_117 : decode b_M_partOf 117 = .ok (.sipush 3007, 3) := by decide +kernel
theorem d_M_partOf_120 : decode b_M_partOf 120 = .ok (.aload_n 0, 1) := by decide +kernel
theorem d_M_partOf_121 : decode b_M_partOf 121 = .ok (.getfield 268, 3) := by decide +kernel
theorem d_M_partOf_124 : decode b_M_partOf 124 = .ok (.iadd, 1) := by decide +kernel
theorem d_M_partOf_125 : decode b_M_partOf 125 = .ok (.iconst 1, 1) := by decide +kernel
theorem d_M_partOf_126 : decode b_M_partOf 126 = .ok (.isub, 1) := by decide +kernel
theorem d_M_partOf_127 : decode b_M_partOf 127 = .ok (.iaload, 1) := by decide +kernel
theorem d_M_partOf_128 : decode b_M_partOf 128 = .ok (.i2l, 1) := by decide +kernel
theorem d_M_partOf_129 : decode b_M_partOf 129 = .ok (.lreturn, 1) := by decide +kernel
theorem d_M_partOf_130 : decode b_M_partOf 130 = .ok (.aload_n 0, 1) := by decide +kernel
theorem d_M_partOf_131 : decode b_M_partOf 131 = .ok (.getfield 298, 3) := by decide +kernel
theorem d_M_partOf_134 : decode b_M_partOf 134 = .ok (.ifCond .eq 13, 3) := by decide +kernel
theorem d_M_partOf_137 : decode b_M_partOf 137 = .ok (.aload_n 0, 1) := by decide +kernel
theorem d_M_partOf_138 : decode b_M_partOf 138 = .ok (.iload_n 2, 1) := by decide +kernel
theorem d_M_partOf_139 : decode b_M_partOf 139 = .ok (.iload_n 3, 1) := by decide +kernel
theorem d_M_partOf_140 : decode b_M_partOf 140 = .ok (.invokevirtual 301, 3) := by decide +kernel
theorem d_M_partOf_143 : decode b_M_partOf 143 = .ok (.i2l, 1) := by decide +kernel
theorem d_M_partOf_144 : decode b_M_partOf 144 = .ok (.goto 13, 3) := by decide +kernel
theorem d_M_partOf_147 : decode b_M_partOf 147 = .ok (.aload_n 0, 1) := by decide +kernel
theorem d_M_partOf_148 : decode b_M_partOf 148 = .ok (.getfield 59, 3) := by decide +kernel
theorem d_M_partOf_151 : decode b_M_partOf 151 = .ok (.iload_n 2, 1) := by decide +kernel
theorem d_M_partOf_152 : decode b_M_partOf 152 = .ok (.bipush 9, 2) := by decide +kernel
theorem d_M_partOf_154 : decode b_M_partOf 154 = .ok (.isub, 1) := by decide +kernel
theorem d_M_partOf_155 : decode b_M_partOf 155 = .ok (.iaload, 1) := by decide +kernel
theorem d_M_partOf_156 : decode b_M_partOf 156 = .ok (.i2l, 1) := by decide +kernel
theorem d_M_partOf_157 : decode b_M_partOf 157 = .ok (.lreturn, 1) := by decide +kernel
theorem mf_M_partOf : zMF y_M_partOf b_M_partOf 4 (some .long) 1 := ⟨zGW_in 1519 (by decide +kernel) (by decide +kernel), zGW_in 135 (by decide +kernel) (by decide +kernel), by decide +kernel⟩
theorem in_M_partOf : Cond.instanceMethod y_M_partOf ∈ zGW := zGW_in 1518 (by decide +kernel) (by decide +kernel)
theorem se_M_partOf : Cond.selects y_M_partOf.cls y_M_partOf y_M_partOf ∈ zGW := zGW_in 53 (by decide +kernel) (by decide +kernel)
def y_M_termOf : MethodName := ⟨zNm 11, "termOf", "(Z)J"⟩
abbrev b_M_termOf : ByteArray := prog_13_method_62_code
theorem d_M_termOf_0 : decode b_M_termOf 0 = .ok (.aload_n 0, 1) := by decide +kernel
theorem d_M_termOf_1 : decode b_M_termOf 1 = .ok (.iload_n 1, 1) := by decide +kernel
theorem d_M_termOf_2 : decode b_M_termOf 2 = .ok (.invokevirtual 289, 3) := by decide +kernel
theorem d_M_termOf_5 : decode b_M_termOf 5 = .ok (.lstore_n 2, 1) := by decide +kernel
theorem d_M_termOf_6 : decode b_M_termOf 6 = .ok (.aload_n 0, 1) := by decide +kernel
theorem d_M_termOf_7 : decode b_M_termOf 7 = .ok (.aload_n 0, 1) := by decide +kernel
theorem d_M_termOf_8 : decode b_M_termOf 8 = .ok (.getfield 268, 3) := by decide +kernel
theorem d_M_termOf_11 : decode b_M_termOf 11 = .ok (.invokevirtual 271, 3) := by decide +kernel
theorem d_M_termOf_14 : decode b_M_termOf 14 = .ok (.bipush 42, 2) := by decide +kernel
theorem d_M_termOf_16 : decode b_M_termOf 16 = .ok (.invokestatic 227, 3) := by decide +kernel
theorem d_M_termOf_19 : decode b_M_termOf 19 = .ok (.if_icmp .eq 35, 3) := by decide +kernel
theorem d_M_termOf_22 : decode b_M_termOf 22 = .ok (.aload_n 0, 1) := by decide +kernel
theorem d_M_termOf_23 : decode b_M_termOf 23 = .ok (.aload_n 0, 1) := by decide +kernel
theorem d_M_termOf_24 : decode b_M_termOf 24 = .ok (.getfield 268, 3) := by decide +kernel
theorem d_M_termOf_27 : decode b_M_termOf 27 = .ok (.invokevirtual 271, 3) := by decide +kernel
theorem d_M_termOf_30 : decode b_M_termOf 30 = .ok (.bipush 47, 2) := by decide +kernel
theorem d_M_termOf_32 : decode b_M_termOf 32 = .ok (.invokestatic 227, 3) := by decide +kernel
theorem d_M_termOf_35 : decode b_M_termOf 35 = .ok (.if_icmp .eq 19, 3) := by decide +kernel
theorem d_M_termOf_38 : decode b_M_termOf 38 = .ok (.aload_n 0, 1) := by decide +kernel
theorem d_M_termOf_39 : decode b_M_termOf 39 = .ok (.aload_n 0, 1) := by decide +kernel
theorem d_M_termOf_40 : decode b_M_termOf 40 = .ok (.getfield 268, 3) := by decide +kernel
theorem d_M_termOf_43 : decode b_M_termOf 43 = .ok (.invokevirtual 271, 3) := by decide +kernel
theorem d_M_termOf_46 : decode b_M_termOf 46 = .ok (.bipush 37, 2) := by decide +kernel
theorem d_M_termOf_48 : decode b_M_termOf 48 = .ok (.invokestatic 227, 3) := by decide +kernel
theorem d_M_termOf_51 : decode b_M_termOf 51 = .ok (.if_icmp .ne 117, 3) := by decide +kernel
theorem d_M_termOf_54 : decode b_M_termOf 54 = .ok (.aload_n 0, 1) := by decide +kernel
theorem d_M_termOf_55 : decode b_M_termOf 55 = .ok (.aload_n 0, 1) := by decide +kernel
theorem d_M_termOf_56 : decode b_M_termOf 56 = .ok (.getfield 268, 3) := by decide +kernel
theorem d_M_termOf_59 : decode b_M_termOf 59 = .ok (.invokevirtual 271, 3) := by decide +kernel
theorem d_M_termOf_62 : decode b_M_termOf 62 = .ok (.istore 4, 2) := by decide +kernel
theorem d_M_termOf_64 : decode b_M_termOf 64 = .ok (.aload_n 0, 1) := by decide +kernel
theorem d_M_termOf_65 : decode b_M_termOf 65 = .ok (.dup, 1) := by decide +kernel
theorem d_M_termOf_66 : decode b_M_termOf 66 = .ok (.getfield 268, 3) := by decide +kernel
theorem d_M_termOf_69 : decode b_M_termOf 69 = .ok (.iconst 1, 1) := by decide +kernel
theorem d_M_termOf_70 : decode b_M_termOf 70 = .ok (.iadd, 1) := by decide +kernel
theorem d_M_termOf_71 : decode b_M_termOf 71 = .ok (.putfield 268, 3) := by decide +kernel
theorem d_M_termOf_74 : decode b_M_termOf 74 = .ok (.aload_n 0, 1) := by decide +kernel
theorem d_M_termOf_75 : decode b_M_termOf 75 = .ok (.iload_n 1, 1) := by decide +kernel
theorem d_M_termOf_76 : decode b_M_termOf 76 = .ok (.invokevirtual 289, 3) := by decide +kernel
theorem d_M_termOf_79 : decode b_M_termOf 79 = .ok (.lstore 5, 2) := by decide +kernel
theorem d_M_termOf_81 : decode b_M_termOf 81 = .ok (.iload 4, 2) := by decide +kernel
theorem d_M_termOf_83 : decode b_M_termOf 83 = .ok (.bipush 42, 2) := by decide +kernel
theorem d_M_termOf_85 : decode b_M_termOf 85 = .ok (.invokestatic 227, 3) := by decide +kernel
theorem d_M_termOf_88 : decode b_M_termOf 88 = .ok (.if_icmp .eq 33, 3) := by decide +kernel
theorem d_M_termOf_91 : decode b_M_termOf 91 = .ok (.lload 5, 2) := by decide +kernel
theorem d_M_termOf_93 : decode b_M_termOf 93 = .ok (.lconst 0, 1) := by decide +kernel
theorem d_M_termOf_94 : decode b_M_termOf 94 = .ok (.lcmp, 1) := by decide +kernel
theorem d_M_termOf_95 : decode b_M_termOf 95 = .ok (.ifCond .ne 26, 3) := by decide +kernel
theorem d_M_termOf_98 : decode b_M_termOf 98 = .ok (.aload_n 0, 1) := by decide +kernel
theorem d_M_termOf_99 : decode b_M_termOf 99 = .ok (.aload_n 0, 1) := by decide +kernel
theorem d_M_termOf_100 : decode b_M_termOf 100 = .ok (.getfield 278, 3) := by decide +kernel
theorem d_M_termOf_103 : decode b_M_termOf 103 = .ok (.ifCond .ne 7, 3) := by decide +kernel
theorem d_M_termOf_106 : decode b_M_termOf 106 = .ok (.iload_n 1, 1) := by decide +kernel
theorem d_M_termOf_107 : decode b_M_termOf 107 = .ok (.ifCond .eq 7, 3) := by decide +kernel
theorem d_M_termOf_110 : decode b_M_termOf 110 = .ok (.iconst 1, 1) := by decide +kernel
theorem d_M_termOf_111 : decode b_M_termOf 111 = .ok (.goto 4, 3) := by decide +kernel
theorem d_M_termOf_114 : decode b_M_termOf 114 = .ok (.iconst 0, 1) := by decide +kernel
theorem d_M_termOf_115 : decode b_M_termOf 115 = .ok (.putfield 278, 3) := by decide +kernel
theorem d_M_termOf_118 : decode b_M_termOf 118 = .ok (.lconst 1, 1) := by decide +kernel
theorem d_M_termOf_119 : decode b_M_termOf 119 = .ok (.lstore 5, 2) := by decide +kernel
theorem d_M_termOf_121 : decode b_M_termOf 121 = .ok (.aload_n 0, 1) := by decide +kernel
theorem d_M_termOf_122 : decode b_M_termOf 122 = .ok (.iload 4, 2) := by decide +kernel
theorem d_M_termOf_124 : decode b_M_termOf 124 = .ok (.bipush 42, 2) := by decide +kernel
theorem d_M_termOf_126 : decode b_M_termOf 126 = .ok (.invokestatic 227, 3) := by decide +kernel
theorem d_M_termOf_129 : decode b_M_termOf 129 = .ok (.if_icmp .ne 10, 3) := by decide +kernel
theorem d_M_termOf_132 : decode b_M_termOf 132 = .ok (.lload_n 2, 1) := by decide +kernel
theorem d_M_termOf_133 : decode b_M_termOf 133 = .ok (.lload 5, 2) := by decide +kernel
theorem d_M_termOf_135 : decode b_M_termOf 135 = .ok (.lmul, 1) := by decide +kernel
theorem d_M_termOf_136 : decode b_M_termOf 136 = .ok (.goto 24, 3) := by decide +kernel
theorem d_M_termOf_139 : decode b_M_termOf 139 = .ok (.iload 4, 2) := by decide +kernel
theorem d_M_termOf_141 : decode b_M_termOf 141 = .ok (.bipush 47, 2) := by decide +kernel
theorem d_M_termOf_143 : decode b_M_termOf 143 = .ok (.invokestatic 227, 3) := by decide +kernel
theorem d_M_termOf_146 : decode b_M_termOf 146 = .ok (.if_icmp .ne 10, 3) := by decide +kernel
theorem d_M_termOf_149 : decode b_M_termOf 149 = .ok (.lload_n 2, 1) := by decide +kernel
theorem d_M_termOf_150 : decode b_M_termOf 150 = .ok (.lload 5, 2) := by decide +kernel
theorem d_M_termOf_152 : decode b_M_termOf 152 = .ok (.ldiv, 1) := by decide +kernel
theorem d_M_termOf_153 : decode b_M_termOf 153 = .ok (.goto 7, 3) := by decide +kernel
theorem d_M_termOf_156 : decode b_M_termOf 156 = .ok (.lload_n 2, 1) := by decide +kernel
theorem d_M_termOf_157 : decode b_M_termOf 157 = .ok (.lload 5, 2) := by decide +kernel
theorem d_M_termOf_159 : decode b_M_termOf 159 = .ok (.lrem, 1) := by decide +kernel
theorem d_M_termOf_160 : decode b_M_termOf 160 = .ok (.iload_n 1, 1) := by decide +kernel
theorem d_M_termOf_161 : decode b_M_termOf 161 = .ok (.invokevirtual 285, 3) := by decide +kernel
theorem d_M_termOf_164 : decode b_M_termOf 164 = .ok (.lstore_n 2, 1) := by decide +kernel
theorem d_M_termOf_165 : decode b_M_termOf 165 = .ok (.goto (-159), 3) := by decide +kernel
theorem d_M_termOf_168 : decode b_M_termOf 168 = .ok (.lload_n 2, 1) := by decide +kernel
theorem d_M_termOf_169 : decode b_M_termOf 169 = .ok (.lreturn, 1) := by decide +kernel
theorem mf_M_termOf : zMF y_M_termOf b_M_termOf 7 (some .long) 1 := ⟨zGW_in 1515 (by decide +kernel) (by decide +kernel), zGW_in 135 (by decide +kernel) (by decide +kernel), by decide +kernel⟩
theorem in_M_termOf : Cond.instanceMethod y_M_termOf ∈ zGW := zGW_in 1514 (by decide +kernel) (by decide +kernel)
theorem se_M_termOf : Cond.selects y_M_termOf.cls y_M_termOf y_M_termOf ∈ zGW := zGW_in 52 (by decide +kernel) (by decide +kernel)
def y_M_sumOf : MethodName := ⟨zNm 11, "sumOf", "(Z)J"⟩
abbrev b_M_sumOf : ByteArray := prog_13_method_61_code
theorem d_M_sumOf_0 : decode b_M_sumOf 0 = .ok (.aload_n 0, 1) := by decide +kernel
theorem d_M_sumOf_1 : decode b_M_sumOf 1 = .ok (.iload_n 1, 1) := by decide +kernel
theorem d_M_sumOf_2 : decode b_M_sumOf 2 = .ok (.invokevirtual 281, 3) := by decide +kernel
theorem d_M_sumOf_5 : decode b_M_sumOf 5 = .ok (.lstore_n 2, 1) := by decide +kernel
theorem d_M_sumOf_6 : decode b_M_sumOf 6 = .ok (.aload_n 0, 1) := by decide +kernel
theorem d_M_sumOf_7 : decode b_M_sumOf 7 = .ok (.aload_n 0, 1) := by decide +kernel
theorem d_M_sumOf_8 : decode b_M_sumOf 8 = .ok (.getfield 268, 3) := by decide +kernel
theorem d_M_sumOf_11 : decode b_M_sumOf 11 = .ok (.invokevirtual 271, 3) := by decide +kernel
theorem d_M_sumOf_14 : decode b_M_sumOf 14 = .ok (.bipush 43, 2) := by decide +kernel
theorem d_M_sumOf_16 : decode b_M_sumOf 16 = .ok (.invokestatic 227, 3) := by decide +kernel
theorem d_M_sumOf_19 : decode b_M_sumOf 19 = .ok (.if_icmp .eq 19, 3) := by decide +kernel
theorem d_M_sumOf_22 : decode b_M_sumOf 22 = .ok (.aload_n 0, 1) := by decide +kernel
theorem d_M_sumOf_23 : decode b_M_sumOf 23 = .ok (.aload_n 0, 1) := by decide +kernel
theorem d_M_sumOf_24 : decode b_M_sumOf 24 = .ok (.getfield 268, 3) := by decide +kernel
theorem d_M_sumOf_27 : decode b_M_sumOf 27 = .ok (.invokevirtual 271, 3) := by decide +kernel
theorem d_M_sumOf_30 : decode b_M_sumOf 30 = .ok (.bipush 45, 2) := by decide +kernel
theorem d_M_sumOf_32 : decode b_M_sumOf 32 = .ok (.invokestatic 227, 3) := by decide +kernel
theorem d_M_sumOf_35 : decode b_M_sumOf 35 = .ok (.if_icmp .ne 68, 3) := by decide +kernel
theorem d_M_sumOf_38 : decode b_M_sumOf 38 = .ok (.aload_n 0, 1) := by decide +kernel
theorem d_M_sumOf_39 : decode b_M_sumOf 39 = .ok (.aload_n 0, 1) := by decide +kernel
theorem d_M_sumOf_40 : decode b_M_sumOf 40 = .ok (.getfield 268, 3) := by decide +kernel
theorem d_M_sumOf_43 : decode b_M_sumOf 43 = .ok (.invokevirtual 271, 3) := by decide +kernel
theorem d_M_sumOf_46 : decode b_M_sumOf 46 = .ok (.bipush 43, 2) := by decide +kernel
theorem d_M_sumOf_48 : decode b_M_sumOf 48 = .ok (.invokestatic 227, 3) := by decide +kernel
theorem d_M_sumOf_51 : decode b_M_sumOf 51 = .ok (.if_icmp .ne 7, 3) := by decide +kernel
theorem d_M_sumOf_54 : decode b_M_sumOf 54 = .ok (.iconst 1, 1) := by decide +kernel
theorem d_M_sumOf_55 : decode b_M_sumOf 55 = .ok (.goto 4, 3) := by decide +kernel
theorem d_M_sumOf_58 : decode b_M_sumOf 58 = .ok (.iconst 0, 1) := by decide +kernel
theorem d_M_sumOf_59 : decode b_M_sumOf 59 = .ok (.istore 4, 2) := by decide +kernel
theorem d_M_sumOf_61 : decode b_M_sumOf 61 = .ok (.aload_n 0, 1) := by decide +kernel
theorem d_M_sumOf_62 : decode b_M_sumOf 62 = .ok (.dup, 1) := by decide +kernel
theorem d_M_sumOf_63 : decode b_M_sumOf 63 = .ok (.getfield 268, 3) := by decide +kernel
theorem d_M_sumOf_66 : decode b_M_sumOf 66 = .ok (.iconst 1, 1) := by decide +kernel
theorem d_M_sumOf_67 : decode b_M_sumOf 67 = .ok (.iadd, 1) := by decide +kernel
theorem d_M_sumOf_68 : decode b_M_sumOf 68 = .ok (.putfield 268, 3) := by decide +kernel
theorem d_M_sumOf_71 : decode b_M_sumOf 71 = .ok (.aload_n 0, 1) := by decide +kernel
theorem d_M_sumOf_72 : decode b_M_sumOf 72 = .ok (.iload_n 1, 1) := by decide +kernel
theorem d_M_sumOf_73 : decode b_M_sumOf 73 = .ok (.invokevirtual 281, 3) := by decide +kernel
theorem d_M_sumOf_76 : decode b_M_sumOf 76 = .ok (.lstore 5, 2) := by decide +kernel
theorem d_M_sumOf_78 : decode b_M_sumOf 78 = .ok (.aload_n 0, 1) := by decide +kernel
theorem d_M_sumOf_79 : decode b_M_sumOf 79 = .ok (.iload 4, 2) := by decide +kernel
theorem d_M_sumOf_81 : decode b_M_sumOf 81 = .ok (.ifCond .eq 10, 3) := by decide +kernel
theorem d_M_sumOf_84 : decode b_M_sumOf 84 = .ok (.lload_n 2, 1) := by decide +kernel
theorem d_M_sumOf_85 : decode b_M_sumOf 85 = .ok (.lload 5, 2) := by decide +kernel
theorem d_M_sumOf_87 : decode b_M_sumOf 87 = .ok (.ladd, 1) := by decide +kernel
theorem d_M_sumOf_88 : decode b_M_sumOf 88 = .ok (.goto 7, 3) := by decide +kernel
theorem d_M_sumOf_91 : decode b_M_sumOf 91 = .ok (.lload_n 2, 1) := by decide +kernel
theorem d_M_sumOf_92 : decode b_M_sumOf 92 = .ok (.lload 5, 2) := by decide +kernel
theorem d_M_sumOf_94 : decode b_M_sumOf 94 = .ok (.lsub, 1) := by decide +kernel
theorem d_M_sumOf_95 : decode b_M_sumOf 95 = .ok (.iload_n 1, 1) := by decide +kernel
theorem d_M_sumOf_96 : decode b_M_sumOf 96 = .ok (.invokevirtual 285, 3) := by decide +kernel
theorem d_M_sumOf_99 : decode b_M_sumOf 99 = .ok (.lstore_n 2, 1) := by decide +kernel
theorem d_M_sumOf_100 : decode b_M_sumOf 100 = .ok (.goto (-94), 3) := by decide +kernel
theorem d_M_sumOf_103 : decode b_M_sumOf 103 = .ok (.lload_n 2, 1) := by decide +kernel
theorem d_M_sumOf_104 : decode b_M_sumOf 104 = .ok (.lreturn, 1) := by decide +kernel
theorem mf_M_sumOf : zMF y_M_sumOf b_M_sumOf 7 (some .long) 1 := ⟨zGW_in 1511 (by decide +kernel) (by decide +kernel), zGW_in 135 (by decide +kernel) (by decide +kernel), by decide +kernel⟩
theorem in_M_sumOf : Cond.instanceMethod y_M_sumOf ∈ zGW := zGW_in 1510 (by decide +kernel) (by decide +kernel)
theorem se_M_sumOf : Cond.selects y_M_sumOf.cls y_M_sumOf y_M_sumOf ∈ zGW := zGW_in 51 (by decide +kernel) (by decide +kernel)
def y_M_positiveOf : MethodName := ⟨zNm 11, "positiveOf", "(Z)Z"⟩
abbrev b_M_positiveOf : ByteArray := prog_13_method_68_code
theorem d_M_positiveOf_0 : decode b_M_positiveOf 0 = .ok (.aload_n 0, 1) := by decide +kernel
theorem d_M_positiveOf_1 : decode b_M_positiveOf 1 = .ok (.bipush 40, 2) := by decide +kernel
theorem d_M_positiveOf_3 : decode b_M_positiveOf 3 = .ok (.invokestatic 227, 3) := by decide +kernel
theorem d_M_positiveOf_6 : decode b_M_positiveOf 6 = .ok (.invokevirtual 292, 3) := by decide +kernel
theorem d_M_positiveOf_9 : decode b_M_positiveOf 9 = .ok (.ifCond .eq 21, 3) := by decide +kernel
theorem d_M_positiveOf_12 : decode b_M_positiveOf 12 = .ok (.aload_n 0, 1) := by decide +kernel
theorem d_M_positiveOf_13 : decode b_M_positiveOf 13 = .ok (.iload_n 1, 1) := by decide +kernel
theorem d_M_positiveOf_14 : decode b_M_positiveOf 14 = .ok (.invokevirtual 322, 3) := by decide +kernel
theorem d_M_positiveOf_17 : decode b_M_positiveOf 17 = .ok (.istore_n 2, 1) := by decide +kernel
theorem d_M_positiveOf_18 : decode b_M_positiveOf 18 = .ok (.aload_n 0, 1) := by decide +kernel
theorem d_M_positiveOf_19 : decode b_M_positiveOf 19 = .ok (.dup, 1) := by decide +kernel
theorem d_M_positiveOf_20 : decode b_M_positiveOf 20 = .ok (.getfield 268, 3) := by decide +kernel
theorem d_M_positiveOf_23 : decode b_M_positiveOf 23 = .ok (.iconst 1, 1) := by decide +kernel
theorem d_M_positiveOf_24 : decode b_M_positiveOf 24 = .ok (.iadd, 1) := by decide +kernel
theorem d_M_positiveOf_25 : decode b_M_positiveOf 25 = .ok (.putfield 268, 3) := by decide +kernel
theorem d_M_positiveOf_28 : decode b_M_positiveOf 28 = .ok (.iload_n 2, 1) := by decide +kernel
theorem d_M_positiveOf_29 : decode b_M_positiveOf 29 = .ok (.ireturn, 1) := by decide +kernel
theorem d_M_positiveOf_30 : decode b_M_positiveOf 30 = .ok (.aload_n 0, 1) := by decide +kernel
theorem d_M_positiveOf_31 : decode b_M_positiveOf 31 = .ok (.iload_n 1, 1) := by decide +kernel
theorem d_M_positiveOf_32 : decode b_M_positiveOf 32 = .ok (.invokevirtual 295, 3) := by decide +kernel
theorem d_M_positiveOf_35 : decode b_M_positiveOf 35 = .ok (.lstore_n 2, 1) := by decide +kernel
theorem d_M_positiveOf_36 : decode b_M_positiveOf 36 = .ok (.aload_n 0, 1) := by decide +kernel
theorem d_M_positiveOf_37 : decode b_M_positiveOf 37 = .ok (.aload_n 0, 1) := by decide +kernel
theorem d_M_positiveOf_38 : decode b_M_positiveOf 38 = .ok (.getfield 268, 3) := by decide +kernel
theorem d_M_positiveOf_41 : decode b_M_positiveOf 41 = .ok (.invokevirtual 271, 3) := by decide +kernel
theorem d_M_positiveOf_44 : decode b_M_positiveOf 44 = .ok (.istore 4, 2) := by decide +kernel
theorem d_M_positiveOf_46 : decode b_M_positiveOf 46 = .ok (.aload_n 0, 1) := by decide +kernel
theorem d_M_positiveOf_47 : decode b_M_positiveOf 47 = .ok (.dup, 1) := by decide +kernel
theorem d_M_positiveOf_48 : decode b_M_positiveOf 48 = .ok (.getfield 268, 3) := by decide +kernel
theorem d_M_positiveOf_51 : decode b_M_positiveOf 51 = .ok (.iconst 1, 1) := by decide +kernel
theorem d_M_positiveOf_52 : decode b_M_positiveOf 52 = .ok (.iadd, 1) := by decide +kernel
theorem d_M_positiveOf_53 : decode b_M_positiveOf 53 = .ok (.putfield 268, 3) := by decide +kernel
theorem d_M_positiveOf_56 : decode b_M_positiveOf 56 = .ok (.aload_n 0, 1) := by decide +kernel
theorem d_M_positiveOf_57 : decode b_M_positiveOf 57 = .ok (.iload_n 1, 1) := by decide +kernel
theorem d_M_positiveOf_58 : decode b_M_positiveOf 58 = .ok (.invokevirtual 295, 3) := by decide +kernel
theorem d_M_positiveOf_61 : decode b_M_positiveOf 61 = .ok (.lstore 5, 2) := by decide +kernel
theorem d_M_positiveOf_63 : decode b_M_positiveOf 63 = .ok (.iload_n 1, 1) := by decide +kernel
theorem d_M_positiveOf_64 : decode b_M_positiveOf 64 = .ok (.ifCond .eq 61, 3) := by decide +kernel
theorem d_M_positiveOf_67 : decode b_M_positiveOf 67 = .ok (.aload_n 0, 1) := by decide +kernel
theorem d_M_positiveOf_68 : decode b_M_positiveOf 68 = .ok (.getfield 278, 3) := by decide +kernel
theorem d_M_positiveOf_71 : decode b_M_positiveOf 71 = .ok (.ifCond .ne 54, 3) := by decide +kernel
theorem d_M_positiveOf_74 : decode b_M_positiveOf 74 = .ok (.iload 4, 2) := by decide +kernel
theorem d_M_positiveOf_76 : decode b_M_positiveOf 76 = .ok (.bipush 60, 2) := by decide +kernel
theorem d_M_positiveOf_78 : decode b_M_positiveOf 78 = .ok (.invokestatic 227, 3) := by decide +kernel
theorem d_M_positiveOf_81 : decode b_M_positiveOf 81 = .ok (.if_icmp .ne 13, 3) := by decide +kernel
theorem d_M_positiveOf_84 : decode b_M_positiveOf 84 = .ok (.lload_n 2, 1) := by decide +kernel
theorem d_M_positiveOf_85 : decode b_M_positiveOf 85 = .ok (.lload 5, 2) := by decide +kernel
theorem d_M_positiveOf_87 : decode b_M_positiveOf 87 = .ok (.lcmp, 1) := by decide +kernel
theorem d_M_positiveOf_88 : decode b_M_positiveOf 88 = .ok (.ifCond .ge 37, 3) := by decide +kernel
theorem d_M_positiveOf_91 : decode b_M_positiveOf 91 = .ok (.goto 30, 3) := by decide +kernel
theorem d_M_positiveOf_94 : decode b_M_positiveOf 94 = .ok (.iload 4, 2) := by decide +kernel
theorem d_M_positiveOf_96 : decode b_M_positiveOf 96 = .ok (.bipush 62, 2) := by decide +kernel
theorem d_M_positiveOf_98 : decode b_M_positiveOf 98 = .ok (.invokestatic 227, 3) := by decide +kernel
theorem d_M_positiveOf_101 : decode b_M_positiveOf 101 = .ok (.if_icmp .ne 13, 3) := by decide +kernel
theorem d_M_positiveOf_104 : decode b_M_positiveOf 104 = .ok (.lload_n 2, 1) := by decide +kernel
theorem d_M_positiveOf_105 : decode b_M_positiveOf 105 = .ok (.lload 5, 2) := by decide +kernel
theorem d_M_positiveOf_107 : decode b_M_positiveOf 107 = .ok (.lcmp, 1) := by decide +kernel
theorem d_M_positiveOf_108 : decode b_M_positiveOf 108 = .ok (.ifCond .le 17, 3) := by decide +kernel
theorem d_M_positiveOf_111 : decode b_M_positiveOf 111 = .ok (.goto 10, 3) := by decide +kernel
theorem d_M_positiveOf_114 : decode b_M_positiveOf 114 = .ok (.lload_n 2, 1) := by decide +kernel
theorem d_M_positiveOf_115 : decode b_M_positiveOf 115 = .ok (.lload 5, 2) := by decide +kernel
theorem d_M_positiveOf_117 : decode b_M_positiveOf 117 = .ok (.lcmp, 1) := by decide +kernel
theorem d_M_positiveOf_118 : decode b_M_positiveOf 118 = .ok (.ifCond .ne 7, 3) := by decide +kernel
theorem d_M_positiveOf_121 : decode b_M_positiveOf 121 = .ok (.iconst 1, 1) := by decide +kernel
theorem d_M_positiveOf_122 : decode b_M_positiveOf 122 = .ok (.goto 4, 3) := by decide +kernel
theorem d_M_positiveOf_125 : decode b_M_positiveOf 125 = .ok (.iconst 0, 1) := by decide +kernel
theorem d_M_positiveOf_126 : decode b_M_positiveOf 126 = .ok (.ireturn, 1) := by decide +kernel
theorem mf_M_positiveOf : zMF y_M_positiveOf b_M_positiveOf 7 (some .boolean) 1 := ⟨zGW_in 1564 (by decide +kernel) (by decide +kernel), zGW_in 135 (by decide +kernel) (by decide +kernel), by decide +kernel⟩
theorem in_M_positiveOf : Cond.instanceMethod y_M_positiveOf ∈ zGW := zGW_in 1563 (by decide +kernel) (by decide +kernel)
theorem se_M_positiveOf : Cond.selects y_M_positiveOf.cls y_M_positiveOf y_M_positiveOf ∈ zGW := zGW_in 63 (by decide +kernel) (by decide +kernel)
def y_M_plainOf : MethodName := ⟨zNm 11, "plainOf", "(Z)Z"⟩
abbrev b_M_plainOf : ByteArray := prog_13_method_67_code
theorem d_M_plainOf_0 : decode b_M_plainOf 0 = .ok (.iconst 0, 1) := by decide +kernel
theorem d_M_plainOf_1 : decode b_M_plainOf 1 = .ok (.istore_n 2, 1) := by decide +kernel
theorem d_M_plainOf_2 : decode b_M_plainOf 2 = .ok (.aload_n 0, 1) := by decide +kernel
theorem d_M_plainOf_3 : decode b_M_plainOf 3 = .ok (.bipush 8, 2) := by decide +kernel
theorem d_M_plainOf_5 : decode b_M_plainOf 5 = .ok (.invokevirtual 292, 3) := by decide +kernel
theorem d_M_plainOf_8 : decode b_M_plainOf 8 = .ok (.ifCond .eq 16, 3) := by decide +kernel
theorem d_M_plainOf_11 : decode b_M_plainOf 11 = .ok (.iload_n 2, 1) := by decide +kernel
theorem d_M_plainOf_12 : decode b_M_plainOf 12 = .ok (.ifCond .ne 7, 3) := by decide +kernel
theorem d_M_plainOf_15 : decode b_M_plainOf 15 = .ok (.iconst 1, 1) := by decide +kernel
theorem d_M_plainOf_16 : decode b_M_plainOf 16 = .ok (.goto 4, 3) := by decide +kernel
theorem d_M_plainOf_19 : decode b_M_plainOf 19 = .ok (.iconst 0, 1) := by decide +kernel
theorem d_M_plainOf_20 : decode b_M_plainOf 20 = .ok (.istore_n 2, 1) := by decide +kernel
theorem d_M_plainOf_21 : decode b_M_plainOf 21 = .ok (.goto (-19), 3) := by decide +kernel
theorem d_M_plainOf_24 : decode b_M_plainOf 24 = .ok (.aload_n 0, 1) := by decide +kernel
theorem d_M_plainOf_25 : decode b_M_plainOf 25 = .ok (.iload_n 1, 1) := by decide +kernel
theorem d_M_plainOf_26 : decode b_M_plainOf 26 = .ok (.invokevirtual 319, 3) := by decide +kernel
theorem d_M_plainOf_29 : decode b_M_plainOf 29 = .ok (.iload_n 2, 1) := by decide +kernel
theorem d_M_plainOf_30 : decode b_M_plainOf 30 = .ok (.if_icmp .eq 7, 3) := by decide +kernel
theorem d_M_plainOf_33 : decode b_M_plainOf 33 = .ok (.iconst 1, 1) := by decide +kernel
theorem d_M_plainOf_34 : decode b_M_plainOf 34 = .ok (.goto 4, 3) := by decide +kernel
theorem d_M_plainOf_37 : decode b_M_plainOf 37 = .ok (.iconst 0, 1) := by decide +kernel
theorem d_M_plainOf_38 : decode b_M_plainOf 38 = .ok (.ireturn, 1) := by decide +kernel
theorem mf_M_plainOf : zMF y_M_plainOf b_M_plainOf 3 (some .boolean) 1 := ⟨zGW_in 1560 (by decide +kernel) (by decide +kernel), zGW_in 135 (by decide +kernel) (by decide +kernel), by decide +kernel⟩
theorem in_M_plainOf : Cond.instanceMethod y_M_plainOf ∈ zGW := zGW_in 1559 (by decide +kernel) (by decide +kernel)
theorem se_M_plainOf : Cond.selects y_M_plainOf.cls y_M_plainOf y_M_plainOf ∈ zGW := zGW_in 62 (by decide +kernel) (by decide +kernel)
def y_M_bothOf : MethodName := ⟨zNm 11, "bothOf", "(Z)Z"⟩
abbrev b_M_bothOf : ByteArray := prog_13_method_66_code
theorem d_M_bothOf_0 : decode b_M_bothOf 0 = .ok (.aload_n 0, 1) := by decide +kernel
theorem d_M_bothOf_1 : decode b_M_bothOf 1 = .ok (.iload_n 1, 1) := by decide +kernel
theorem d_M_bothOf_2 : decode b_M_bothOf 2 = .ok (.invokevirtual 316, 3) := by decide +kernel
theorem d_M_bothOf_5 : decode b_M_bothOf 5 = .ok (.istore_n 2, 1) := by decide +kernel
theorem d_M_bothOf_6 : decode b_M_bothOf 6 = .ok (.aload_n 0, 1) := by decide +kernel
theorem d_M_bothOf_7 : decode b_M_bothOf 7 = .ok (.bipush 7, 2) := by decide +kernel
theorem d_M_bothOf_9 : decode b_M_bothOf 9 = .ok (.invokevirtual 292, 3) := by decide +kernel
theorem d_M_bothOf_12 : decode b_M_bothOf 12 = .ok (.ifCond .eq 38, 3) := by decide +kernel
theorem d_M_bothOf_15 : decode b_M_bothOf 15 = .ok (.aload_n 0, 1) := by decide +kernel
theorem d_M_bothOf_16 : decode b_M_bothOf 16 = .ok (.iload_n 1, 1) := by decide +kernel
theorem d_M_bothOf_17 : decode b_M_bothOf 17 = .ok (.ifCond .eq 11, 3) := by decide +kernel
theorem d_M_bothOf_20 : decode b_M_bothOf 20 = .ok (.iload_n 2, 1) := by decide +kernel
theorem d_M_bothOf_21 : decode b_M_bothOf 21 = .ok (.ifCond .eq 7, 3) := by decide +kernel
theorem d_M_bothOf_24 : decode b_M_bothOf 24 = .ok (.iconst 1, 1) := by decide +kernel
theorem d_M_bothOf_25 : decode b_M_bothOf 25 = .ok (.goto 4, 3) := by decide +kernel
theorem d_M_bothOf_28 : decode b_M_bothOf 28 = .ok (.iconst 0, 1) := by decide +kernel
theorem d_M_bothOf_29 : decode b_M_bothOf 29 = .ok (.invokevirtual 316, 3) := by decide +kernel
theorem d_M_bothOf_32 : decode b_M_bothOf 32 = .ok (.istore_n 3, 1) := by decide +kernel
theorem d_M_bothOf_33 : decode b_M_bothOf 33 = .ok (.iload_n 2, 1) := by decide +kernel
theorem d_M_bothOf_34 : decode b_M_bothOf 34 = .ok (.ifCond .eq 11, 3) := by decide +kernel
theorem d_M_bothOf_37 : decode b_M_bothOf 37 = .ok (.iload_n 3, 1) := by decide +kernel
theorem d_M_bothOf_38 : decode b_M_bothOf 38 = .ok (.ifCond .eq 7, 3) := by decide +kernel
theorem d_M_bothOf_41 : decode b_M_bothOf 41 = .ok (.iconst 1, 1) := by decide +kernel
theorem d_M_bothOf_42 : decode b_M_bothOf 42 = .ok (.goto 4, 3) := by decide +kernel
theorem d_M_bothOf_45 : decode b_M_bothOf 45 = .ok (.iconst 0, 1) := by decide +kernel
theorem d_M_bothOf_46 : decode b_M_bothOf 46 = .ok (.istore_n 2, 1) := by decide +kernel
theorem d_M_bothOf_47 : decode b_M_bothOf 47 = .ok (.goto (-41), 3) := by decide +kernel
theorem d_M_bothOf_50 : decode b_M_bothOf 50 = .ok (.iload_n 2, 1) := by decide +kernel
theorem d_M_bothOf_51 : decode b_M_bothOf 51 = .ok (.ireturn, 1) := by decide +kernel
theorem mf_M_bothOf : zMF y_M_bothOf b_M_bothOf 4 (some .boolean) 1 := ⟨zGW_in 1556 (by decide +kernel) (by decide +kernel), zGW_in 135 (by decide +kernel) (by decide +kernel), by decide +kernel⟩
theorem in_M_bothOf : Cond.instanceMethod y_M_bothOf ∈ zGW := zGW_in 1555 (by decide +kernel) (by decide +kernel)
theorem se_M_bothOf : Cond.selects y_M_bothOf.cls y_M_bothOf y_M_bothOf ∈ zGW := zGW_in 61 (by decide +kernel) (by decide +kernel)
def y_M_testOf : MethodName := ⟨zNm 11, "testOf", "(Z)Z"⟩
abbrev b_M_testOf : ByteArray := prog_13_method_65_code
theorem d_M_testOf_0 : decode b_M_testOf 0 = .ok (.aload_n 0, 1) := by decide +kernel
theorem d_M_testOf_1 : decode b_M_testOf 1 = .ok (.iload_n 1, 1) := by decide +kernel
theorem d_M_testOf_2 : decode b_M_testOf 2 = .ok (.invokevirtual 313, 3) := by decide +kernel
theorem d_M_testOf_5 : decode b_M_testOf 5 = .ok (.istore_n 2, 1) := by decide +kernel
theorem d_M_testOf_6 : decode b_M_testOf 6 = .ok (.aload_n 0, 1) := by decide +kernel
theorem d_M_testOf_7 : decode b_M_testOf 7 = .ok (.bipush 6, 2) := by decide +kernel
theorem d_M_testOf_9 : decode b_M_testOf 9 = .ok (.invokevirtual 292, 3) := by decide +kernel
theorem d_M_testOf_12 : decode b_M_testOf 12 = .ok (.ifCond .eq 38, 3) := by decide +kernel
theorem d_M_testOf_15 : decode b_M_testOf 15 = .ok (.aload_n 0, 1) := by decide +kernel
theorem d_M_testOf_16 : decode b_M_testOf 16 = .ok (.iload_n 1, 1) := by decide +kernel
theorem d_M_testOf_17 : decode b_M_testOf 17 = .ok (.ifCond .eq 11, 3) := by decide +kernel
theorem d_M_testOf_20 : decode b_M_testOf 20 = .ok (.iload_n 2, 1) := by decide +kernel
theorem d_M_testOf_21 : decode b_M_testOf 21 = .ok (.ifCond .ne 7, 3) := by decide +kernel
theorem d_M_testOf_24 : decode b_M_testOf 24 = .ok (.iconst 1, 1) := by decide +kernel
theorem d_M_testOf_25 : decode b_M_testOf 25 = .ok (.goto 4, 3) := by decide +kernel
theorem d_M_testOf_28 : decode b_M_testOf 28 = .ok (.iconst 0, 1) := by decide +kernel
theorem d_M_testOf_29 : decode b_M_testOf 29 = .ok (.invokevirtual 313, 3) := by decide +kernel
theorem d_M_testOf_32 : decode b_M_testOf 32 = .ok (.istore_n 3, 1) := by decide +kernel
theorem d_M_testOf_33 : decode b_M_testOf 33 = .ok (.iload_n 2, 1) := by decide +kernel
theorem d_M_testOf_34 : decode b_M_testOf 34 = .ok (.ifCond .ne 7, 3) := by decide +kernel
theorem d_M_testOf_37 : decode b_M_testOf 37 = .ok (.iload_n 3, 1) := by decide +kernel
theorem d_M_testOf_38 : decode b_M_testOf 38 = .ok (.ifCond .eq 7, 3) := by decide +kernel
theorem d_M_testOf_41 : decode b_M_testOf 41 = .ok (.iconst 1, 1) := by decide +kernel
theorem d_M_testOf_42 : decode b_M_testOf 42 = .ok (.goto 4, 3) := by decide +kernel
theorem d_M_testOf_45 : decode b_M_testOf 45 = .ok (.iconst 0, 1) := by decide +kernel
theorem d_M_testOf_46 : decode b_M_testOf 46 = .ok (.istore_n 2, 1) := by decide +kernel
theorem d_M_testOf_47 : decode b_M_testOf 47 = .ok (.goto (-41), 3) := by decide +kernel
theorem d_M_testOf_50 : decode b_M_testOf 50 = .ok (.iload_n 2, 1) := by decide +kernel
theorem d_M_testOf_51 : decode b_M_testOf 51 = .ok (.ireturn, 1) := by decide +kernel
theorem mf_M_testOf : zMF y_M_testOf b_M_testOf 4 (some .boolean) 1 := ⟨zGW_in 1552 (by decide +kernel) (by decide +kernel), zGW_in 135 (by decide +kernel) (by decide +kernel), by decide +kernel⟩
theorem in_M_testOf : Cond.instanceMethod y_M_testOf ∈ zGW := zGW_in 1551 (by decide +kernel) (by decide +kernel)
theorem se_M_testOf : Cond.selects y_M_testOf.cls y_M_testOf y_M_testOf ∈ zGW := zGW_in 60 (by decide +kernel) (by decide +kernel)
def y_M_tells : MethodName := ⟨zNm 11, "tells", "(IIII)I"⟩
abbrev b_M_tells : ByteArray := prog_13_method_71_code
theorem d_M_tells_0 : decode b_M_tells 0 = .ok (.aload_n 0, 1) := by decide +kernel
theorem d_M_tells_1 : decode b_M_tells 1 = .ok (.getfield 24, 3) := by decide +kernel
theorem d_M_tells_4 : decode b_M_tells 4 = .ok (.sipush 199, 3) := by decide +kernel
theorem d_M_tells_7 : decode b_M_tells 7 = .ok (.iaload, 1) := by decide +kernel
theorem d_M_tells_8 : decode b_M_tells 8 = .ok (.iconst (-1), 1) := by decide +kernel
theorem d_M_tells_9 : decode b_M_tells 9 = .ok (.if_icmp .ne 6, 3) := by decide +kernel
theorem d_M_tells_12 : decode b_M_tells 12 = .ok (.iload 4, 2) := by decide +kernel
theorem d_M_tells_14 : decode b_M_tells 14 = .ok (.ireturn, 1) := by decide +kernel
theorem d_M_tells_15 : decode b_M_tells 15 = .ok (.aload_n 0, 1) := by decide +kernel
theorem d_M_tells_16 : decode b_M_tells 16 = .ok (.iconst 0, 1) := by decide +kernel
theorem d_M_tells_17 : decode b_M_tells 17 = .ok (.putfield 298, 3) := by decide +kernel
theorem d_M_tells_20 : decode b_M_tells 20 = .ok (.iload 4, 2) := by decide +kernel
theorem d_M_tells_22 : decode b_M_tells 22 = .ok (.i2l, 1) := by decide +kernel
theorem d_M_tells_23 : decode b_M_tells 23 = .ok (.lstore 5, 2) := by decide +kernel
theorem d_M_tells_25 : decode b_M_tells 25 = .ok (.aload_n 0, 1) := by decide +kernel
theorem d_M_tells_26 : decode b_M_tells 26 = .ok (.sipush 400, 3) := by decide +kernel
theorem d_M_tells_29 : decode b_M_tells 29 = .ok (.aload_n 0, 1) := by decide +kernel
theorem d_M_tells_30 : decode b_M_tells 30 = .ok (.getfield 24, 3) := by decide +kernel
theorem d_M_tells_33 : decode b_M_tells 33 = .ok (.sipush 199, 3) := by decide +kernel
theorem d_M_tells_36 : decode b_M_tells 36 = .ok (.iaload, 1) := by decide +kernel
theorem d_M_tells_37 : decode b_M_tells 37 = .ok (.imul, 1) := by decide +kernel
theorem d_M_tells_38 : decode b_M_tells 38 = .ok (.putfield 268, 3) := by decide +kernel
theorem d_M_tells_41 : decode b_M_tells 41 = .ok (.aload_n 0, 1) := by decide +kernel
theorem d_M_tells_42 : decode b_M_tells 42 = .ok (.aload_n 0, 1) := by decide +kernel
theorem d_M_tells_43 : decode b_M_tells 43 = .ok (.getfield 268, 3) := by decide +kernel
theorem d_M_tells_46 : decode b_M_tells 46 = .ok (.aload_n 0, 1) := by decide +kernel
theorem d_M_tells_47 : decode b_M_tells 47 = .ok (.getfield 24, 3) := by decide +kernel
theorem d_M_tells_50 : decode b_M_tells 50 = .ok (.sipush 200, 3) := by decide +kernel
theorem d_M_tells_53 : decode b_M_tells 53 = .ok (.aload_n 0, 1) := by decide +kernel
theorem d_M_tells_54 : decode b_M_tells 54 = .ok (.getfield 24, 3) := by decide +kernel
theorem d_M_tells_57 : decode b_M_tells 57 = .ok (.sipush 199, 3) := by decide +kernel
theorem d_M_tells_60 : decode b_M_tells 60 = .ok (.iaload, 1) := by decide +kernel
theorem d_M_tells_61 : decode b_M_tells 61 = .ok (.iadd, 1) := by decide +kernel
theorem d_M_tells_62 : decode b_M_tells 62 = .ok (.iaload, 1) := by decide +kernel
theorem d_M_tells_63 : decode b_M_tells 63 = .ok (.iadd, 1) := by decide +kernel
theorem d_M_tells_64 : decode b_M_tells 64 = .ok (.putfield 265, 3) := by decide +kernel
theorem d_M_tells_67 : decode b_M_tells 67 = .ok (.aload_n 0, 1) := by decide +kernel
theorem d_M_tells_68 : decode b_M_tells 68 = .ok (.getfield 268, 3) := by decide +kernel
theorem d_M_tells_71 : decode b_M_tells 71 = .ok (.aload_n 0, 1) := by decide +kernel
theorem d_M_tells_72 : decode b_M_tells 72 = .ok (.getfield 265, 3) := by decide +kernel
theorem d_M_tells_75 : decode b_M_tells 75 = .ok (.if_icmp .ge 145, 3) := by decide +kernel
theorem d_M_tells_78 : decode b_M_tells 78 = .ok (.aload_n 0, 1) := by decide +kernel
theorem d_M_tells_79 : decode b_M_tells 79 = .ok (.aload_n 0, 1) := by decide +kernel
theorem d_M_tells_80 : decode b_M_tells 80 = .ok (.getfield 268, 3) := by decide +kernel
theorem d_M_tells_83 : decode b_M_tells 83 = .ok (.invokevirtual 271, 3) := by decide +kernel
theorem d_M_tells_86 : decode b_M_tells 86 = .ok (.istore 7, 2) := by decide +kernel
theorem d_M_tells_88 : decode b_M_tells 88 = .ok (.aload_n 0, 1) := by decide +kernel
theorem d_M_tells_89 : decode b_M_tells 89 = .ok (.iconst 0, 1) := by decide +kernel
theorem d_M_tells_90 : decode b_M_tells 90 = .ok (.putfield 278, 3) := by decide +kernel
theorem d_M_tells_93 : decode b_M_tells 93 = .ok (.aload_n 0, 1) := by decide +kernel
theorem d_M_tells_94 : decode b_M_tells 94 = .ok (.dup, 1) := by decide +kernel
theorem d_M_tells_95 : decode b_M_tells 95 = .ok (.getfield 268, 3) := by decide +kernel
theorem d_M_tells_98 : decode b_M_tells 98 = .ok (.iconst 1, 1) := by decide +kernel
theorem d_M_tells_99 : decode b_M_tells 99 = .ok (.iadd, 1) := by decide +kernel
theorem d_M_tells_100 : decode b_M_tells 100 = .ok (.putfield 268, 3) := by decide +kernel
theorem d_M_tells_103 : decode b_M_tells 103 = .ok (.iload 7, 2) := by decide +kernel
theorem d_M_tells_105 : decode b_M_tells 105 = .ok (.iconst 4, 1) := by decide +kernel
theorem d_M_tells_106 : decode b_M_tells 106 = .ok (.if_icmp .ne 7, 3) := by decide +kernel
theorem d_M_tells_109 : decode b_M_tells 109 = .ok (.lconst 1, 1) := by decide +kernel
theorem d_M_tells_110 : decode b_M_tells 110 = .ok (.goto 8, 3) := by decide +kernel
theorem d_M_tells_113 : decode b_M_tells 113 = .ok (.aload_n 0, 1) := by decide +kernel
theorem d_M_tells_114 : decode b_M_tells 114 = .ok (.iconst 1, 1) := by decide +kernel
theorem d_M_tells_115 : decode b_M_tells 115 = .ok (.invokevirtual 295, 3) := by decide +kernel
theorem d_M_tells_118 : decode b_M_tells 118 = .ok (.lstore 8, 2) := by decide +kernel
theorem d_M_tells_120 : decode b_M_tells 120 = .ok (.aload_n 0, 1) := by decide +kernel
theorem d_M_tells_121 : decode b_M_tells 121 = .ok (.getfield 278, 3) := by decide +kernel
theorem d_M_tells_124 : decode b_M_tells 124 = .ok (.istore 10, 2) := by decide +kernel
theorem d_M_tells_126 : decode b_M_tells 126 = .ok (.aload_n 0, 1) := by decide +kernel
theorem d_M_tells_127 : decode b_M_tells 127 = .ok (.iconst 0, 1) := by decide +kernel
theorem d_M_tells_128 : decode b_M_tells 128 = .ok (.putfield 278, 3) := by decide +kernel
theorem d_M_tells_131 : decode b_M_tells 131 = .ok (.aload_n 0, 1) := by decide +kernel
theorem d_M_tells_132 : decode b_M_tells 132 = .ok (.iconst 5, 1) := by decide +kernel
theorem d_M_tells_133 : decode b_M_tells 133 = .ok (.invokevirtual 292, 3) := by decide +kernel
theorem d_M_tells_136 : decode b_M_tells 136 = .ok (.ifCond .eq 11, 3) := by decide +kernel
theorem d_M_tells_139 : decode b_M_tells 139 = .ok (.aload_n 0, 1) := by decide +kernel
theorem d_M_tells_140 : decode b_M_tells 140 = .ok (.iconst 1, 1) := by decide +kernel
theorem d_M_tells_141 : decode b_M_tells 141 = .ok (.invokevirtual 322, 3) := by decide +kernel
theorem d_M_tells_144 : decode b_M_tells 144 = .ok (.ifCond .eq 7, 3) := by decide +kernel
theorem d_M_tells_147 : decode b_M_tells 147 = .ok (.iconst 1, 1) := by decide +kernel
theorem d_M_tells_148 : decode b_M_tells 148 = .ok (.goto 4, 3) := by decide +kernel
theorem d_M_tells_151 : decode b_M_tells 151 = .ok (.iconst 0, 1) := by decide +kernel
theorem d_M_tells_152 : decode b_M_tells 152 = .ok (.istore 11, 2) := by decide +kernel
theorem d_M_tells_154 : decode b_M_tells 154 = .ok (.iload 7, 2) := by decide +kernel
theorem d_M_tells_156 : decode b_M_tells 156 = .ok (.iload_n 1, 1) := by decide +kernel
theorem d_M_tells_157 : decode b_M_tells 157 = .ok (.if_icmp .ne 50, 3) := by decide +kernel
theorem d_M_tells_160 : decode b_M_tells 160 = .ok (.iload 11, 2) := by decide +kernel
theorem d_M_tells_162 : decode b_M_tells 162 = .ok (.ifCond .eq 45, 3) := by decide +kernel
theorem d_M_tells_165 : decode b_M_tells 165 = .ok (.aload_n 0, 1) := by decide +kernel
theorem d_M_tells_166 : decode b_M_tells 166 = .ok (.getfield 278, 3) := by decide +kernel
theorem d_M_tells_169 : decode b_M_tells 169 = .ok (.ifCond .ne 38, 3) := by decide +kernel
theorem d_M_tells_172 : decode b_M_tells 172 = .ok (.iload 10, 2) := by decide +kernel
theorem d_M_tells_174 : decode b_M_tells 174 = .ok (.ifCond .ne 33, 3) := by decide +kernel
theorem d_M_tells_177 : decode b_M_tells 177 = .ok (.lload 8, 2) := by decide +kernel
theorem d_M_tells_179 : decode b_M_tells 179 = .ok (.iload_n 2, 1) := by decide +kernel
theorem d_M_tells_180 : decode b_M_tells 180 = .ok (.i2l, 1) := by decide +kernel
theorem d_M_tells_181 : decode b_M_tells 181 = .ok (.lcmp, 1) := by decide +kernel
theorem d_M_tells_182 : decode b_M_tells 182 = .ok (.ifCond .ge 8, 3) := by decide +kernel
theorem d_M_tells_185 : decode b_M_tells 185 = .ok (.iload_n 2, 1) := by decide +kernel
theorem d_M_tells_186 : decode b_M_tells 186 = .ok (.i2l, 1) := by decide +kernel
theorem d_M_tells_187 : decode b_M_tells 187 = .ok (.goto 18, 3) := by decide +kernel
theorem d_M_tells_190 : decode b_M_tells 190 = .ok (.lload 8, 2) := by decide +kernel
theorem d_M_tells_192 : decode b_M_tells 192 = .ok (.iload_n 3, 1) := by decide +kernel
theorem d_M_tells_193 : decode b_M_tells 193 = .ok (.i2l, 1) := by decide +kernel
theorem d_M_tells_194 : decode b_M_tells 194 = .ok (.lcmp, 1) := by decide +kernel
theorem d_M_tells_195 : decode b_M_tells 195 = .ok (.ifCond .le 8, 3) := by decide +kernel
theorem d_M_tells_198 : decode b_M_tells 198 = .ok (.iload_n 3, 1) := by decide +kernel
theorem d_M_tells_199 : decode b_M_tells 199 = .ok (.i2l, 1) := by decide +kernel
theorem d_M_tells_200 : decode b_M_tells 200 = .ok (.goto 5, 3) := by decide +kernel
theorem d_M_tells_203 : decode b_M_tells 203 = .ok (.lload 8, 2) := by decide +kernel
theorem d_M_tells_205 : decode b_M_tells 205 = .ok (.lstore 5, 2) := by decide +kernel
theorem d_M_tells_207 : decode b_M_tells 207 = .ok (.aload_n 0, 1) := by decide +kernel
theorem d_M_tells_208 : decode b_M_tells 208 = .ok (.dup, 1) := by decide +kernel
theorem d_M_tells_209 : decode b_M_tells 209 = .ok (.getfield 268, 3) := by decide +kernel
theorem d_M_tells_212 : decode b_M_tells 212 = .ok (.iconst 1, 1) := by decide +kernel
theorem d_M_tells_213 : decode b_M_tells 213 = .ok (.iadd, 1) := by decide +kernel
theorem d_M_tells_214 : decode b_M_tells 214 = .ok (.putfield 268, 3) := by decide +kernel
theorem d_M_tells_217 : decode b_M_tells 217 = .ok (.goto (-150), 3) := by decide +kernel
theorem d_M_tells_220 : decode b_M_tells 220 = .ok (.lload 5, 2) := by decide +kernel
theorem d_M_tells_222 : decode b_M_tells 222 = .ok (.l2i, 1) := by decide +kernel
theorem d_M_tells_223 : decode b_M_tells 223 = .ok (.ireturn, 1) := by decide +kernel
theorem mf_M_tells : zMF y_M_tells b_M_tells 12 (some .int) 4 := ⟨zGW_in 1503 (by decide +kernel) (by decide +kernel), zGW_in 135 (by decide +kernel) (by decide +kernel), by decide +kernel⟩
theorem in_M_tells : Cond.instanceMethod y_M_tells ∈ zGW := zGW_in 1502 (by decide +kernel) (by decide +kernel)
theorem se_M_tells : Cond.selects y_M_tells.cls y_M_tells y_M_tells ∈ zGW := zGW_in 49 (by decide +kernel) (by decide +kernel)
def y_M_settlesTo : MethodName := ⟨zNm 11, "settlesTo", "(I)I"⟩
abbrev b_M_settlesTo : ByteArray := prog_13_method_75_code
theorem d_M_settlesTo_0 : decode b_M_settlesTo 0 = .ok (.aload_n 0, 1) := by decide +kernel
theorem d_M_settlesTo_1 : decode b_M_settlesTo 1 = .ok (.iload_n 1, 1) := by decide +kernel
theorem d_M_settlesTo_2 : decode b_M_settlesTo 2 = .ok (.invokevirtual 332, 3) := by decide +kernel
theorem d_M_settlesTo_5 : decode b_M_settlesTo 5 = .ok (.aload_n 0, 1) := by decide +kernel
theorem d_M_settlesTo_6 : decode b_M_settlesTo 6 = .ok (.iconst 3, 1) := by decide +kernel
theorem d_M_settlesTo_7 : decode b_M_settlesTo 7 = .ok (.iconst 0, 1) := by decide +kernel
theorem d_M_settlesTo_8 : decode b_M_settlesTo 8 = .ok (.bipush 9, 2) := by decide +kernel
theorem d_M_settlesTo_10 : decode b_M_settlesTo 10 = .ok (.aload_n 0, 1) := by decide +kernel
theorem d_M_settlesTo_11 : decode b_M_settlesTo 11 = .ok (.getfield 24, 3) := by decide +kernel
theorem d_M_settlesTo_14 : decode b_M_settlesTo 14 = .ok (.iconst 1, 1) := by decide +kernel
theorem d_M_settlesTo_15 : decode b_M_settlesTo 15 = .ok (.iload_n 1, 1) := by decide +kernel
theorem d_M_settlesTo_16 : decode b_M_settlesTo 16 = .ok (.iadd, 1) := by decide +kernel
theorem d_M_settlesTo_17 : decode b_M_settlesTo 17 = .ok (.iaload, 1) := by decide +kernel
theorem d_M_settlesTo_18 : decode b_M_settlesTo 18 = .ok (.invokevirtual 328, 3) := by decide +kernel
theorem d_M_settlesTo_21 : decode b_M_settlesTo 21 = .ok (.ireturn, 1) := by decide +kernel
theorem mf_M_settlesTo : zMF y_M_settlesTo b_M_settlesTo 2 (some .int) 1 := ⟨zGW_in 1495 (by decide +kernel) (by decide +kernel), zGW_in 135 (by decide +kernel) (by decide +kernel), by decide +kernel⟩
theorem in_M_settlesTo : Cond.instanceMethod y_M_settlesTo ∈ zGW := zGW_in 1494 (by decide +kernel) (by decide +kernel)
theorem se_M_settlesTo : Cond.selects y_M_settlesTo.cls y_M_settlesTo y_M_settlesTo ∈ zGW := zGW_in 47 (by decide +kernel) (by decide +kernel)
def y_M_of : MethodName := ⟨zNm 11, "of", "(II)I"⟩
abbrev b_M_of : ByteArray := prog_13_method_22_code
theorem d_M_of_0 : decode b_M_of 0 = .ok (.aload_n 0, 1) := by decide +kernel
theorem d_M_of_1 : decode b_M_of 1 = .ok (.iload_n 1, 1) := by decide +kernel
theorem d_M_of_2 : decode b_M_of 2 = .ok (.invokevirtual 122, 3) := by decide +kernel
theorem d_M_of_5 : decode b_M_of 5 = .ok (.ifCond .ne 5, 3) := by decide +kernel
theorem d_M_of_8 : decode b_M_of 8 = .ok (.iconst (-1), 1) := by decide +kernel
theorem d_M_of_9 : decode b_M_of 9 = .ok (.ireturn, 1) := by decide +kernel
theorem d_M_of_10 : decode b_M_of 10 = .ok (.iload_n 2, 1) := by decide +kernel
theorem d_M_of_11 : decode b_M_of 11 = .ok (.tableswitch 50 0 2 #[25, 35, 44], 25) := by decide +kernel
theorem d_M_of_36 : decode b_M_of 36 = .ok (.aload_n 0, 1) := by decide +kernel
theorem d_M_of_37 : decode b_M_of 37 = .ok (.getfield 24, 3) := by decide +kernel
theorem d_M_of_40 : decode b_M_of 40 = .ok (.bipush 92, 2) := by decide +kernel
theorem d_M_of_42 : decode b_M_of 42 = .ok (.iload_n 1, 1) := by decide +kernel
theorem d_M_of_43 : decode b_M_of 43 = .ok (.iadd, 1) := by decide +kernel
theorem d_M_of_44 : decode b_M_of 44 = .ok (.iaload, 1) := by decide +kernel
theorem d_M_of_45 : decode b_M_of 45 = .ok (.ireturn, 1) := by decide +kernel
theorem d_M_of_46 : decode b_M_of 46 = .ok (.aload_n 0, 1) := by decide +kernel
theorem d_M_of_47 : decode b_M_of 47 = .ok (.getfield 24, 3) := by decide +kernel
theorem d_M_of_50 : decode b_M_of 50 = .ok (.iconst 1, 1) := by decide +kernel
theorem d_M_of_51 : decode b_M_of 51 = .ok (.iload_n 1, 1) := by decide +kernel
theorem d_M_of_52 : decode b_M_of 52 = .ok (.iadd, 1) := by decide +kernel
theorem d_M_of_53 : decode b_M_of 53 = .ok (.iaload, 1) := by decide +kernel
theorem d_M_of_54 : decode b_M_of 54 = .ok (.ireturn, 1) := by decide +kernel
theorem d_M_of_55 : decode b_M_of 55 = .ok (.aload_n 0, 1) := by decide +kernel
theorem d_M_of_56 : decode b_M_of 56 = .ok (.iload_n 1, 1) := by decide +kernel
theorem d_M_of_57 : decode b_M_of 57 = .ok (.invokevirtual 141, 3) := by decide +kernel
theorem d_M_of_60 : decode b_M_of 60 = .ok (.ireturn, 1) := by decide +kernel
theorem d_M_of_61 : decode b_M_of 61 = .ok (.iconst (-1), 1) := by decide +kernel
theorem d_M_of_62 : decode b_M_of 62 = .ok (.ireturn, 1) := by decide +kernel
theorem mf_M_of : zMF y_M_of b_M_of 3 (some .int) 2 := ⟨zGW_in 1491 (by decide +kernel) (by decide +kernel), zGW_in 135 (by decide +kernel) (by decide +kernel), by decide +kernel⟩
theorem in_M_of : Cond.instanceMethod y_M_of ∈ zGW := zGW_in 1489 (by decide +kernel) (by decide +kernel)
theorem se_M_of : Cond.selects y_M_of.cls y_M_of y_M_of ∈ zGW := zGW_in 1490 (by decide +kernel) (by decide +kernel)
def y_M_setsChannel : MethodName := ⟨zNm 11, "setsChannel", "(II)V"⟩
abbrev b_M_setsChannel : ByteArray := prog_13_method_69_code
theorem d_M_setsChannel_0 : decode b_M_setsChannel 0 = .ok (.aload_n 0, 1) := by decide +kernel
theorem d_M_setsChannel_1 : decode b_M_setsChannel 1 = .ok (.getfield 59, 3) := by decide +kernel
theorem d_M_setsChannel_4 : decode b_M_setsChannel 4 = .ok (.iconst 0, 1) := by decide +kernel
theorem d_M_setsChannel_5 : decode b_M_setsChannel 5 = .ok (.iload_n 1, 1) := by decide +kernel
theorem d_M_setsChannel_6 : decode b_M_setsChannel 6 = .ok (.iastore, 1) := by decide +kernel
theorem d_M_setsChannel_7 : decode b_M_setsChannel 7 = .ok (.aload_n 0, 1) := by decide +kernel
theorem d_M_setsChannel_8 : decode b_M_setsChannel 8 = .ok (.getfield 59, 3) := by decide +kernel
theorem d_M_setsChannel_11 : decode b_M_setsChannel 11 = .ok (.iconst 1, 1) := by decide +kernel
theorem d_M_setsChannel_12 : decode b_M_setsChannel 12 = .ok (.iload_n 2, 1) := by decide +kernel
theorem d_M_setsChannel_13 : decode b_M_setsChannel 13 = .ok (.iastore, 1) := by decide +kernel
theorem d_M_setsChannel_14 : decode b_M_setsChannel 14 = .ok (.aload_n 0, 1) := by decide +kernel
theorem d_M_setsChannel_15 : decode b_M_setsChannel 15 = .ok (.getfield 59, 3) := by decide +kernel
theorem d_M_setsChannel_18 : decode b_M_setsChannel 18 = .ok (.iconst 2, 1) := by decide +kernel
theorem d_M_setsChannel_19 : decode b_M_setsChannel 19 = .ok (.aload_n 0, 1) := by decide +kernel
theorem d_M_setsChannel_20 : decode b_M_setsChannel 20 = .ok (.iload_n 1, 1) := by decide +kernel
theorem d_M_setsChannel_21 : decode b_M_setsChannel 21 = .ok (.iload_n 2, 1) := by decide +kernel
theorem d_M_setsChannel_22 : decode b_M_setsChannel 22 = .ok (.invokevirtual 134, 3) := by decide +kernel
theorem d_M_setsChannel_25 : decode b_M_setsChannel 25 = .ok (.iastore, 1) := by decide +kernel
theorem d_M_setsChannel_26 : decode b_M_setsChannel 26 = .ok (.aload_n 0, 1) := by decide +kernel
theorem d_M_setsChannel_27 : decode b_M_setsChannel 27 = .ok (.getfield 59, 3) := by decide +kernel
theorem d_M_setsChannel_30 : decode b_M_setsChannel 30 = .ok (.iconst 3, 1) := by decide +kernel
theorem d_M_setsChannel_31 : decode b_M_setsChannel 31 = .ok (.aload_n 0, 1) := by decide +kernel
theorem d_M_setsChannel_32 : decode b_M_setsChannel 32 = .ok (.getfield 24, 3) := by decide +kernel
theorem d_M_setsChannel_35 : decode b_M_setsChannel 35 = .ok (.bipush 92, 2) := by decide +kernel
theorem d_M_setsChannel_37 : decode b_M_setsChannel 37 = .ok (.iload_n 1, 1) := by decide +kernel
theorem d_M_setsChannel_38 : decode b_M_setsChannel 38 = .ok (.iadd, 1) := by decide +kernel
theorem d_M_setsChannel_39 : decode b_M_setsChannel 39 = .ok (.iaload, 1) := by decide +kernel
theorem d_M_setsChannel_40 : decode b_M_setsChannel 40 = .ok (.aload_n 0, 1) := by decide +kernel
theorem d_M_setsChannel_41 : decode b_M_setsChannel 41 = .ok (.getfield 24, 3) := by decide +kernel
theorem d_M_setsChannel_44 : decode b_M_setsChannel 44 = .ok (.bipush 92, 2) := by decide +kernel
theorem d_M_setsChannel_46 : decode b_M_setsChannel 46 = .ok (.iload_n 2, 1) := by decide +kernel
theorem d_M_setsChannel_47 : decode b_M_setsChannel 47 = .ok (.iadd, 1) := by decide +kernel
theorem d_M_setsChannel_48 : decode b_M_setsChannel 48 = .ok (.iaload, 1) := by decide +kernel
theorem d_M_setsChannel_49 : decode b_M_setsChannel 49 = .ok (.isub, 1) := by decide +kernel
theorem d_M_setsChannel_50 : decode b_M_setsChannel 50 = .ok (.iastore, 1) := by decide +kernel
theorem d_M_setsChannel_51 : decode b_M_setsChannel 51 = .ok (.aload_n 0, 1) := by decide +kernel
theorem d_M_setsChannel_52 : decode b_M_setsChannel 52 = .ok (.getfield 59, 3) := by decide +kernel
theorem d_M_setsChannel_55 : decode b_M_setsChannel 55 = .ok (.iconst 4, 1) := by decide +kernel
theorem d_M_setsChannel_56 : decode b_M_setsChannel 56 = .ok (.aload_n 0, 1) := by decide +kernel
theorem d_M_setsChannel_57 : decode b_M_setsChannel 57 = .ok (.getfield 24, 3) := by decide +kernel
theorem d_M_setsChannel_60 : decode b_M_setsChannel 60 = .ok (.sipush 195, 3) := by decide +kernel
theorem d_M_setsChannel_63 : decode b_M_setsChannel 63 = .ok (.iaload, 1) := by decide +kernel
theorem d_M_setsChannel_64 : decode b_M_setsChannel 64 = .ok (.iastore, 1) := by decide +kernel
theorem d_M_setsChannel_65 : decode b_M_setsChannel 65 = .ok (.aload_n 0, 1) := by decide +kernel
theorem d_M_setsChannel_66 : decode b_M_setsChannel 66 = .ok (.getfield 59, 3) := by decide +kernel
theorem d_M_setsChannel_69 : decode b_M_setsChannel 69 = .ok (.iconst 5, 1) := by decide +kernel
theorem d_M_setsChannel_70 : decode b_M_setsChannel 70 = .ok (.aload_n 0, 1) := by decide +kernel
theorem d_M_setsChannel_71 : decode b_M_setsChannel 71 = .ok (.getfield 24, 3) := by decide +kernel
theorem d_M_setsChannel_74 : decode b_M_setsChannel 74 = .ok (.iconst 1, 1) := by decide +kernel
theorem d_M_setsChannel_75 : decode b_M_setsChannel 75 = .ok (.iload_n 2, 1) := by decide +kernel
theorem d_M_setsChannel_76 : decode b_M_setsChannel 76 = .ok (.iadd, 1) := by decide +kernel
theorem d_M_setsChannel_77 : decode b_M_setsChannel 77 = .ok (.iaload, 1) := by decide +kernel
theorem d_M_setsChannel_78 : decode b_M_setsChannel 78 = .ok (.iastore, 1) := by decide +kernel
theorem d_M_setsChannel_79 : decode b_M_setsChannel 79 = .ok (.aload_n 0, 1) := by decide +kernel
theorem d_M_setsChannel_80 : decode b_M_setsChannel 80 = .ok (.getfield 59, 3) := by decide +kernel
theorem d_M_setsChannel_83 : decode b_M_setsChannel 83 = .ok (.bipush 6, 2) := by decide +kernel
theorem d_M_setsChannel_85 : decode b_M_setsChannel 85 = .ok (.aload_n 0, 1) := by decide +kernel
theorem d_M_setsChannel_86 : decode b_M_setsChannel 86 = .ok (.getfield 24, 3) := by decide +kernel
theorem d_M_setsChannel_89 : decode b_M_setsChannel 89 = .ok (.bipush 91, 2) := by decide +kernel
theorem d_M_setsChannel_91 : decode b_M_setsChannel 91 = .ok (.iaload, 1) := by decide +kernel
theorem d_M_setsChannel_92 : decode b_M_setsChannel 92 = .ok (.iastore, 1) := by decide +kernel
theorem d_M_setsChannel_93 : decode b_M_setsChannel 93 = .ok (.return_, 1) := by decide +kernel
theorem mf_M_setsChannel : zMF y_M_setsChannel b_M_setsChannel 3 none 2 := ⟨zGW_in 1576 (by decide +kernel) (by decide +kernel), zGW_in 135 (by decide +kernel) (by decide +kernel), by decide +kernel⟩
theorem in_M_setsChannel : Cond.instanceMethod y_M_setsChannel ∈ zGW := zGW_in 1575 (by decide +kernel) (by decide +kernel)
theorem se_M_setsChannel : Cond.selects y_M_setsChannel.cls y_M_setsChannel y_M_setsChannel ∈ zGW := zGW_in 65 (by decide +kernel) (by decide +kernel)
def y_M_takesFor : MethodName := ⟨zNm 11, "takesFor", "(II)I"⟩
abbrev b_M_takesFor : ByteArray := prog_13_method_72_code
theorem d_M_takesFor_0 : decode b_M_takesFor 0 = .ok (.aload_n 0, 1) := by decide +kernel
theorem d_M_takesFor_1 : decode b_M_takesFor 1 = .ok (.iload_n 1, 1) := by decide +kernel
theorem d_M_takesFor_2 : decode b_M_takesFor 2 = .ok (.iload_n 2, 1) := by decide +kernel
theorem d_M_takesFor_3 : decode b_M_takesFor 3 = .ok (.invokevirtual 325, 3) := by decide +kernel
theorem d_M_takesFor_6 : decode b_M_takesFor 6 = .ok (.aload_n 0, 1) := by decide +kernel
theorem d_M_takesFor_7 : decode b_M_takesFor 7 = .ok (.iconst 1, 1) := by decide +kernel
theorem d_M_takesFor_8 : decode b_M_takesFor 8 = .ok (.iconst 1, 1) := by decide +kernel
theorem d_M_takesFor_9 : decode b_M_takesFor 9 = .ok (.bipush 99, 2) := by decide +kernel
theorem d_M_takesFor_11 : decode b_M_takesFor 11 = .ok (.aload_n 0, 1) := by decide +kernel
theorem d_M_takesFor_12 : decode b_M_takesFor 12 = .ok (.iload_n 1, 1) := by decide +kernel
theorem d_M_takesFor_13 : decode b_M_takesFor 13 = .ok (.iload_n 2, 1) := by decide +kernel
theorem d_M_takesFor_14 : decode b_M_takesFor 14 = .ok (.invokevirtual 134, 3) := by decide +kernel
theorem d_M_takesFor_17 : decode b_M_takesFor 17 = .ok (.invokevirtual 328, 3) := by decide +kernel
theorem d_M_takesFor_20 : decode b_M_takesFor 20 = .ok (.ireturn, 1) := by decide +kernel
theorem mf_M_takesFor : zMF y_M_takesFor b_M_takesFor 3 (some .int) 2 := ⟨zGW_in 1572 (by decide +kernel) (by decide +kernel), zGW_in 135 (by decide +kernel) (by decide +kernel), by decide +kernel⟩
theorem in_M_takesFor : Cond.instanceMethod y_M_takesFor ∈ zGW := zGW_in 1571 (by decide +kernel) (by decide +kernel)
theorem se_M_takesFor : Cond.selects y_M_takesFor.cls y_M_takesFor y_M_takesFor ∈ zGW := zGW_in 64 (by decide +kernel) (by decide +kernel)
def y_M_weighsFor : MethodName := ⟨zNm 11, "weighsFor", "(II)I"⟩
abbrev b_M_weighsFor : ByteArray := prog_13_method_73_code
theorem d_M_weighsFor_0 : decode b_M_weighsFor 0 = .ok (.aload_n 0, 1) := by decide +kernel
theorem d_M_weighsFor_1 : decode b_M_weighsFor 1 = .ok (.iload_n 1, 1) := by decide +kernel
theorem d_M_weighsFor_2 : decode b_M_weighsFor 2 = .ok (.iload_n 2, 1) := by decide +kernel
theorem d_M_weighsFor_3 : decode b_M_weighsFor 3 = .ok (.invokevirtual 325, 3) := by decide +kernel
theorem d_M_weighsFor_6 : decode b_M_weighsFor 6 = .ok (.aload_n 0, 1) := by decide +kernel
theorem d_M_weighsFor_7 : decode b_M_weighsFor 7 = .ok (.iconst 2, 1) := by decide +kernel
theorem d_M_weighsFor_8 : decode b_M_weighsFor 8 = .ok (.iconst 0, 1) := by decide +kernel
theorem d_M_weighsFor_9 : decode b_M_weighsFor 9 = .ok (.bipush 99, 2) := by decide +kernel
theorem d_M_weighsFor_11 : decode b_M_weighsFor 11 = .ok (.iconst 1, 1) := by decide +kernel
theorem d_M_weighsFor_12 : decode b_M_weighsFor 12 = .ok (.invokevirtual 328, 3) := by decide +kernel
theorem d_M_weighsFor_15 : decode b_M_weighsFor 15 = .ok (.ireturn, 1) := by decide +kernel
theorem mf_M_weighsFor : zMF y_M_weighsFor b_M_weighsFor 3 (some .int) 2 := ⟨zGW_in 1580 (by decide +kernel) (by decide +kernel), zGW_in 135 (by decide +kernel) (by decide +kernel), by decide +kernel⟩
theorem in_M_weighsFor : Cond.instanceMethod y_M_weighsFor ∈ zGW := zGW_in 1579 (by decide +kernel) (by decide +kernel)
theorem se_M_weighsFor : Cond.selects y_M_weighsFor.cls y_M_weighsFor y_M_weighsFor ∈ zGW := zGW_in 66 (by decide +kernel) (by decide +kernel)
def y_M_isBarred : MethodName := ⟨zNm 11, "isBarred", "(II)Z"⟩
abbrev b_M_isBarred : ByteArray := prog_13_method_74_code
theorem d_M_isBarred_0 : decode b_M_isBarred 0 = .ok (.aload_n 0, 1) := by decide +kernel
theorem d_M_isBarred_1 : decode b_M_isBarred 1 = .ok (.iload_n 1, 1) := by decide +kernel
theorem d_M_isBarred_2 : decode b_M_isBarred 2 = .ok (.iload_n 2, 1) := by decide +kernel
theorem d_M_isBarred_3 : decode b_M_isBarred 3 = .ok (.invokevirtual 325, 3) := by decide +kernel
theorem d_M_isBarred_6 : decode b_M_isBarred 6 = .ok (.aload_n 0, 1) := by decide +kernel
theorem d_M_isBarred_7 : decode b_M_isBarred 7 = .ok (.iconst 4, 1) := by decide +kernel
theorem d_M_isBarred_8 : decode b_M_isBarred 8 = .ok (.iconst 0, 1) := by decide +kernel
theorem d_M_isBarred_9 : decode b_M_isBarred 9 = .ok (.iconst 1, 1) := by decide +kernel
theorem d_M_isBarred_10 : decode b_M_isBarred 10 = .ok (.iconst 0, 1) := by decide +kernel
theorem d_M_isBarred_11 : decode b_M_isBarred 11 = .ok (.invokevirtual 328, 3) := by decide +kernel
theorem d_M_isBarred_14 : decode b_M_isBarred 14 = .ok (.iconst 1, 1) := by decide +kernel
theorem d_M_isBarred_15 : decode b_M_isBarred 15 = .ok (.if_icmp .ne 7, 3) := by decide +kernel
theorem d_M_isBarred_18 : decode b_M_isBarred 18 = .ok (.iconst 1, 1) := by decide +kernel
theorem d_M_isBarred_19 : decode b_M_isBarred 19 = .ok (.goto 4, 3) := by decide +kernel
theorem d_M_isBarred_22 : decode b_M_isBarred 22 = .ok (.iconst 0, 1) := by decide +kernel
theorem d_M_isBarred_23 : decode b_M_isBarred 23 = .ok (.ireturn, 1) := by decide +kernel
theorem mf_M_isBarred : zMF y_M_isBarred b_M_isBarred 3 (some .boolean) 2 := ⟨zGW_in 1584 (by decide +kernel) (by decide +kernel), zGW_in 135 (by decide +kernel) (by decide +kernel), by decide +kernel⟩
theorem in_M_isBarred : Cond.instanceMethod y_M_isBarred ∈ zGW := zGW_in 1583 (by decide +kernel) (by decide +kernel)
theorem se_M_isBarred : Cond.selects y_M_isBarred.cls y_M_isBarred y_M_isBarred ∈ zGW := zGW_in 67 (by decide +kernel) (by decide +kernel)
theorem lk_11_108 : Cond.methodLink (zNm 11) 108 y_M_lies ∈ zGW := zGW_in 1438 (by decide +kernel) (by decide +kernel)
theorem lk_11_112 : Cond.methodLink (zNm 11) 112 y_M_refuses ∈ zGW := zGW_in 1441 (by decide +kernel) (by decide +kernel)
theorem lk_11_14 : Cond.methodLink (zNm 11) 14 y_M_good ∈ zGW := zGW_in 1445 (by decide +kernel) (by decide +kernel)
theorem lk_11_115 : Cond.methodLink (zNm 11) 115 y_M_settled ∈ zGW := zGW_in 1453 (by decide +kernel) (by decide +kernel)
theorem lk_11_118 : Cond.methodLink (zNm 11) 118 y_M_springMany ∈ zGW := zGW_in 1461 (by decide +kernel) (by decide +kernel)
theorem lk_11_122 : Cond.methodLink (zNm 11) 122 y_M_isSpring ∈ zGW := zGW_in 1473 (by decide +kernel) (by decide +kernel)
theorem lk_11_126 : Cond.methodLink (zNm 11) 126 y_M_pairAt ∈ zGW := zGW_in 1481 (by decide +kernel) (by decide +kernel)
theorem lk_11_130 : Cond.methodLink (zNm 11) 130 y_M_areTwo ∈ zGW := zGW_in 1469 (by decide +kernel) (by decide +kernel)
theorem lk_11_134 : Cond.methodLink (zNm 11) 134 y_M_farOf ∈ zGW := zGW_in 1477 (by decide +kernel) (by decide +kernel)
theorem lk_11_137 : Cond.methodLink (zNm 11) 137 y_M_laysChannel ∈ zGW := zGW_in 1484 (by decide +kernel) (by decide +kernel)
theorem lk_11_271 : Cond.methodLink (zNm 11) 271 y_M_codeAt ∈ zGW := zGW_in 1504 (by decide +kernel) (by decide +kernel)
theorem lk_11_338 : Cond.methodLink (zNm 11) 338 y_M_isShut ∈ zGW := zGW_in 1539 (by decide +kernel) (by decide +kernel)
theorem lk_11_341 : Cond.methodLink (zNm 11) 341 y_M_channelMany ∈ zGW := zGW_in 1535 (by decide +kernel) (by decide +kernel)
theorem lk_11_310 : Cond.methodLink (zNm 11) 310 y_M_shutMany ∈ zGW := zGW_in 1531 (by decide +kernel) (by decide +kernel)
theorem zc_11_274 : Cond.constantLong (zNm 11) 274 (1000000000 : Int64) ∈ zGW := zGW_in 1547 (by decide +kernel) (by decide +kernel)
theorem zc_11_276 : Cond.constantLong (zNm 11) 276 (-1000000000 : Int64) ∈ zGW := zGW_in 1548 (by decide +kernel) (by decide +kernel)
theorem lk_11_227 : Cond.methodLink (zNm 11) 227 y_M_sign ∈ zGW := zGW_in 1520 (by decide +kernel) (by decide +kernel)
theorem lk_11_292 : Cond.methodLink (zNm 11) 292 y_M_passes0 ∈ zGW := zGW_in 1523 (by decide +kernel) (by decide +kernel)
theorem lk_11_295 : Cond.methodLink (zNm 11) 295 y_M_sumOf ∈ zGW := zGW_in 1508 (by decide +kernel) (by decide +kernel)
theorem lk_11_301 : Cond.methodLink (zNm 11) 301 y_M_orderValue ∈ zGW := zGW_in 1527 (by decide +kernel) (by decide +kernel)
theorem lk_11_289 : Cond.methodLink (zNm 11) 289 y_M_partOf ∈ zGW := zGW_in 1516 (by decide +kernel) (by decide +kernel)
theorem lk_11_285 : Cond.methodLink (zNm 11) 285 y_M_bounded ∈ zGW := zGW_in 1543 (by decide +kernel) (by decide +kernel)
theorem lk_11_281 : Cond.methodLink (zNm 11) 281 y_M_termOf ∈ zGW := zGW_in 1512 (by decide +kernel) (by decide +kernel)
theorem lk_11_322 : Cond.methodLink (zNm 11) 322 y_M_testOf ∈ zGW := zGW_in 1549 (by decide +kernel) (by decide +kernel)
theorem lk_11_319 : Cond.methodLink (zNm 11) 319 y_M_positiveOf ∈ zGW := zGW_in 1561 (by decide +kernel) (by decide +kernel)
theorem lk_11_316 : Cond.methodLink (zNm 11) 316 y_M_plainOf ∈ zGW := zGW_in 1557 (by decide +kernel) (by decide +kernel)
theorem lk_11_313 : Cond.methodLink (zNm 11) 313 y_M_bothOf ∈ zGW := zGW_in 1553 (by decide +kernel) (by decide +kernel)
theorem lk_11_332 : Cond.methodLink (zNm 11) 332 y_M_setsSpring ∈ zGW := zGW_in 1496 (by decide +kernel) (by decide +kernel)
theorem lk_11_328 : Cond.methodLink (zNm 11) 328 y_M_tells ∈ zGW := zGW_in 1500 (by decide +kernel) (by decide +kernel)
theorem lk_11_141 : Cond.methodLink (zNm 11) 141 y_M_settlesTo ∈ zGW := zGW_in 1492 (by decide +kernel) (by decide +kernel)
theorem lk_11_325 : Cond.methodLink (zNm 11) 325 y_M_setsChannel ∈ zGW := zGW_in 1573 (by decide +kernel) (by decide +kernel)
def f_M_lies (a0 : Int32) (a1 : Int32) (a2 : Int32) : Option Int32 := if a0 < a1 then some (0 : Int32) else if a2 < a0 then some (0 : Int32) else some (1 : Int32)
set_option maxRecDepth 100000 in
set_option maxHeartbeats 4000000 in
theorem m_M_lies (l : Launch) {a0 : Int32} {a1 : Int32} {a2 : Int32} {S : zSt} {r : Int32} (h : f_M_lies a0 a1 a2 = some r) : zPM l y_M_lies b_M_lies 3 (some .boolean) rm_M_lies true true [zi a0, zi a1, zi a2] S (some (zi r)) S := by
  refine zPM_of (by decide) (Nat.le_of_ble_eq_true rfl) (fun p e s m args below meth c G C hret hname => ?_)
  unfold f_M_lies at h
  refine (?_ : zJ p l e rm_M_lies s m args below meth c G true 3 0 0 (zQm below G args s rm_M_lies true (some (zi r)) S) S 0 [(0, zi a0), (1, zi a1), (2, zi a2)] [])
  refine z_iload_n C 0 rfl d_M_lies_0 rfl ?_
  refine z_iload_n C 1 rfl d_M_lies_1 rfl ?_
  rcases zite h with ⟨c1, h⟩ | ⟨c1, h⟩
  · refine z_icmp_ltt C 14 c1 d_M_lies_2 (by decide) ?_
    refine z_iconst C (0 : Int32) (by decide) d_M_lies_14 ?_
    cases h
    exact z_iret C .boolean hret rfl ⟨Nat.zero_le _, Nat.zero_le _⟩ d_M_lies_15
  · refine z_icmp_ltf C 14 c1 d_M_lies_2 (by decide) ?_
    refine z_iload_n C 0 rfl d_M_lies_5 rfl ?_
    refine z_iload_n C 2 rfl d_M_lies_6 rfl ?_
    rcases zite h with ⟨c2, h⟩ | ⟨c2, h⟩
    · refine z_icmp_gtt C 14 c2 d_M_lies_7 (by decide) ?_
      refine z_iconst C (0 : Int32) (by decide) d_M_lies_14 ?_
      cases h
      exact z_iret C .boolean hret rfl ⟨Nat.zero_le _, Nat.zero_le _⟩ d_M_lies_15
    · refine z_icmp_gtf C 14 c2 d_M_lies_7 (by decide) ?_
      refine z_iconst C (1 : Int32) (by decide) d_M_lies_10 ?_
      refine z_goto C 15 d_M_lies_11 (by decide) ?_
      cases h
      exact z_iret C .boolean hret rfl ⟨Nat.zero_le _, Nat.zero_le _⟩ d_M_lies_15
def f_M_refuses (a1 : Int32) (S : zSt) : Option (Int32 × zSt) := zgd (0 ≤ (-a1) ∧ (-a1).toNatClampNeg < 7) (zgd (0 ≤ (-a1) ∧ (-a1).toNatClampNeg < 7) (some (a1, zwI (zwI S 72 0 a1) 73 (-a1).toNatClampNeg ((zI (zwI S 72 0 a1) 73 (-a1).toNatClampNeg) + (1 : Int32)))))
set_option maxRecDepth 100000 in
set_option maxHeartbeats 4000000 in
theorem m_M_refuses (l : Launch) {a1 : Int32} {S : zSt} {r : Int32} {S1 : zSt} (h : f_M_refuses a1 S = some (r, S1)) : zPM l y_M_refuses b_M_refuses 2 (some .int) rm_M_refuses true true [zr (some 72), zi a1] S (some (zi r)) S1 := by
  refine zPM_of (by decide) (Nat.le_of_ble_eq_true rfl) (fun p e s m args below meth c G C hret hname => ?_)
  unfold f_M_refuses at h
  refine (?_ : zJ p l e rm_M_refuses s m args below meth c G true 2 0 0 (zQm below G args s rm_M_refuses true (some (zi r)) S1) S 0 [(0, zr (some 72)), (1, zi a1)] [])
  refine z_aload_n C 0 rfl d_M_refuses_0 rfl ?_
  refine z_iload_n C 1 rfl d_M_refuses_1 rfl ?_
  refine z_putI C 11 (by decide) 0 (by decide) rfl (Or.inl rfl) zo_72 zk_72 zfl_11_3 (Or.inl rfl) d_M_refuses_2 ?_
  refine z_aload_n C 0 rfl d_M_refuses_5 rfl ?_
  refine z_getF2 C 11 (by decide) 1 (by decide) rfl 1 7 rfl (73) rfl zp_72 zk_72 zfl_11_7 d_M_refuses_6 ?_
  refine z_iload_n C 1 rfl d_M_refuses_9 rfl ?_
  refine z_ineg C d_M_refuses_10 ?_
  refine z_dup2 C rfl rfl d_M_refuses_11 ?_
  refine z_fact (fun hSR => ?_)
  obtain ⟨g1, h⟩ := zgd_some h
  refine z_ialoadS C zo_73 zk_73 (za_73 hSR) g1 d_M_refuses_12 ?_
  refine z_iconst C (1 : Int32) (by decide) d_M_refuses_13 ?_
  refine z_iadd C d_M_refuses_14 ?_
  refine z_fact (fun hSR => ?_)
  obtain ⟨g2, h⟩ := zgd_some h
  refine z_iastoreS C zo_73 zk_73 (za_73 hSR) g2 d_M_refuses_15 ?_
  refine z_iload_n C 1 rfl d_M_refuses_16 rfl ?_
  cases h
  exact z_iret C .int hret rfl ⟨Nat.zero_le _, Nat.zero_le _⟩ d_M_refuses_17
def f_M_good (a1 : Int32) (S : zSt) : Option (Int32 × zSt) := some (a1, zwI S 72 0 (0 : Int32))
set_option maxRecDepth 100000 in
set_option maxHeartbeats 4000000 in
theorem m_M_good (l : Launch) {a1 : Int32} {S : zSt} {r : Int32} {S1 : zSt} (h : f_M_good a1 S = some (r, S1)) : zPM l y_M_good b_M_good 2 (some .int) rm_M_good true true [zr (some 72), zi a1] S (some (zi r)) S1 := by
  refine zPM_of (by decide) (Nat.le_of_ble_eq_true rfl) (fun p e s m args below meth c G C hret hname => ?_)
  unfold f_M_good at h
  refine (?_ : zJ p l e rm_M_good s m args below meth c G true 2 0 0 (zQm below G args s rm_M_good true (some (zi r)) S1) S 0 [(0, zr (some 72)), (1, zi a1)] [])
  refine z_aload_n C 0 rfl d_M_good_0 rfl ?_
  refine z_iconst C (0 : Int32) (by decide) d_M_good_1 ?_
  refine z_putI C 11 (by decide) 0 (by decide) rfl (Or.inl rfl) zo_72 zk_72 zfl_11_3 (Or.inl rfl) d_M_good_2 ?_
  refine z_iload_n C 1 rfl d_M_good_5 rfl ?_
  cases h
  exact z_iret C .int hret rfl ⟨Nat.zero_le _, Nat.zero_le _⟩ d_M_good_6
def f_M_image_48 (fu : Nat) (a1 : Int32) (S : zSt) : Option (Int32 × zSt) := zgd (0 ≤ a1 ∧ a1.toNatClampNeg < 2) (zb2 (f_M_good (0 : Int32) (zwI S 76 a1.toNatClampNeg ((1 : Int32) &&& 1))) (fun r3 S4 => some (r3, S4)))
def f_M_image_17 (fu : Nat) : Nat → Int32 → Int32 → zSt → Option (Int32 × zSt)
  | 0, _, _, _ => none
  | n + 1, a1, a2, S => if (5807 : Int32) ≤ a2 then f_M_image_48 fu a1 S else zgd (0 ≤ a2 ∧ a2.toNatClampNeg < 5807) (zgd (0 ≤ (((5807 : Int32) * a1) + a2) ∧ (((5807 : Int32) * a1) + a2).toNatClampNeg < 11614) (f_M_image_17 fu n a1 (a2 + (1 : Int32)) (zwI S 75 (((5807 : Int32) * a1) + a2).toNatClampNeg (zI S 74 a2.toNatClampNeg))))
def f_M_image (fu : Nat) (a1 : Int32) (S : zSt) : Option (Int32 × zSt) := zb1 (f_M_lies a1 (0 : Int32) (1 : Int32)) (fun r2 => if r2 = 0 then zb2 (f_M_refuses (-1 : Int32) S) (fun r5 S6 => some (r5, S6)) else f_M_image_17 fu fu a1 (0 : Int32) S)
set_option maxRecDepth 100000 in
set_option maxHeartbeats 4000000 in
theorem c_M_image_48 {p : Program} {l : Launch} {e : Env} {s : State} {m : MethodId} {args : Array Value} {below : List Frame} {meth : Method} {c : Code} {G : zG} (C : zC p s m args meth c G b_M_image 3 y_M_image.cls) (hret : meth.sig.returnType = (some .int)) {fu : Nat} {r : Int32} {S1 : zSt} : ∀ (a1 : Int32) (S : zSt) , f_M_image_48 fu a1 S = some (r, S1) → zJ p l e rm_M_image s m args below meth c G true 3 0 0 (zQm below G args s rm_M_image true (some (zi r)) S1) S 48 [(0, zr (some 72)), (1, zi a1)] [] := by
  intro a1 S h
  unfold f_M_image_48 at h
  refine z_aload_n C 0 rfl d_M_image_48 rfl ?_
  refine z_getF2 C 11 (by decide) 4 (by decide) rfl 4 2 rfl (76) rfl zp_72 zk_72 zfl_11_30 d_M_image_49 ?_
  refine z_iload_n C 1 rfl d_M_image_52 rfl ?_
  refine z_iconst C (1 : Int32) (by decide) d_M_image_53 ?_
  refine z_fact (fun hSR => ?_)
  obtain ⟨g1, h⟩ := zgd_some h
  refine z_zastoreS C zo_76 zk_76 (za_76 hSR) g1 d_M_image_54 ?_
  refine z_aload_n C 0 rfl d_M_image_55 rfl ?_
  refine z_iconst C (0 : Int32) (by decide) d_M_image_56 ?_
  obtain ⟨r3, S4, h2, h⟩ := zb2_some h
  refine z_cV C 11 (by decide) (m_M_good l h2) mf_M_good lk_11_14 in_M_good se_M_good rfl zo_72 zk_72 ⟨rfl, rfl⟩ ⟨by decide, by decide⟩ ⟨Nat.zero_le _, Nat.zero_le _⟩ rfl _ [] rfl (Nat.le_of_ble_eq_true rfl) d_M_image_57 ?_
  cases h
  exact z_iret C .int hret rfl ⟨Nat.zero_le _, Nat.zero_le _⟩ d_M_image_60
set_option maxRecDepth 100000 in
set_option maxHeartbeats 4000000 in
theorem c_M_image_17 {p : Program} {l : Launch} {e : Env} {s : State} {m : MethodId} {args : Array Value} {below : List Frame} {meth : Method} {c : Code} {G : zG} (C : zC p s m args meth c G b_M_image 3 y_M_image.cls) (hret : meth.sig.returnType = (some .int)) {fu : Nat} {r : Int32} {S1 : zSt} : ∀ (n : Nat) (a1 : Int32) (a2 : Int32) (S : zSt) , f_M_image_17 fu n a1 a2 S = some (r, S1) → zJ p l e rm_M_image s m args below meth c G true 3 0 0 (zQm below G args s rm_M_image true (some (zi r)) S1) S 17 [(0, zr (some 72)), (1, zi a1), (2, zi a2)] [] := by
  intro n
  induction n with
  | zero =>
    intro a1 a2 S h
    cases h
  | succ n ih =>
    intro a1 a2 S h
    rw [f_M_image_17] at h
    refine z_iload_n C 2 rfl d_M_image_17 rfl ?_
    refine z_sipush C (5807 : Int32) (by decide) d_M_image_18 ?_
    rcases zite h with ⟨c1, h⟩ | ⟨c1, h⟩
    · refine z_icmp_get C 48 c1 d_M_image_21 (by decide) ?_
      refine zq_lsub [0, 1] [(0, zr (some 72)), (1, zi a1)] rfl ?_
      exact c_M_image_48 C hret  a1 S h
    · refine z_icmp_gef C 48 c1 d_M_image_21 (by decide) ?_
      refine z_aload_n C 0 rfl d_M_image_24 rfl ?_
      refine z_getF2 C 11 (by decide) 3 (by decide) rfl 3 11614 rfl (75) rfl zp_72 zk_72 zfl_11_27 d_M_image_25 ?_
      refine z_sipush C (5807 : Int32) (by decide) d_M_image_28 ?_
      refine z_iload_n C 1 rfl d_M_image_31 rfl ?_
      refine z_imul C d_M_image_32 ?_
      refine z_iload_n C 2 rfl d_M_image_33 rfl ?_
      refine z_iadd C d_M_image_34 ?_
      refine z_aload_n C 0 rfl d_M_image_35 rfl ?_
      refine z_getF2 C 11 (by decide) 2 (by decide) rfl 2 5807 rfl (74) rfl zp_72 zk_72 zfl_11_24 d_M_image_36 ?_
      refine z_iload_n C 2 rfl d_M_image_39 rfl ?_
      refine z_fact (fun hSR => ?_)
      obtain ⟨g2, h⟩ := zgd_some h
      refine z_ialoadS C zo_74 zk_74 (za_74 hSR) g2 d_M_image_40 ?_
      refine z_fact (fun hSR => ?_)
      obtain ⟨g3, h⟩ := zgd_some h
      refine z_iastoreS C zo_75 zk_75 (za_75 hSR) g3 d_M_image_41 ?_
      refine z_iinc C 2 (a2 + (1 : Int32)) [(2, zi (a2 + (1 : Int32))), (0, zr (some 72)), (1, zi a1)] rfl d_M_image_42 (by first | rfl | decide) (by decide) rfl ?_
      refine z_goto C 17 d_M_image_45 (by decide) ?_
      refine zq_lsub [1, 2, 0] [(0, zr (some 72)), (1, zi a1), (2, zi (a2 + (1 : Int32)))] rfl ?_
      exact ih a1 (a2 + (1 : Int32)) (zwI S 75 (((5807 : Int32) * a1) + a2).toNatClampNeg (zI S 74 a2.toNatClampNeg)) h
set_option maxRecDepth 100000 in
set_option maxHeartbeats 4000000 in
theorem m_M_image (l : Launch) {fu : Nat} {a1 : Int32} {S : zSt} {r : Int32} {S1 : zSt} (h : f_M_image fu a1 S = some (r, S1)) : zPM l y_M_image b_M_image 3 (some .int) rm_M_image true true [zr (some 72), zi a1] S (some (zi r)) S1 := by
  refine zPM_of (by decide) (Nat.le_of_ble_eq_true rfl) (fun p e s m args below meth c G C hret hname => ?_)
  unfold f_M_image at h
  refine (?_ : zJ p l e rm_M_image s m args below meth c G true 3 0 0 (zQm below G args s rm_M_image true (some (zi r)) S1) S 0 [(0, zr (some 72)), (1, zi a1)] [])
  refine z_iload_n C 1 rfl d_M_image_0 rfl ?_
  refine z_iconst C (0 : Int32) (by decide) d_M_image_1 ?_
  refine z_iconst C (1 : Int32) (by decide) d_M_image_2 ?_
  obtain ⟨r2, h1, h⟩ := zb1_some h
  refine z_cS C (m_M_lies l h1) mf_M_lies lk_11_108 st_M_lies ⟨rfl, rfl⟩ ⟨by decide, by decide⟩ ⟨Nat.zero_le _, Nat.zero_le _⟩ rfl _ [] rfl (Nat.le_of_ble_eq_true rfl) d_M_image_3 ?_
  rcases zite h with ⟨c3, h⟩ | ⟨c3, h⟩
  · refine z_if_nef C 15 c3 d_M_image_6 (by decide) ?_
    refine z_aload_n C 0 rfl d_M_image_9 rfl ?_
    refine z_iconst C (-1 : Int32) (by decide) d_M_image_10 ?_
    obtain ⟨r5, S6, h4, h⟩ := zb2_some h
    refine z_cV C 11 (by decide) (m_M_refuses l h4) mf_M_refuses lk_11_112 in_M_refuses se_M_refuses rfl zo_72 zk_72 ⟨rfl, rfl⟩ ⟨by decide, by decide⟩ ⟨Nat.zero_le _, Nat.zero_le _⟩ rfl _ [] rfl (Nat.le_of_ble_eq_true rfl) d_M_image_11 ?_
    cases h
    exact z_iret C .int hret rfl ⟨Nat.zero_le _, Nat.zero_le _⟩ d_M_image_14
  · refine z_if_net C 15 c3 d_M_image_6 (by decide) ?_
    refine z_iconst C (0 : Int32) (by decide) d_M_image_15 ?_
    refine z_istore_n C [(2, zi (0 : Int32)), (0, zr (some 72)), (1, zi a1)] d_M_image_16 rfl (by decide) rfl ?_
    refine zq_lsub [1, 2, 0] [(0, zr (some 72)), (1, zi a1), (2, zi (0 : Int32))] rfl ?_
    exact c_M_image_17 C hret fu  a1 (0 : Int32) S h
def f_M_settled (a1 : Int32) (S : zSt) : Option (Int32 × zSt) := zb2 (f_M_good a1 (zwI S 72 32 (0 : Int32))) (fun r2 S3 => some (r2, S3))
set_option maxRecDepth 100000 in
set_option maxHeartbeats 4000000 in
theorem m_M_settled (l : Launch) {a1 : Int32} {S : zSt} {r : Int32} {S1 : zSt} (h : f_M_settled a1 S = some (r, S1)) : zPM l y_M_settled b_M_settled 2 (some .int) rm_M_settled true true [zr (some 72), zi a1] S (some (zi r)) S1 := by
  refine zPM_of (by decide) (Nat.le_of_ble_eq_true rfl) (fun p e s m args below meth c G C hret hname => ?_)
  unfold f_M_settled at h
  refine (?_ : zJ p l e rm_M_settled s m args below meth c G true 2 0 0 (zQm below G args s rm_M_settled true (some (zi r)) S1) S 0 [(0, zr (some 72)), (1, zi a1)] [])
  refine z_aload_n C 0 rfl d_M_settled_0 rfl ?_
  refine z_iconst C (0 : Int32) (by decide) d_M_settled_1 ?_
  refine z_putI C 11 (by decide) 32 (by decide) rfl (Or.inl rfl) zo_72 zk_72 zfl_11_11 (Or.inl rfl) d_M_settled_2 ?_
  refine z_aload_n C 0 rfl d_M_settled_5 rfl ?_
  refine z_iload_n C 1 rfl d_M_settled_6 rfl ?_
  obtain ⟨r2, S3, h1, h⟩ := zb2_some h
  refine z_cV C 11 (by decide) (m_M_good l h1) mf_M_good lk_11_14 in_M_good se_M_good rfl zo_72 zk_72 ⟨rfl, rfl⟩ ⟨by decide, by decide⟩ ⟨Nat.zero_le _, Nat.zero_le _⟩ rfl _ [] rfl (Nat.le_of_ble_eq_true rfl) d_M_settled_7 ?_
  cases h
  exact z_iret C .int hret rfl ⟨Nat.zero_le _, Nat.zero_le _⟩ d_M_settled_10
def f_M_back_33 (fu : Nat) : Nat → Int32 → Int32 → zSt → Option (Int32 × zSt)
  | 0, _, _, _ => none
  | n + 1, a1, a2, S => if (5807 : Int32) ≤ a2 then zb2 (f_M_settled (0 : Int32) S) (fun r3 S4 => some (r3, S4)) else zgd (0 ≤ (((5807 : Int32) * a1) + a2) ∧ (((5807 : Int32) * a1) + a2).toNatClampNeg < 11614) (zgd (0 ≤ a2 ∧ a2.toNatClampNeg < 5807) (f_M_back_33 fu n a1 (a2 + (1 : Int32)) (zwI S 74 a2.toNatClampNeg (zI S 75 (((5807 : Int32) * a1) + a2).toNatClampNeg))))
def f_M_back (fu : Nat) (a1 : Int32) (S : zSt) : Option (Int32 × zSt) := zb1 (f_M_lies a1 (0 : Int32) (1 : Int32)) (fun r2 => if r2 = 0 then zb2 (f_M_refuses (-1 : Int32) S) (fun r10 S11 => some (r10, S11)) else zgd (0 ≤ a1 ∧ a1.toNatClampNeg < 2) (if (zI S 76 a1.toNatClampNeg) = 0 then zb2 (f_M_refuses (-2 : Int32) S) (fun r7 S8 => some (r7, S8)) else f_M_back_33 fu fu a1 (0 : Int32) S))
set_option maxRecDepth 100000 in
set_option maxHeartbeats 4000000 in
theorem c_M_back_33 {p : Program} {l : Launch} {e : Env} {s : State} {m : MethodId} {args : Array Value} {below : List Frame} {meth : Method} {c : Code} {G : zG} (C : zC p s m args meth c G b_M_back 3 y_M_back.cls) (hret : meth.sig.returnType = (some .int)) {fu : Nat} {r : Int32} {S1 : zSt} : ∀ (n : Nat) (a1 : Int32) (a2 : Int32) (S : zSt) , f_M_back_33 fu n a1 a2 S = some (r, S1) → zJ p l e rm_M_back s m args below meth c G true 3 0 0 (zQm below G args s rm_M_back true (some (zi r)) S1) S 33 [(0, zr (some 72)), (1, zi a1), (2, zi a2)] [] := by
  intro n
  induction n with
  | zero =>
    intro a1 a2 S h
    cases h
  | succ n ih =>
    intro a1 a2 S h
    rw [f_M_back_33] at h
    refine z_iload_n C 2 rfl d_M_back_33 rfl ?_
    refine z_sipush C (5807 : Int32) (by decide) d_M_back_34 ?_
    rcases zite h with ⟨c1, h⟩ | ⟨c1, h⟩
    · refine z_icmp_get C 64 c1 d_M_back_37 (by decide) ?_
      refine z_aload_n C 0 rfl d_M_back_64 rfl ?_
      refine z_iconst C (0 : Int32) (by decide) d_M_back_65 ?_
      obtain ⟨r3, S4, h2, h⟩ := zb2_some h
      refine z_cV C 11 (by decide) (m_M_settled l h2) mf_M_settled lk_11_115 in_M_settled se_M_settled rfl zo_72 zk_72 ⟨rfl, rfl⟩ ⟨by decide, by decide⟩ ⟨Nat.zero_le _, Nat.zero_le _⟩ rfl _ [] rfl (Nat.le_of_ble_eq_true rfl) d_M_back_66 ?_
      cases h
      exact z_iret C .int hret rfl ⟨Nat.zero_le _, Nat.zero_le _⟩ d_M_back_69
    · refine z_icmp_gef C 64 c1 d_M_back_37 (by decide) ?_
      refine z_aload_n C 0 rfl d_M_back_40 rfl ?_
      refine z_getF2 C 11 (by decide) 2 (by decide) rfl 2 5807 rfl (74) rfl zp_72 zk_72 zfl_11_24 d_M_back_41 ?_
      refine z_iload_n C 2 rfl d_M_back_44 rfl ?_
      refine z_aload_n C 0 rfl d_M_back_45 rfl ?_
      refine z_getF2 C 11 (by decide) 3 (by decide) rfl 3 11614 rfl (75) rfl zp_72 zk_72 zfl_11_27 d_M_back_46 ?_
      refine z_sipush C (5807 : Int32) (by decide) d_M_back_49 ?_
      refine z_iload_n C 1 rfl d_M_back_52 rfl ?_
      refine z_imul C d_M_back_53 ?_
      refine z_iload_n C 2 rfl d_M_back_54 rfl ?_
      refine z_iadd C d_M_back_55 ?_
      refine z_fact (fun hSR => ?_)
      obtain ⟨g5, h⟩ := zgd_some h
      refine z_ialoadS C zo_75 zk_75 (za_75 hSR) g5 d_M_back_56 ?_
      refine z_fact (fun hSR => ?_)
      obtain ⟨g6, h⟩ := zgd_some h
      refine z_iastoreS C zo_74 zk_74 (za_74 hSR) g6 d_M_back_57 ?_
      refine z_iinc C 2 (a2 + (1 : Int32)) [(2, zi (a2 + (1 : Int32))), (0, zr (some 72)), (1, zi a1)] rfl d_M_back_58 (by first | rfl | decide) (by decide) rfl ?_
      refine z_goto C 33 d_M_back_61 (by decide) ?_
      refine zq_lsub [1, 2, 0] [(0, zr (some 72)), (1, zi a1), (2, zi (a2 + (1 : Int32)))] rfl ?_
      exact ih a1 (a2 + (1 : Int32)) (zwI S 74 a2.toNatClampNeg (zI S 75 (((5807 : Int32) * a1) + a2).toNatClampNeg)) h
set_option maxRecDepth 100000 in
set_option maxHeartbeats 4000000 in
theorem m_M_back (l : Launch) {fu : Nat} {a1 : Int32} {S : zSt} {r : Int32} {S1 : zSt} (h : f_M_back fu a1 S = some (r, S1)) : zPM l y_M_back b_M_back 3 (some .int) rm_M_back true true [zr (some 72), zi a1] S (some (zi r)) S1 := by
  refine zPM_of (by decide) (Nat.le_of_ble_eq_true rfl) (fun p e s m args below meth c G C hret hname => ?_)
  unfold f_M_back at h
  refine (?_ : zJ p l e rm_M_back s m args below meth c G true 3 0 0 (zQm below G args s rm_M_back true (some (zi r)) S1) S 0 [(0, zr (some 72)), (1, zi a1)] [])
  refine z_iload_n C 1 rfl d_M_back_0 rfl ?_
  refine z_iconst C (0 : Int32) (by decide) d_M_back_1 ?_
  refine z_iconst C (1 : Int32) (by decide) d_M_back_2 ?_
  obtain ⟨r2, h1, h⟩ := zb1_some h
  refine z_cS C (m_M_lies l h1) mf_M_lies lk_11_108 st_M_lies ⟨rfl, rfl⟩ ⟨by decide, by decide⟩ ⟨Nat.zero_le _, Nat.zero_le _⟩ rfl _ [] rfl (Nat.le_of_ble_eq_true rfl) d_M_back_3 ?_
  rcases zite h with ⟨c3, h⟩ | ⟨c3, h⟩
  · refine z_if_nef C 15 c3 d_M_back_6 (by decide) ?_
    refine z_aload_n C 0 rfl d_M_back_9 rfl ?_
    refine z_iconst C (-1 : Int32) (by decide) d_M_back_10 ?_
    obtain ⟨r10, S11, h9, h⟩ := zb2_some h
    refine z_cV C 11 (by decide) (m_M_refuses l h9) mf_M_refuses lk_11_112 in_M_refuses se_M_refuses rfl zo_72 zk_72 ⟨rfl, rfl⟩ ⟨by decide, by decide⟩ ⟨Nat.zero_le _, Nat.zero_le _⟩ rfl _ [] rfl (Nat.le_of_ble_eq_true rfl) d_M_back_11 ?_
    cases h
    exact z_iret C .int hret rfl ⟨Nat.zero_le _, Nat.zero_le _⟩ d_M_back_14
  · refine z_if_net C 15 c3 d_M_back_6 (by decide) ?_
    refine z_aload_n C 0 rfl d_M_back_15 rfl ?_
    refine z_getF2 C 11 (by decide) 4 (by decide) rfl 4 2 rfl (76) rfl zp_72 zk_72 zfl_11_30 d_M_back_16 ?_
    refine z_iload_n C 1 rfl d_M_back_19 rfl ?_
    refine z_fact (fun hSR => ?_)
    obtain ⟨g4, h⟩ := zgd_some h
    refine z_zaloadS C zo_76 zk_76 (za_76 hSR) g4 d_M_back_20 ?_
    rcases zite h with ⟨c5, h⟩ | ⟨c5, h⟩
    · refine z_if_nef C 31 c5 d_M_back_21 (by decide) ?_
      refine z_aload_n C 0 rfl d_M_back_24 rfl ?_
      refine z_bipush C (-2 : Int32) (by decide) d_M_back_25 ?_
      obtain ⟨r7, S8, h6, h⟩ := zb2_some h
      refine z_cV C 11 (by decide) (m_M_refuses l h6) mf_M_refuses lk_11_112 in_M_refuses se_M_refuses rfl zo_72 zk_72 ⟨rfl, rfl⟩ ⟨by decide, by decide⟩ ⟨Nat.zero_le _, Nat.zero_le _⟩ rfl _ [] rfl (Nat.le_of_ble_eq_true rfl) d_M_back_27 ?_
      cases h
      exact z_iret C .int hret rfl ⟨Nat.zero_le _, Nat.zero_le _⟩ d_M_back_30
    · refine z_if_net C 31 c5 d_M_back_21 (by decide) ?_
      refine z_iconst C (0 : Int32) (by decide) d_M_back_31 ?_
      refine z_istore_n C [(2, zi (0 : Int32)), (0, zr (some 72)), (1, zi a1)] d_M_back_32 rfl (by decide) rfl ?_
      refine zq_lsub [1, 2, 0] [(0, zr (some 72)), (1, zi a1), (2, zi (0 : Int32))] rfl ?_
      exact c_M_back_33 C hret fu  a1 (0 : Int32) S h
def f_M_springMany (S : zSt) : Option Int32 := some (zI S 74 (196 : Int32).toNatClampNeg)
set_option maxRecDepth 100000 in
set_option maxHeartbeats 4000000 in
theorem m_M_springMany (l : Launch) {S : zSt} {r : Int32} (h : f_M_springMany  S = some r) : zPM l y_M_springMany b_M_springMany 1 (some .int) rm_M_springMany true true [zr (some 72)] S (some (zi r)) S := by
  refine zPM_of (by decide) (Nat.le_of_ble_eq_true rfl) (fun p e s m args below meth c G C hret hname => ?_)
  unfold f_M_springMany at h
  refine (?_ : zJ p l e rm_M_springMany s m args below meth c G true 1 0 0 (zQm below G args s rm_M_springMany true (some (zi r)) S) S 0 [(0, zr (some 72))] [])
  refine z_aload_n C 0 rfl d_M_springMany_0 rfl ?_
  refine z_getF2 C 11 (by decide) 2 (by decide) rfl 2 5807 rfl (74) rfl zp_72 zk_72 zfl_11_24 d_M_springMany_1 ?_
  refine z_sipush C (196 : Int32) (by decide) d_M_springMany_4 ?_
  refine z_fact (fun hSR => ?_)
  refine z_ialoadS C zo_74 zk_74 (za_74 hSR) (by decide) d_M_springMany_7 ?_
  cases h
  exact z_iret C .int hret rfl ⟨Nat.zero_le _, Nat.zero_le _⟩ d_M_springMany_8
def f_M_spring (a1 : Int32) (a2 : Int32) (S : zSt) : Option (Int32 × zSt) := zb1 (f_M_lies a1 (0 : Int32) (9 : Int32)) (fun r2 => if r2 = 0 then zb2 (f_M_refuses (-1 : Int32) S) (fun r5 S6 => some (r5, S6)) else zb1 (f_M_lies a2 (0 : Int32) (9 : Int32)) (fun r8 => if r8 = 0 then zb2 (f_M_refuses (-1 : Int32) S) (fun r22 S23 => some (r22, S23)) else zb1 (f_M_springMany S) (fun r11 => if r11 = (9 : Int32) then zb2 (f_M_refuses (-5 : Int32) S) (fun r19 S20 => some (r19, S20)) else zgd (0 ≤ ((92 : Int32) + r11) ∧ ((92 : Int32) + r11).toNatClampNeg < 5807) (zgd (0 ≤ ((1 : Int32) + r11) ∧ ((1 : Int32) + r11).toNatClampNeg < 5807) (zb2 (f_M_settled r11 (zwI (zwI (zwI S 74 ((92 : Int32) + r11).toNatClampNeg a1) 74 ((1 : Int32) + r11).toNatClampNeg a2) 74 (196 : Int32).toNatClampNeg ((zI (zwI (zwI S 74 ((92 : Int32) + r11).toNatClampNeg a1) 74 ((1 : Int32) + r11).toNatClampNeg a2) 74 (196 : Int32).toNatClampNeg) + (1 : Int32)))) (fun r16 S17 => some (r16, S17)))))))
set_option maxRecDepth 100000 in
set_option maxHeartbeats 4000000 in
theorem m_M_spring (l : Launch) {a1 : Int32} {a2 : Int32} {S : zSt} {r : Int32} {S1 : zSt} (h : f_M_spring a1 a2 S = some (r, S1)) : zPM l y_M_spring b_M_spring 4 (some .int) rm_M_spring true true [zr (some 72), zi a1, zi a2] S (some (zi r)) S1 := by
  refine zPM_of (by decide) (Nat.le_of_ble_eq_true rfl) (fun p e s m args below meth c G C hret hname => ?_)
  unfold f_M_spring at h
  refine (?_ : zJ p l e rm_M_spring s m args below meth c G true 4 0 0 (zQm below G args s rm_M_spring true (some (zi r)) S1) S 0 [(0, zr (some 72)), (1, zi a1), (2, zi a2)] [])
  refine z_iload_n C 1 rfl d_M_spring_0 rfl ?_
  refine z_iconst C (0 : Int32) (by decide) d_M_spring_1 ?_
  refine z_bipush C (9 : Int32) (by decide) d_M_spring_2 ?_
  obtain ⟨r2, h1, h⟩ := zb1_some h
  refine z_cS C (m_M_lies l h1) mf_M_lies lk_11_108 st_M_lies ⟨rfl, rfl⟩ ⟨by decide, by decide⟩ ⟨Nat.zero_le _, Nat.zero_le _⟩ rfl _ [] rfl (Nat.le_of_ble_eq_true rfl) d_M_spring_4 ?_
  rcases zite h with ⟨c3, h⟩ | ⟨c3, h⟩
  · refine z_if_eqt C 20 c3 d_M_spring_7 (by decide) ?_
    refine z_aload_n C 0 rfl d_M_spring_20 rfl ?_
    refine z_iconst C (-1 : Int32) (by decide) d_M_spring_21 ?_
    obtain ⟨r5, S6, h4, h⟩ := zb2_some h
    refine z_cV C 11 (by decide) (m_M_refuses l h4) mf_M_refuses lk_11_112 in_M_refuses se_M_refuses rfl zo_72 zk_72 ⟨rfl, rfl⟩ ⟨by decide, by decide⟩ ⟨Nat.zero_le _, Nat.zero_le _⟩ rfl _ [] rfl (Nat.le_of_ble_eq_true rfl) d_M_spring_22 ?_
    cases h
    exact z_iret C .int hret rfl ⟨Nat.zero_le _, Nat.zero_le _⟩ d_M_spring_25
  · refine z_if_eqf C 20 c3 d_M_spring_7 (by decide) ?_
    refine z_iload_n C 2 rfl d_M_spring_10 rfl ?_
    refine z_iconst C (0 : Int32) (by decide) d_M_spring_11 ?_
    refine z_bipush C (9 : Int32) (by decide) d_M_spring_12 ?_
    obtain ⟨r8, h7, h⟩ := zb1_some h
    refine z_cS C (m_M_lies l h7) mf_M_lies lk_11_108 st_M_lies ⟨rfl, rfl⟩ ⟨by decide, by decide⟩ ⟨Nat.zero_le _, Nat.zero_le _⟩ rfl _ [] rfl (Nat.le_of_ble_eq_true rfl) d_M_spring_14 ?_
    rcases zite h with ⟨c9, h⟩ | ⟨c9, h⟩
    · refine z_if_nef C 26 c9 d_M_spring_17 (by decide) ?_
      refine z_aload_n C 0 rfl d_M_spring_20 rfl ?_
      refine z_iconst C (-1 : Int32) (by decide) d_M_spring_21 ?_
      obtain ⟨r22, S23, h21, h⟩ := zb2_some h
      refine z_cV C 11 (by decide) (m_M_refuses l h21) mf_M_refuses lk_11_112 in_M_refuses se_M_refuses rfl zo_72 zk_72 ⟨rfl, rfl⟩ ⟨by decide, by decide⟩ ⟨Nat.zero_le _, Nat.zero_le _⟩ rfl _ [] rfl (Nat.le_of_ble_eq_true rfl) d_M_spring_22 ?_
      cases h
      exact z_iret C .int hret rfl ⟨Nat.zero_le _, Nat.zero_le _⟩ d_M_spring_25
    · refine z_if_net C 26 c9 d_M_spring_17 (by decide) ?_
      refine z_aload_n C 0 rfl d_M_spring_26 rfl ?_
      obtain ⟨r11, h10, h⟩ := zb1_some h
      refine z_cV C 11 (by decide) (m_M_springMany l h10) mf_M_springMany lk_11_118 in_M_springMany se_M_springMany rfl zo_72 zk_72 ⟨rfl, rfl⟩ ⟨by decide, by decide⟩ ⟨Nat.zero_le _, Nat.zero_le _⟩ rfl _ [] rfl (Nat.le_of_ble_eq_true rfl) d_M_spring_27 ?_
      refine z_istore_n C [(3, zi r11), (0, zr (some 72)), (1, zi a1), (2, zi a2)] d_M_spring_30 rfl (by decide) rfl ?_
      refine z_iload_n C 0 rfl d_M_spring_31 rfl ?_
      refine z_bipush C (9 : Int32) (by decide) d_M_spring_32 ?_
      rcases zite h with ⟨c12, h⟩ | ⟨c12, h⟩
      · refine z_icmp_nef C 44 c12 d_M_spring_34 (by decide) ?_
        refine z_aload_n C 1 rfl d_M_spring_37 rfl ?_
        refine z_bipush C (-5 : Int32) (by decide) d_M_spring_38 ?_
        obtain ⟨r19, S20, h18, h⟩ := zb2_some h
        refine z_cV C 11 (by decide) (m_M_refuses l h18) mf_M_refuses lk_11_112 in_M_refuses se_M_refuses rfl zo_72 zk_72 ⟨rfl, rfl⟩ ⟨by decide, by decide⟩ ⟨Nat.zero_le _, Nat.zero_le _⟩ rfl _ [] rfl (Nat.le_of_ble_eq_true rfl) d_M_spring_40 ?_
        cases h
        exact z_iret C .int hret rfl ⟨Nat.zero_le _, Nat.zero_le _⟩ d_M_spring_43
      · refine z_icmp_net C 44 c12 d_M_spring_34 (by decide) ?_
        refine z_aload_n C 1 rfl d_M_spring_44 rfl ?_
        refine z_getF2 C 11 (by decide) 2 (by decide) rfl 2 5807 rfl (74) rfl zp_72 zk_72 zfl_11_24 d_M_spring_45 ?_
        refine z_bipush C (92 : Int32) (by decide) d_M_spring_48 ?_
        refine z_iload_n C 0 rfl d_M_spring_50 rfl ?_
        refine z_iadd C d_M_spring_51 ?_
        refine z_iload_n C 2 rfl d_M_spring_52 rfl ?_
        refine z_fact (fun hSR => ?_)
        obtain ⟨g13, h⟩ := zgd_some h
        refine z_iastoreS C zo_74 zk_74 (za_74 hSR) g13 d_M_spring_53 ?_
        refine z_aload_n C 1 rfl d_M_spring_54 rfl ?_
        refine z_getF2 C 11 (by decide) 2 (by decide) rfl 2 5807 rfl (74) rfl zp_72 zk_72 zfl_11_24 d_M_spring_55 ?_
        refine z_iconst C (1 : Int32) (by decide) d_M_spring_58 ?_
        refine z_iload_n C 0 rfl d_M_spring_59 rfl ?_
        refine z_iadd C d_M_spring_60 ?_
        refine z_iload_n C 3 rfl d_M_spring_61 rfl ?_
        refine z_fact (fun hSR => ?_)
        obtain ⟨g14, h⟩ := zgd_some h
        refine z_iastoreS C zo_74 zk_74 (za_74 hSR) g14 d_M_spring_62 ?_
        refine z_aload_n C 1 rfl d_M_spring_63 rfl ?_
        refine z_getF2 C 11 (by decide) 2 (by decide) rfl 2 5807 rfl (74) rfl zp_72 zk_72 zfl_11_24 d_M_spring_64 ?_
        refine z_sipush C (196 : Int32) (by decide) d_M_spring_67 ?_
        refine z_dup2 C rfl rfl d_M_spring_70 ?_
        refine z_fact (fun hSR => ?_)
        refine z_ialoadS C zo_74 zk_74 (za_74 hSR) (by decide) d_M_spring_71 ?_
        refine z_iconst C (1 : Int32) (by decide) d_M_spring_72 ?_
        refine z_iadd C d_M_spring_73 ?_
        refine z_fact (fun hSR => ?_)
        refine z_iastoreS C zo_74 zk_74 (za_74 hSR) (by decide) d_M_spring_74 ?_
        refine z_aload_n C 1 rfl d_M_spring_75 rfl ?_
        refine z_iload_n C 0 rfl d_M_spring_76 rfl ?_
        obtain ⟨r16, S17, h15, h⟩ := zb2_some h
        refine z_cV C 11 (by decide) (m_M_settled l h15) mf_M_settled lk_11_115 in_M_settled se_M_settled rfl zo_72 zk_72 ⟨rfl, rfl⟩ ⟨by decide, by decide⟩ ⟨Nat.zero_le _, Nat.zero_le _⟩ rfl _ [] rfl (Nat.le_of_ble_eq_true rfl) d_M_spring_77 ?_
        cases h
        exact z_iret C .int hret rfl ⟨Nat.zero_le _, Nat.zero_le _⟩ d_M_spring_80
def f_M_isSpring (a1 : Int32) (S : zSt) : Option Int32 := zb1 (f_M_springMany S) (fun r2 => zb1 (f_M_lies a1 (0 : Int32) (r2 - (1 : Int32))) (fun r4 => zgd (r4 = 0 ∨ r4 = 1) (some r4)))
set_option maxRecDepth 100000 in
set_option maxHeartbeats 4000000 in
theorem m_M_isSpring (l : Launch) {a1 : Int32} {S : zSt} {r : Int32} (h : f_M_isSpring a1 S = some r) : zPM l y_M_isSpring b_M_isSpring 2 (some .boolean) rm_M_isSpring true true [zr (some 72), zi a1] S (some (zi r)) S := by
  refine zPM_of (by decide) (Nat.le_of_ble_eq_true rfl) (fun p e s m args below meth c G C hret hname => ?_)
  unfold f_M_isSpring at h
  refine (?_ : zJ p l e rm_M_isSpring s m args below meth c G true 2 0 0 (zQm below G args s rm_M_isSpring true (some (zi r)) S) S 0 [(0, zr (some 72)), (1, zi a1)] [])
  refine z_iload_n C 1 rfl d_M_isSpring_0 rfl ?_
  refine z_iconst C (0 : Int32) (by decide) d_M_isSpring_1 ?_
  refine z_aload_n C 0 rfl d_M_isSpring_2 rfl ?_
  obtain ⟨r2, h1, h⟩ := zb1_some h
  refine z_cV C 11 (by decide) (m_M_springMany l h1) mf_M_springMany lk_11_118 in_M_springMany se_M_springMany rfl zo_72 zk_72 ⟨rfl, rfl⟩ ⟨by decide, by decide⟩ ⟨Nat.zero_le _, Nat.zero_le _⟩ rfl _ [zi (0 : Int32), zi a1] rfl (Nat.le_of_ble_eq_true rfl) d_M_isSpring_3 ?_
  refine z_iconst C (1 : Int32) (by decide) d_M_isSpring_6 ?_
  refine z_isub C d_M_isSpring_7 ?_
  obtain ⟨r4, h3, h⟩ := zb1_some h
  refine z_cS C (m_M_lies l h3) mf_M_lies lk_11_108 st_M_lies ⟨rfl, rfl⟩ ⟨by decide, by decide⟩ ⟨Nat.zero_le _, Nat.zero_le _⟩ rfl _ [] rfl (Nat.le_of_ble_eq_true rfl) d_M_isSpring_8 ?_
  obtain ⟨g5, h⟩ := zgd_some h
  cases h
  exact z_iret C .boolean hret (by rcases g5 with e | e <;> rw [e] <;> rfl) ⟨Nat.zero_le _, Nat.zero_le _⟩ d_M_isSpring_11
def f_M_areTwo (a1 : Int32) (a2 : Int32) (S : zSt) : Option Int32 := zb1 (f_M_isSpring a1 S) (fun r2 => if r2 = 0 then some (0 : Int32) else zb1 (f_M_isSpring a2 S) (fun r5 => if r5 = 0 then some (0 : Int32) else if a1 = a2 then some (0 : Int32) else some (1 : Int32)))
set_option maxRecDepth 100000 in
set_option maxHeartbeats 4000000 in
theorem m_M_areTwo (l : Launch) {a1 : Int32} {a2 : Int32} {S : zSt} {r : Int32} (h : f_M_areTwo a1 a2 S = some r) : zPM l y_M_areTwo b_M_areTwo 3 (some .boolean) rm_M_areTwo true true [zr (some 72), zi a1, zi a2] S (some (zi r)) S := by
  refine zPM_of (by decide) (Nat.le_of_ble_eq_true rfl) (fun p e s m args below meth c G C hret hname => ?_)
  unfold f_M_areTwo at h
  refine (?_ : zJ p l e rm_M_areTwo s m args below meth c G true 3 0 0 (zQm below G args s rm_M_areTwo true (some (zi r)) S) S 0 [(0, zr (some 72)), (1, zi a1), (2, zi a2)] [])
  refine z_aload_n C 0 rfl d_M_areTwo_0 rfl ?_
  refine z_iload_n C 1 rfl d_M_areTwo_1 rfl ?_
  obtain ⟨r2, h1, h⟩ := zb1_some h
  refine z_cV C 11 (by decide) (m_M_isSpring l h1) mf_M_isSpring lk_11_122 in_M_isSpring se_M_isSpring rfl zo_72 zk_72 ⟨rfl, rfl⟩ ⟨by decide, by decide⟩ ⟨Nat.zero_le _, Nat.zero_le _⟩ rfl _ [] rfl (Nat.le_of_ble_eq_true rfl) d_M_areTwo_2 ?_
  rcases zite h with ⟨c3, h⟩ | ⟨c3, h⟩
  · refine z_if_eqt C 25 c3 d_M_areTwo_5 (by decide) ?_
    refine z_iconst C (0 : Int32) (by decide) d_M_areTwo_25 ?_
    cases h
    exact z_iret C .boolean hret rfl ⟨Nat.zero_le _, Nat.zero_le _⟩ d_M_areTwo_26
  · refine z_if_eqf C 25 c3 d_M_areTwo_5 (by decide) ?_
    refine z_aload_n C 0 rfl d_M_areTwo_8 rfl ?_
    refine z_iload_n C 2 rfl d_M_areTwo_9 rfl ?_
    obtain ⟨r5, h4, h⟩ := zb1_some h
    refine z_cV C 11 (by decide) (m_M_isSpring l h4) mf_M_isSpring lk_11_122 in_M_isSpring se_M_isSpring rfl zo_72 zk_72 ⟨rfl, rfl⟩ ⟨by decide, by decide⟩ ⟨Nat.zero_le _, Nat.zero_le _⟩ rfl _ [] rfl (Nat.le_of_ble_eq_true rfl) d_M_areTwo_10 ?_
    rcases zite h with ⟨c6, h⟩ | ⟨c6, h⟩
    · refine z_if_eqt C 25 c6 d_M_areTwo_13 (by decide) ?_
      refine z_iconst C (0 : Int32) (by decide) d_M_areTwo_25 ?_
      cases h
      exact z_iret C .boolean hret rfl ⟨Nat.zero_le _, Nat.zero_le _⟩ d_M_areTwo_26
    · refine z_if_eqf C 25 c6 d_M_areTwo_13 (by decide) ?_
      refine z_iload_n C 1 rfl d_M_areTwo_16 rfl ?_
      refine z_iload_n C 2 rfl d_M_areTwo_17 rfl ?_
      rcases zite h with ⟨c7, h⟩ | ⟨c7, h⟩
      · refine z_icmp_eqt C 25 c7 d_M_areTwo_18 (by decide) ?_
        refine z_iconst C (0 : Int32) (by decide) d_M_areTwo_25 ?_
        cases h
        exact z_iret C .boolean hret rfl ⟨Nat.zero_le _, Nat.zero_le _⟩ d_M_areTwo_26
      · refine z_icmp_eqf C 25 c7 d_M_areTwo_18 (by decide) ?_
        refine z_iconst C (1 : Int32) (by decide) d_M_areTwo_21 ?_
        refine z_goto C 26 d_M_areTwo_22 (by decide) ?_
        cases h
        exact z_iret C .boolean hret rfl ⟨Nat.zero_le _, Nat.zero_le _⟩ d_M_areTwo_26
def f_M_pairAt (a0 : Int32) (a1 : Int32) : Option Int32 := some (((9 : Int32) * a0) + a1)
set_option maxRecDepth 100000 in
set_option maxHeartbeats 4000000 in
theorem m_M_pairAt (l : Launch) {a0 : Int32} {a1 : Int32} {S : zSt} {r : Int32} (h : f_M_pairAt a0 a1 = some r) : zPM l y_M_pairAt b_M_pairAt 2 (some .int) rm_M_pairAt true true [zi a0, zi a1] S (some (zi r)) S := by
  refine zPM_of (by decide) (Nat.le_of_ble_eq_true rfl) (fun p e s m args below meth c G C hret hname => ?_)
  unfold f_M_pairAt at h
  refine (?_ : zJ p l e rm_M_pairAt s m args below meth c G true 2 0 0 (zQm below G args s rm_M_pairAt true (some (zi r)) S) S 0 [(0, zi a0), (1, zi a1)] [])
  refine z_bipush C (9 : Int32) (by decide) d_M_pairAt_0 ?_
  refine z_iload_n C 0 rfl d_M_pairAt_2 rfl ?_
  refine z_imul C d_M_pairAt_3 ?_
  refine z_iload_n C 1 rfl d_M_pairAt_4 rfl ?_
  refine z_iadd C d_M_pairAt_5 ?_
  cases h
  exact z_iret C .int hret rfl ⟨Nat.zero_le _, Nat.zero_le _⟩ d_M_pairAt_6
def f_M_farOf (a1 : Int32) (a2 : Int32) (S : zSt) : Option Int32 := zb1 (f_M_pairAt a1 a2) (fun r2 => zgd (0 ≤ ((101 : Int32) + r2) ∧ ((101 : Int32) + r2).toNatClampNeg < 5807) (some (zI S 74 ((101 : Int32) + r2).toNatClampNeg)))
set_option maxRecDepth 100000 in
set_option maxHeartbeats 4000000 in
theorem m_M_farOf (l : Launch) {a1 : Int32} {a2 : Int32} {S : zSt} {r : Int32} (h : f_M_farOf a1 a2 S = some r) : zPM l y_M_farOf b_M_farOf 3 (some .int) rm_M_farOf true true [zr (some 72), zi a1, zi a2] S (some (zi r)) S := by
  refine zPM_of (by decide) (Nat.le_of_ble_eq_true rfl) (fun p e s m args below meth c G C hret hname => ?_)
  unfold f_M_farOf at h
  refine (?_ : zJ p l e rm_M_farOf s m args below meth c G true 3 0 0 (zQm below G args s rm_M_farOf true (some (zi r)) S) S 0 [(0, zr (some 72)), (1, zi a1), (2, zi a2)] [])
  refine z_aload_n C 0 rfl d_M_farOf_0 rfl ?_
  refine z_getF2 C 11 (by decide) 2 (by decide) rfl 2 5807 rfl (74) rfl zp_72 zk_72 zfl_11_24 d_M_farOf_1 ?_
  refine z_bipush C (101 : Int32) (by decide) d_M_farOf_4 ?_
  refine z_iload_n C 1 rfl d_M_farOf_6 rfl ?_
  refine z_iload_n C 2 rfl d_M_farOf_7 rfl ?_
  obtain ⟨r2, h1, h⟩ := zb1_some h
  refine z_cS C (m_M_pairAt l h1) mf_M_pairAt lk_11_126 st_M_pairAt ⟨rfl, rfl⟩ ⟨by decide, by decide⟩ ⟨Nat.zero_le _, Nat.zero_le _⟩ rfl _ [zi (101 : Int32), zr (some 74)] rfl (Nat.le_of_ble_eq_true rfl) d_M_farOf_8 ?_
  refine z_iadd C d_M_farOf_11 ?_
  refine z_fact (fun hSR => ?_)
  obtain ⟨g3, h⟩ := zgd_some h
  refine z_ialoadS C zo_74 zk_74 (za_74 hSR) g3 d_M_farOf_12 ?_
  cases h
  exact z_iret C .int hret rfl ⟨Nat.zero_le _, Nat.zero_le _⟩ d_M_farOf_13
def f_M_laysChannel (a1 : Int32) (a2 : Int32) (a3 : Int32) (S : zSt) : Option zSt := zb1 (f_M_pairAt a1 a2) (fun r2 => zgd (0 ≤ ((101 : Int32) + r2) ∧ ((101 : Int32) + r2).toNatClampNeg < 5807) (zb1 (f_M_pairAt a2 a1) (fun r5 => zgd (0 ≤ ((101 : Int32) + r5) ∧ ((101 : Int32) + r5).toNatClampNeg < 5807) (zb1 (f_M_pairAt a1 a2) (fun r8 => zgd (0 ≤ ((10 : Int32) + r8) ∧ ((10 : Int32) + r8).toNatClampNeg < 5807) (zb1 (f_M_pairAt a2 a1) (fun r11 => zgd (0 ≤ ((10 : Int32) + r11) ∧ ((10 : Int32) + r11).toNatClampNeg < 5807) (some (zwI (zwI (zwI (zwI S 74 ((101 : Int32) + r2).toNatClampNeg a3) 74 ((101 : Int32) + r5).toNatClampNeg a3) 74 ((10 : Int32) + r8).toNatClampNeg (0 : Int32)) 74 ((10 : Int32) + r11).toNatClampNeg (0 : Int32))))))))))
set_option maxRecDepth 100000 in
set_option maxHeartbeats 4000000 in
theorem m_M_laysChannel (l : Launch) {a1 : Int32} {a2 : Int32} {a3 : Int32} {S : zSt} {S1 : zSt} (h : f_M_laysChannel a1 a2 a3 S = some S1) : zPM l y_M_laysChannel b_M_laysChannel 4 none rm_M_laysChannel true true [zr (some 72), zi a1, zi a2, zi a3] S none S1 := by
  refine zPM_of (by decide) (Nat.le_of_ble_eq_true rfl) (fun p e s m args below meth c G C hret hname => ?_)
  unfold f_M_laysChannel at h
  refine (?_ : zJ p l e rm_M_laysChannel s m args below meth c G true 4 0 0 (zQm below G args s rm_M_laysChannel true none S1) S 0 [(0, zr (some 72)), (1, zi a1), (2, zi a2), (3, zi a3)] [])
  refine z_aload_n C 0 rfl d_M_laysChannel_0 rfl ?_
  refine z_getF2 C 11 (by decide) 2 (by decide) rfl 2 5807 rfl (74) rfl zp_72 zk_72 zfl_11_24 d_M_laysChannel_1 ?_
  refine z_bipush C (101 : Int32) (by decide) d_M_laysChannel_4 ?_
  refine z_iload_n C 1 rfl d_M_laysChannel_6 rfl ?_
  refine z_iload_n C 2 rfl d_M_laysChannel_7 rfl ?_
  obtain ⟨r2, h1, h⟩ := zb1_some h
  refine z_cS C (m_M_pairAt l h1) mf_M_pairAt lk_11_126 st_M_pairAt ⟨rfl, rfl⟩ ⟨by decide, by decide⟩ ⟨Nat.zero_le _, Nat.zero_le _⟩ rfl _ [zi (101 : Int32), zr (some 74)] rfl (Nat.le_of_ble_eq_true rfl) d_M_laysChannel_8 ?_
  refine z_iadd C d_M_laysChannel_11 ?_
  refine z_iload_n C 3 rfl d_M_laysChannel_12 rfl ?_
  refine z_fact (fun hSR => ?_)
  obtain ⟨g3, h⟩ := zgd_some h
  refine z_iastoreS C zo_74 zk_74 (za_74 hSR) g3 d_M_laysChannel_13 ?_
  refine z_aload_n C 0 rfl d_M_laysChannel_14 rfl ?_
  refine z_getF2 C 11 (by decide) 2 (by decide) rfl 2 5807 rfl (74) rfl zp_72 zk_72 zfl_11_24 d_M_laysChannel_15 ?_
  refine z_bipush C (101 : Int32) (by decide) d_M_laysChannel_18 ?_
  refine z_iload_n C 2 rfl d_M_laysChannel_20 rfl ?_
  refine z_iload_n C 1 rfl d_M_laysChannel_21 rfl ?_
  obtain ⟨r5, h4, h⟩ := zb1_some h
  refine z_cS C (m_M_pairAt l h4) mf_M_pairAt lk_11_126 st_M_pairAt ⟨rfl, rfl⟩ ⟨by decide, by decide⟩ ⟨Nat.zero_le _, Nat.zero_le _⟩ rfl _ [zi (101 : Int32), zr (some 74)] rfl (Nat.le_of_ble_eq_true rfl) d_M_laysChannel_22 ?_
  refine z_iadd C d_M_laysChannel_25 ?_
  refine z_iload_n C 3 rfl d_M_laysChannel_26 rfl ?_
  refine z_fact (fun hSR => ?_)
  obtain ⟨g6, h⟩ := zgd_some h
  refine z_iastoreS C zo_74 zk_74 (za_74 hSR) g6 d_M_laysChannel_27 ?_
  refine z_aload_n C 0 rfl d_M_laysChannel_28 rfl ?_
  refine z_getF2 C 11 (by decide) 2 (by decide) rfl 2 5807 rfl (74) rfl zp_72 zk_72 zfl_11_24 d_M_laysChannel_29 ?_
  refine z_bipush C (10 : Int32) (by decide) d_M_laysChannel_32 ?_
  refine z_iload_n C 1 rfl d_M_laysChannel_34 rfl ?_
  refine z_iload_n C 2 rfl d_M_laysChannel_35 rfl ?_
  obtain ⟨r8, h7, h⟩ := zb1_some h
  refine z_cS C (m_M_pairAt l h7) mf_M_pairAt lk_11_126 st_M_pairAt ⟨rfl, rfl⟩ ⟨by decide, by decide⟩ ⟨Nat.zero_le _, Nat.zero_le _⟩ rfl _ [zi (10 : Int32), zr (some 74)] rfl (Nat.le_of_ble_eq_true rfl) d_M_laysChannel_36 ?_
  refine z_iadd C d_M_laysChannel_39 ?_
  refine z_iconst C (0 : Int32) (by decide) d_M_laysChannel_40 ?_
  refine z_fact (fun hSR => ?_)
  obtain ⟨g9, h⟩ := zgd_some h
  refine z_iastoreS C zo_74 zk_74 (za_74 hSR) g9 d_M_laysChannel_41 ?_
  refine z_aload_n C 0 rfl d_M_laysChannel_42 rfl ?_
  refine z_getF2 C 11 (by decide) 2 (by decide) rfl 2 5807 rfl (74) rfl zp_72 zk_72 zfl_11_24 d_M_laysChannel_43 ?_
  refine z_bipush C (10 : Int32) (by decide) d_M_laysChannel_46 ?_
  refine z_iload_n C 2 rfl d_M_laysChannel_48 rfl ?_
  refine z_iload_n C 1 rfl d_M_laysChannel_49 rfl ?_
  obtain ⟨r11, h10, h⟩ := zb1_some h
  refine z_cS C (m_M_pairAt l h10) mf_M_pairAt lk_11_126 st_M_pairAt ⟨rfl, rfl⟩ ⟨by decide, by decide⟩ ⟨Nat.zero_le _, Nat.zero_le _⟩ rfl _ [zi (10 : Int32), zr (some 74)] rfl (Nat.le_of_ble_eq_true rfl) d_M_laysChannel_50 ?_
  refine z_iadd C d_M_laysChannel_53 ?_
  refine z_iconst C (0 : Int32) (by decide) d_M_laysChannel_54 ?_
  refine z_fact (fun hSR => ?_)
  obtain ⟨g12, h⟩ := zgd_some h
  refine z_iastoreS C zo_74 zk_74 (za_74 hSR) g12 d_M_laysChannel_55 ?_
  cases h
  exact z_vret C hret ⟨Nat.zero_le _, Nat.zero_le _⟩ d_M_laysChannel_56
def f_M_channel (a1 : Int32) (a2 : Int32) (a3 : Int32) (S : zSt) : Option (Int32 × zSt) := if a1 = a2 then zb2 (f_M_refuses (-1 : Int32) S) (fun r3 S4 => some (r3, S4)) else zb1 (f_M_lies a3 (0 : Int32) (50 : Int32)) (fun r6 => if r6 = 0 then zb2 (f_M_refuses (-1 : Int32) S) (fun r22 S23 => some (r22, S23)) else zb1 (f_M_areTwo a1 a2 S) (fun r9 => if r9 = 0 then zb2 (f_M_refuses (-2 : Int32) S) (fun r19 S20 => some (r19, S20)) else zb1 (f_M_farOf a1 a2 S) (fun r12 => zb1 (f_M_laysChannel a1 a2 a3 S) (fun S14 => zb2 (f_M_settled r12 S14) (fun r16 S17 => some (r16, S17))))))
set_option maxRecDepth 100000 in
set_option maxHeartbeats 4000000 in
theorem m_M_channel (l : Launch) {a1 : Int32} {a2 : Int32} {a3 : Int32} {S : zSt} {r : Int32} {S1 : zSt} (h : f_M_channel a1 a2 a3 S = some (r, S1)) : zPM l y_M_channel b_M_channel 5 (some .int) rm_M_channel true true [zr (some 72), zi a1, zi a2, zi a3] S (some (zi r)) S1 := by
  refine zPM_of (by decide) (Nat.le_of_ble_eq_true rfl) (fun p e s m args below meth c G C hret hname => ?_)
  unfold f_M_channel at h
  refine (?_ : zJ p l e rm_M_channel s m args below meth c G true 5 0 0 (zQm below G args s rm_M_channel true (some (zi r)) S1) S 0 [(0, zr (some 72)), (1, zi a1), (2, zi a2), (3, zi a3)] [])
  refine z_iload_n C 1 rfl d_M_channel_0 rfl ?_
  refine z_iload_n C 2 rfl d_M_channel_1 rfl ?_
  rcases zite h with ⟨c1, h⟩ | ⟨c1, h⟩
  · refine z_icmp_eqt C 15 c1 d_M_channel_2 (by decide) ?_
    refine z_aload_n C 0 rfl d_M_channel_15 rfl ?_
    refine z_iconst C (-1 : Int32) (by decide) d_M_channel_16 ?_
    obtain ⟨r3, S4, h2, h⟩ := zb2_some h
    refine z_cV C 11 (by decide) (m_M_refuses l h2) mf_M_refuses lk_11_112 in_M_refuses se_M_refuses rfl zo_72 zk_72 ⟨rfl, rfl⟩ ⟨by decide, by decide⟩ ⟨Nat.zero_le _, Nat.zero_le _⟩ rfl _ [] rfl (Nat.le_of_ble_eq_true rfl) d_M_channel_17 ?_
    cases h
    exact z_iret C .int hret rfl ⟨Nat.zero_le _, Nat.zero_le _⟩ d_M_channel_20
  · refine z_icmp_eqf C 15 c1 d_M_channel_2 (by decide) ?_
    refine z_iload_n C 3 rfl d_M_channel_5 rfl ?_
    refine z_iconst C (0 : Int32) (by decide) d_M_channel_6 ?_
    refine z_bipush C (50 : Int32) (by decide) d_M_channel_7 ?_
    obtain ⟨r6, h5, h⟩ := zb1_some h
    refine z_cS C (m_M_lies l h5) mf_M_lies lk_11_108 st_M_lies ⟨rfl, rfl⟩ ⟨by decide, by decide⟩ ⟨Nat.zero_le _, Nat.zero_le _⟩ rfl _ [] rfl (Nat.le_of_ble_eq_true rfl) d_M_channel_9 ?_
    rcases zite h with ⟨c7, h⟩ | ⟨c7, h⟩
    · refine z_if_nef C 21 c7 d_M_channel_12 (by decide) ?_
      refine z_aload_n C 0 rfl d_M_channel_15 rfl ?_
      refine z_iconst C (-1 : Int32) (by decide) d_M_channel_16 ?_
      obtain ⟨r22, S23, h21, h⟩ := zb2_some h
      refine z_cV C 11 (by decide) (m_M_refuses l h21) mf_M_refuses lk_11_112 in_M_refuses se_M_refuses rfl zo_72 zk_72 ⟨rfl, rfl⟩ ⟨by decide, by decide⟩ ⟨Nat.zero_le _, Nat.zero_le _⟩ rfl _ [] rfl (Nat.le_of_ble_eq_true rfl) d_M_channel_17 ?_
      cases h
      exact z_iret C .int hret rfl ⟨Nat.zero_le _, Nat.zero_le _⟩ d_M_channel_20
    · refine z_if_net C 21 c7 d_M_channel_12 (by decide) ?_
      refine z_aload_n C 0 rfl d_M_channel_21 rfl ?_
      refine z_iload_n C 1 rfl d_M_channel_22 rfl ?_
      refine z_iload_n C 2 rfl d_M_channel_23 rfl ?_
      obtain ⟨r9, h8, h⟩ := zb1_some h
      refine z_cV C 11 (by decide) (m_M_areTwo l h8) mf_M_areTwo lk_11_130 in_M_areTwo se_M_areTwo rfl zo_72 zk_72 ⟨rfl, rfl⟩ ⟨by decide, by decide⟩ ⟨Nat.zero_le _, Nat.zero_le _⟩ rfl _ [] rfl (Nat.le_of_ble_eq_true rfl) d_M_channel_24 ?_
      rcases zite h with ⟨c10, h⟩ | ⟨c10, h⟩
      · refine z_if_nef C 37 c10 d_M_channel_27 (by decide) ?_
        refine z_aload_n C 0 rfl d_M_channel_30 rfl ?_
        refine z_bipush C (-2 : Int32) (by decide) d_M_channel_31 ?_
        obtain ⟨r19, S20, h18, h⟩ := zb2_some h
        refine z_cV C 11 (by decide) (m_M_refuses l h18) mf_M_refuses lk_11_112 in_M_refuses se_M_refuses rfl zo_72 zk_72 ⟨rfl, rfl⟩ ⟨by decide, by decide⟩ ⟨Nat.zero_le _, Nat.zero_le _⟩ rfl _ [] rfl (Nat.le_of_ble_eq_true rfl) d_M_channel_33 ?_
        cases h
        exact z_iret C .int hret rfl ⟨Nat.zero_le _, Nat.zero_le _⟩ d_M_channel_36
      · refine z_if_net C 37 c10 d_M_channel_27 (by decide) ?_
        refine z_aload_n C 0 rfl d_M_channel_37 rfl ?_
        refine z_iload_n C 1 rfl d_M_channel_38 rfl ?_
        refine z_iload_n C 2 rfl d_M_channel_39 rfl ?_
        obtain ⟨r12, h11, h⟩ := zb1_some h
        refine z_cV C 11 (by decide) (m_M_farOf l h11) mf_M_farOf lk_11_134 in_M_farOf se_M_farOf rfl zo_72 zk_72 ⟨rfl, rfl⟩ ⟨by decide, by decide⟩ ⟨Nat.zero_le _, Nat.zero_le _⟩ rfl _ [] rfl (Nat.le_of_ble_eq_true rfl) d_M_channel_40 ?_
        refine z_istore C [(4, zi r12), (0, zr (some 72)), (1, zi a1), (2, zi a2), (3, zi a3)] d_M_channel_43 (by decide) rfl ?_
        refine z_aload_n C 1 rfl d_M_channel_45 rfl ?_
        refine z_iload_n C 2 rfl d_M_channel_46 rfl ?_
        refine z_iload_n C 3 rfl d_M_channel_47 rfl ?_
        refine z_iload_n C 4 rfl d_M_channel_48 rfl ?_
        obtain ⟨S14, h13, h⟩ := zb1_some h
        refine z_cV C 11 (by decide) (m_M_laysChannel l h13) mf_M_laysChannel lk_11_137 in_M_laysChannel se_M_laysChannel rfl zo_72 zk_72 ⟨rfl, rfl⟩ ⟨by decide, by decide⟩ ⟨Nat.zero_le _, Nat.zero_le _⟩ rfl _ [] rfl (Nat.le_of_ble_eq_true rfl) d_M_channel_49 ?_
        refine z_aload_n C 1 rfl d_M_channel_52 rfl ?_
        refine z_iload C 0 rfl d_M_channel_53 ?_
        obtain ⟨r16, S17, h15, h⟩ := zb2_some h
        refine z_cV C 11 (by decide) (m_M_settled l h15) mf_M_settled lk_11_115 in_M_settled se_M_settled rfl zo_72 zk_72 ⟨rfl, rfl⟩ ⟨by decide, by decide⟩ ⟨Nat.zero_le _, Nat.zero_le _⟩ rfl _ [] rfl (Nat.le_of_ble_eq_true rfl) d_M_channel_55 ?_
        cases h
        exact z_iret C .int hret rfl ⟨Nat.zero_le _, Nat.zero_le _⟩ d_M_channel_58
def f_M_setsSpring (a1 : Int32) (S : zSt) : Option zSt := zgd (0 ≤ ((1 : Int32) + a1) ∧ ((1 : Int32) + a1).toNatClampNeg < 5807) (some (zwI (zwI (zwI (zwI (zwI (zwI (zwI S 84 (0 : Int32).toNatClampNeg a1) 84 (1 : Int32).toNatClampNeg (-1 : Int32)) 84 (2 : Int32).toNatClampNeg (-1 : Int32)) 84 (3 : Int32).toNatClampNeg (0 : Int32)) 84 (4 : Int32).toNatClampNeg (zI (zwI (zwI (zwI (zwI S 84 (0 : Int32).toNatClampNeg a1) 84 (1 : Int32).toNatClampNeg (-1 : Int32)) 84 (2 : Int32).toNatClampNeg (-1 : Int32)) 84 (3 : Int32).toNatClampNeg (0 : Int32)) 74 (195 : Int32).toNatClampNeg)) 84 (5 : Int32).toNatClampNeg (zI (zwI (zwI (zwI (zwI (zwI S 84 (0 : Int32).toNatClampNeg a1) 84 (1 : Int32).toNatClampNeg (-1 : Int32)) 84 (2 : Int32).toNatClampNeg (-1 : Int32)) 84 (3 : Int32).toNatClampNeg (0 : Int32)) 84 (4 : Int32).toNatClampNeg (zI (zwI (zwI (zwI (zwI S 84 (0 : Int32).toNatClampNeg a1) 84 (1 : Int32).toNatClampNeg (-1 : Int32)) 84 (2 : Int32).toNatClampNeg (-1 : Int32)) 84 (3 : Int32).toNatClampNeg (0 : Int32)) 74 (195 : Int32).toNatClampNeg)) 74 ((1 : Int32) + a1).toNatClampNeg)) 84 (6 : Int32).toNatClampNeg (zI (zwI (zwI (zwI (zwI (zwI (zwI S 84 (0 : Int32).toNatClampNeg a1) 84 (1 : Int32).toNatClampNeg (-1 : Int32)) 84 (2 : Int32).toNatClampNeg (-1 : Int32)) 84 (3 : Int32).toNatClampNeg (0 : Int32)) 84 (4 : Int32).toNatClampNeg (zI (zwI (zwI (zwI (zwI S 84 (0 : Int32).toNatClampNeg a1) 84 (1 : Int32).toNatClampNeg (-1 : Int32)) 84 (2 : Int32).toNatClampNeg (-1 : Int32)) 84 (3 : Int32).toNatClampNeg (0 : Int32)) 74 (195 : Int32).toNatClampNeg)) 84 (5 : Int32).toNatClampNeg (zI (zwI (zwI (zwI (zwI (zwI S 84 (0 : Int32).toNatClampNeg a1) 84 (1 : Int32).toNatClampNeg (-1 : Int32)) 84 (2 : Int32).toNatClampNeg (-1 : Int32)) 84 (3 : Int32).toNatClampNeg (0 : Int32)) 84 (4 : Int32).toNatClampNeg (zI (zwI (zwI (zwI (zwI S 84 (0 : Int32).toNatClampNeg a1) 84 (1 : Int32).toNatClampNeg (-1 : Int32)) 84 (2 : Int32).toNatClampNeg (-1 : Int32)) 84 (3 : Int32).toNatClampNeg (0 : Int32)) 74 (195 : Int32).toNatClampNeg)) 74 ((1 : Int32) + a1).toNatClampNeg)) 74 (91 : Int32).toNatClampNeg)))
set_option maxRecDepth 100000 in
set_option maxHeartbeats 4000000 in
theorem m_M_setsSpring (l : Launch) {a1 : Int32} {S : zSt} {S1 : zSt} (h : f_M_setsSpring a1 S = some S1) : zPM l y_M_setsSpring b_M_setsSpring 2 none rm_M_setsSpring true true [zr (some 72), zi a1] S none S1 := by
  refine zPM_of (by decide) (Nat.le_of_ble_eq_true rfl) (fun p e s m args below meth c G C hret hname => ?_)
  unfold f_M_setsSpring at h
  refine (?_ : zJ p l e rm_M_setsSpring s m args below meth c G true 2 0 0 (zQm below G args s rm_M_setsSpring true none S1) S 0 [(0, zr (some 72)), (1, zi a1)] [])
  refine z_aload_n C 0 rfl d_M_setsSpring_0 rfl ?_
  refine z_getF2 C 11 (by decide) 26 (by decide) rfl 12 7 rfl (84) rfl zp_72 zk_72 zfl_11_59 d_M_setsSpring_1 ?_
  refine z_iconst C (0 : Int32) (by decide) d_M_setsSpring_4 ?_
  refine z_iload_n C 1 rfl d_M_setsSpring_5 rfl ?_
  refine z_fact (fun hSR => ?_)
  refine z_iastoreS C zo_84 zk_84 (za_84 hSR) (by decide) d_M_setsSpring_6 ?_
  refine z_aload_n C 0 rfl d_M_setsSpring_7 rfl ?_
  refine z_getF2 C 11 (by decide) 26 (by decide) rfl 12 7 rfl (84) rfl zp_72 zk_72 zfl_11_59 d_M_setsSpring_8 ?_
  refine z_iconst C (1 : Int32) (by decide) d_M_setsSpring_11 ?_
  refine z_iconst C (-1 : Int32) (by decide) d_M_setsSpring_12 ?_
  refine z_fact (fun hSR => ?_)
  refine z_iastoreS C zo_84 zk_84 (za_84 hSR) (by decide) d_M_setsSpring_13 ?_
  refine z_aload_n C 0 rfl d_M_setsSpring_14 rfl ?_
  refine z_getF2 C 11 (by decide) 26 (by decide) rfl 12 7 rfl (84) rfl zp_72 zk_72 zfl_11_59 d_M_setsSpring_15 ?_
  refine z_iconst C (2 : Int32) (by decide) d_M_setsSpring_18 ?_
  refine z_iconst C (-1 : Int32) (by decide) d_M_setsSpring_19 ?_
  refine z_fact (fun hSR => ?_)
  refine z_iastoreS C zo_84 zk_84 (za_84 hSR) (by decide) d_M_setsSpring_20 ?_
  refine z_aload_n C 0 rfl d_M_setsSpring_21 rfl ?_
  refine z_getF2 C 11 (by decide) 26 (by decide) rfl 12 7 rfl (84) rfl zp_72 zk_72 zfl_11_59 d_M_setsSpring_22 ?_
  refine z_iconst C (3 : Int32) (by decide) d_M_setsSpring_25 ?_
  refine z_iconst C (0 : Int32) (by decide) d_M_setsSpring_26 ?_
  refine z_fact (fun hSR => ?_)
  refine z_iastoreS C zo_84 zk_84 (za_84 hSR) (by decide) d_M_setsSpring_27 ?_
  refine z_aload_n C 0 rfl d_M_setsSpring_28 rfl ?_
  refine z_getF2 C 11 (by decide) 26 (by decide) rfl 12 7 rfl (84) rfl zp_72 zk_72 zfl_11_59 d_M_setsSpring_29 ?_
  refine z_iconst C (4 : Int32) (by decide) d_M_setsSpring_32 ?_
  refine z_aload_n C 0 rfl d_M_setsSpring_33 rfl ?_
  refine z_getF2 C 11 (by decide) 2 (by decide) rfl 2 5807 rfl (74) rfl zp_72 zk_72 zfl_11_24 d_M_setsSpring_34 ?_
  refine z_sipush C (195 : Int32) (by decide) d_M_setsSpring_37 ?_
  refine z_fact (fun hSR => ?_)
  refine z_ialoadS C zo_74 zk_74 (za_74 hSR) (by decide) d_M_setsSpring_40 ?_
  refine z_fact (fun hSR => ?_)
  refine z_iastoreS C zo_84 zk_84 (za_84 hSR) (by decide) d_M_setsSpring_41 ?_
  refine z_aload_n C 0 rfl d_M_setsSpring_42 rfl ?_
  refine z_getF2 C 11 (by decide) 26 (by decide) rfl 12 7 rfl (84) rfl zp_72 zk_72 zfl_11_59 d_M_setsSpring_43 ?_
  refine z_iconst C (5 : Int32) (by decide) d_M_setsSpring_46 ?_
  refine z_aload_n C 0 rfl d_M_setsSpring_47 rfl ?_
  refine z_getF2 C 11 (by decide) 2 (by decide) rfl 2 5807 rfl (74) rfl zp_72 zk_72 zfl_11_24 d_M_setsSpring_48 ?_
  refine z_iconst C (1 : Int32) (by decide) d_M_setsSpring_51 ?_
  refine z_iload_n C 1 rfl d_M_setsSpring_52 rfl ?_
  refine z_iadd C d_M_setsSpring_53 ?_
  refine z_fact (fun hSR => ?_)
  obtain ⟨g1, h⟩ := zgd_some h
  refine z_ialoadS C zo_74 zk_74 (za_74 hSR) g1 d_M_setsSpring_54 ?_
  refine z_fact (fun hSR => ?_)
  refine z_iastoreS C zo_84 zk_84 (za_84 hSR) (by decide) d_M_setsSpring_55 ?_
  refine z_aload_n C 0 rfl d_M_setsSpring_56 rfl ?_
  refine z_getF2 C 11 (by decide) 26 (by decide) rfl 12 7 rfl (84) rfl zp_72 zk_72 zfl_11_59 d_M_setsSpring_57 ?_
  refine z_bipush C (6 : Int32) (by decide) d_M_setsSpring_60 ?_
  refine z_aload_n C 0 rfl d_M_setsSpring_62 rfl ?_
  refine z_getF2 C 11 (by decide) 2 (by decide) rfl 2 5807 rfl (74) rfl zp_72 zk_72 zfl_11_24 d_M_setsSpring_63 ?_
  refine z_bipush C (91 : Int32) (by decide) d_M_setsSpring_66 ?_
  refine z_fact (fun hSR => ?_)
  refine z_ialoadS C zo_74 zk_74 (za_74 hSR) (by decide) d_M_setsSpring_68 ?_
  refine z_fact (fun hSR => ?_)
  refine z_iastoreS C zo_84 zk_84 (za_84 hSR) (by decide) d_M_setsSpring_69 ?_
  cases h
  exact z_vret C hret ⟨Nat.zero_le _, Nat.zero_le _⟩ d_M_setsSpring_70
def f_M_codeAt (a1 : Int32) (S : zSt) : Option Int32 := if (zI S 72 23) ≤ a1 then some (0 : Int32) else zgd (0 ≤ ((207 : Int32) + a1) ∧ ((207 : Int32) + a1).toNatClampNeg < 5807) (some (zI S 74 ((207 : Int32) + a1).toNatClampNeg))
set_option maxRecDepth 100000 in
set_option maxHeartbeats 4000000 in
theorem m_M_codeAt (l : Launch) {a1 : Int32} {S : zSt} {r : Int32} (h : f_M_codeAt a1 S = some r) : zPM l y_M_codeAt b_M_codeAt 2 (some .int) rm_M_codeAt true true [zr (some 72), zi a1] S (some (zi r)) S := by
  refine zPM_of (by decide) (Nat.le_of_ble_eq_true rfl) (fun p e s m args below meth c G C hret hname => ?_)
  unfold f_M_codeAt at h
  refine (?_ : zJ p l e rm_M_codeAt s m args below meth c G true 2 0 0 (zQm below G args s rm_M_codeAt true (some (zi r)) S) S 0 [(0, zr (some 72)), (1, zi a1)] [])
  refine z_iload_n C 1 rfl d_M_codeAt_0 rfl ?_
  refine z_aload_n C 0 rfl d_M_codeAt_1 rfl ?_
  refine z_getI C 11 (by decide) 23 (by decide) rfl zo_72 zk_72 zfl_11_265 d_M_codeAt_2 ?_
  rcases zite h with ⟨c1, h⟩ | ⟨c1, h⟩
  · refine z_icmp_get C 21 c1 d_M_codeAt_5 (by decide) ?_
    refine z_iconst C (0 : Int32) (by decide) d_M_codeAt_21 ?_
    cases h
    exact z_iret C .int hret rfl ⟨Nat.zero_le _, Nat.zero_le _⟩ d_M_codeAt_22
  · refine z_icmp_gef C 21 c1 d_M_codeAt_5 (by decide) ?_
    refine z_aload_n C 0 rfl d_M_codeAt_8 rfl ?_
    refine z_getF2 C 11 (by decide) 2 (by decide) rfl 2 5807 rfl (74) rfl zp_72 zk_72 zfl_11_24 d_M_codeAt_9 ?_
    refine z_sipush C (207 : Int32) (by decide) d_M_codeAt_12 ?_
    refine z_iload_n C 1 rfl d_M_codeAt_15 rfl ?_
    refine z_iadd C d_M_codeAt_16 ?_
    refine z_fact (fun hSR => ?_)
    obtain ⟨g2, h⟩ := zgd_some h
    refine z_ialoadS C zo_74 zk_74 (za_74 hSR) g2 d_M_codeAt_17 ?_
    refine z_goto C 22 d_M_codeAt_18 (by decide) ?_
    cases h
    exact z_iret C .int hret rfl ⟨Nat.zero_le _, Nat.zero_le _⟩ d_M_codeAt_22
def f_M_sign (a0 : Int32) : Option Int32 := some ((100 : Int32) + a0)
set_option maxRecDepth 100000 in
set_option maxHeartbeats 4000000 in
theorem m_M_sign (l : Launch) {a0 : Int32} {S : zSt} {r : Int32} (h : f_M_sign a0 = some r) : zPM l y_M_sign b_M_sign 1 (some .int) rm_M_sign true true [zi a0] S (some (zi r)) S := by
  refine zPM_of (by decide) (Nat.le_of_ble_eq_true rfl) (fun p e s m args below meth c G C hret hname => ?_)
  unfold f_M_sign at h
  refine (?_ : zJ p l e rm_M_sign s m args below meth c G true 1 0 0 (zQm below G args s rm_M_sign true (some (zi r)) S) S 0 [(0, zi a0)] [])
  refine z_bipush C (100 : Int32) (by decide) d_M_sign_0 ?_
  refine z_iload_n C 0 rfl d_M_sign_2 rfl ?_
  refine z_iadd C d_M_sign_3 ?_
  cases h
  exact z_iret C .int hret rfl ⟨Nat.zero_le _, Nat.zero_le _⟩ d_M_sign_4
def f_M_passes0_17 (k0 : Int32) (S : zSt) : Option (Int32 × zSt) := if k0 = 0 then zgd (k0 = 0 ∨ k0 = 1) (some (k0, S)) else zgd (k0 = 0 ∨ k0 = 1) (some (k0, zwI S 72 22 ((zI S 72 22) + (1 : Int32))))
def f_M_passes0 (a1 : Int32) (S : zSt) : Option (Int32 × zSt) := zb1 (f_M_codeAt (zI S 72 22) S) (fun r2 => if r2 = a1 then f_M_passes0_17 (1 : Int32) S else f_M_passes0_17 (0 : Int32) S)
set_option maxRecDepth 100000 in
set_option maxHeartbeats 4000000 in
theorem c_M_passes0_17 {p : Program} {l : Launch} {e : Env} {s : State} {m : MethodId} {args : Array Value} {below : List Frame} {meth : Method} {c : Code} {G : zG} (C : zC p s m args meth c G b_M_passes0 3 y_M_passes0.cls) (hret : meth.sig.returnType = (some .boolean)) {r : Int32} {S1 : zSt} : ∀ (k0 : Int32) (S : zSt) , f_M_passes0_17 k0 S = some (r, S1) → zJ p l e rm_M_passes0 s m args below meth c G true 3 0 0 (zQm below G args s rm_M_passes0 true (some (zi r)) S1) S 17 [(0, zr (some 72))] [zi k0] := by
  intro k0 S h
  unfold f_M_passes0_17 at h
  refine z_istore_n C [(2, zi k0), (0, zr (some 72))] d_M_passes0_17 rfl (by decide) rfl ?_
  refine z_iload_n C 0 rfl d_M_passes0_18 rfl ?_
  rcases zite h with ⟨c1, h⟩ | ⟨c1, h⟩
  · refine z_if_eqt C 32 c1 d_M_passes0_19 (by decide) ?_
    refine z_iload_n C 0 rfl d_M_passes0_32 rfl ?_
    obtain ⟨g2, h⟩ := zgd_some h
    cases h
    exact z_iret C .boolean hret (by rcases g2 with e | e <;> rw [e] <;> rfl) ⟨Nat.zero_le _, Nat.zero_le _⟩ d_M_passes0_33
  · refine z_if_eqf C 32 c1 d_M_passes0_19 (by decide) ?_
    refine z_aload_n C 1 rfl d_M_passes0_22 rfl ?_
    refine z_dup C rfl d_M_passes0_23 ?_
    refine z_getI C 11 (by decide) 22 (by decide) rfl zo_72 zk_72 zfl_11_268 d_M_passes0_24 ?_
    refine z_iconst C (1 : Int32) (by decide) d_M_passes0_27 ?_
    refine z_iadd C d_M_passes0_28 ?_
    refine z_putI C 11 (by decide) 22 (by decide) rfl (Or.inl rfl) zo_72 zk_72 zfl_11_268 (Or.inl rfl) d_M_passes0_29 ?_
    refine z_iload_n C 0 rfl d_M_passes0_32 rfl ?_
    obtain ⟨g3, h⟩ := zgd_some h
    cases h
    exact z_iret C .boolean hret (by rcases g3 with e | e <;> rw [e] <;> rfl) ⟨Nat.zero_le _, Nat.zero_le _⟩ d_M_passes0_33
set_option maxRecDepth 100000 in
set_option maxHeartbeats 4000000 in
theorem m_M_passes0 (l : Launch) {a1 : Int32} {S : zSt} {r : Int32} {S1 : zSt} (h : f_M_passes0 a1 S = some (r, S1)) : zPM l y_M_passes0 b_M_passes0 3 (some .boolean) rm_M_passes0 true true [zr (some 72), zi a1] S (some (zi r)) S1 := by
  refine zPM_of (by decide) (Nat.le_of_ble_eq_true rfl) (fun p e s m args below meth c G C hret hname => ?_)
  unfold f_M_passes0 at h
  refine (?_ : zJ p l e rm_M_passes0 s m args below meth c G true 3 0 0 (zQm below G args s rm_M_passes0 true (some (zi r)) S1) S 0 [(0, zr (some 72)), (1, zi a1)] [])
  refine z_aload_n C 0 rfl d_M_passes0_0 rfl ?_
  refine z_aload_n C 0 rfl d_M_passes0_1 rfl ?_
  refine z_getI C 11 (by decide) 22 (by decide) rfl zo_72 zk_72 zfl_11_268 d_M_passes0_2 ?_
  obtain ⟨r2, h1, h⟩ := zb1_some h
  refine z_cV C 11 (by decide) (m_M_codeAt l h1) mf_M_codeAt lk_11_271 in_M_codeAt se_M_codeAt rfl zo_72 zk_72 ⟨rfl, rfl⟩ ⟨by decide, by decide⟩ ⟨Nat.zero_le _, Nat.zero_le _⟩ rfl _ [] rfl (Nat.le_of_ble_eq_true rfl) d_M_passes0_5 ?_
  refine z_iload_n C 1 rfl d_M_passes0_8 rfl ?_
  rcases zite h with ⟨c3, h⟩ | ⟨c3, h⟩
  · refine z_icmp_nef C 16 c3 d_M_passes0_9 (by decide) ?_
    refine z_iconst C (1 : Int32) (by decide) d_M_passes0_12 ?_
    refine z_goto C 17 d_M_passes0_13 (by decide) ?_
    refine zq_lsub [0] [(0, zr (some 72))] rfl ?_
    exact c_M_passes0_17 C hret  (1 : Int32) S h
  · refine z_icmp_net C 16 c3 d_M_passes0_9 (by decide) ?_
    refine z_iconst C (0 : Int32) (by decide) d_M_passes0_16 ?_
    refine zq_lsub [0] [(0, zr (some 72))] rfl ?_
    exact c_M_passes0_17 C hret  (0 : Int32) S h
def f_M_isShut (a1 : Int32) (a2 : Int32) (S : zSt) : Option Int32 := zb1 (f_M_pairAt a1 a2) (fun r2 => zgd (0 ≤ ((10 : Int32) + r2) ∧ ((10 : Int32) + r2).toNatClampNeg < 5807) (if (zI S 74 ((10 : Int32) + r2).toNatClampNeg) = (1 : Int32) then some (1 : Int32) else some (0 : Int32)))
set_option maxRecDepth 100000 in
set_option maxHeartbeats 4000000 in
theorem m_M_isShut (l : Launch) {a1 : Int32} {a2 : Int32} {S : zSt} {r : Int32} (h : f_M_isShut a1 a2 S = some r) : zPM l y_M_isShut b_M_isShut 3 (some .boolean) rm_M_isShut true true [zr (some 72), zi a1, zi a2] S (some (zi r)) S := by
  refine zPM_of (by decide) (Nat.le_of_ble_eq_true rfl) (fun p e s m args below meth c G C hret hname => ?_)
  unfold f_M_isShut at h
  refine (?_ : zJ p l e rm_M_isShut s m args below meth c G true 3 0 0 (zQm below G args s rm_M_isShut true (some (zi r)) S) S 0 [(0, zr (some 72)), (1, zi a1), (2, zi a2)] [])
  refine z_aload_n C 0 rfl d_M_isShut_0 rfl ?_
  refine z_getF2 C 11 (by decide) 2 (by decide) rfl 2 5807 rfl (74) rfl zp_72 zk_72 zfl_11_24 d_M_isShut_1 ?_
  refine z_bipush C (10 : Int32) (by decide) d_M_isShut_4 ?_
  refine z_iload_n C 1 rfl d_M_isShut_6 rfl ?_
  refine z_iload_n C 2 rfl d_M_isShut_7 rfl ?_
  obtain ⟨r2, h1, h⟩ := zb1_some h
  refine z_cS C (m_M_pairAt l h1) mf_M_pairAt lk_11_126 st_M_pairAt ⟨rfl, rfl⟩ ⟨by decide, by decide⟩ ⟨Nat.zero_le _, Nat.zero_le _⟩ rfl _ [zi (10 : Int32), zr (some 74)] rfl (Nat.le_of_ble_eq_true rfl) d_M_isShut_8 ?_
  refine z_iadd C d_M_isShut_11 ?_
  refine z_fact (fun hSR => ?_)
  obtain ⟨g3, h⟩ := zgd_some h
  refine z_ialoadS C zo_74 zk_74 (za_74 hSR) g3 d_M_isShut_12 ?_
  refine z_iconst C (1 : Int32) (by decide) d_M_isShut_13 ?_
  rcases zite h with ⟨c4, h⟩ | ⟨c4, h⟩
  · refine z_icmp_nef C 21 c4 d_M_isShut_14 (by decide) ?_
    refine z_iconst C (1 : Int32) (by decide) d_M_isShut_17 ?_
    refine z_goto C 22 d_M_isShut_18 (by decide) ?_
    cases h
    exact z_iret C .boolean hret rfl ⟨Nat.zero_le _, Nat.zero_le _⟩ d_M_isShut_22
  · refine z_icmp_net C 21 c4 d_M_isShut_14 (by decide) ?_
    refine z_iconst C (0 : Int32) (by decide) d_M_isShut_21 ?_
    cases h
    exact z_iret C .boolean hret rfl ⟨Nat.zero_le _, Nat.zero_le _⟩ d_M_isShut_22
def f_M_channelMany_17 (fu : Nat) (k4 : Int32 → Int32 → Int32 → zSt → Option Int32) : Nat → Int32 → Int32 → Int32 → Int32 → zSt → Option Int32
  | 0, _, _, _, _, _ => none
  | n + 1, a1, a2, a3, a4, S => zb1 (f_M_springMany S) (fun r2 => if r2 ≤ a4 then k4 a1 a2 (a3 + (1 : Int32)) S else zb1 (f_M_farOf a3 a4 S) (fun r5 => if r5 ≤ 0 then f_M_channelMany_17 fu k4 n a1 (a2 + (0 : Int32)) a3 (a4 + (1 : Int32)) S else if a1 = 0 then f_M_channelMany_17 fu k4 n a1 (a2 + (1 : Int32)) a3 (a4 + (1 : Int32)) S else zb1 (f_M_isShut a3 a4 S) (fun r9 => if r9 = 0 then f_M_channelMany_17 fu k4 n a1 (a2 + (0 : Int32)) a3 (a4 + (1 : Int32)) S else f_M_channelMany_17 fu k4 n a1 (a2 + (1 : Int32)) a3 (a4 + (1 : Int32)) S)))
def f_M_channelMany_4 (fu : Nat) : Nat → Int32 → Int32 → Int32 → zSt → Option Int32
  | 0, _, _, _, _ => none
  | n + 1, a1, a2, a3, S => zb1 (f_M_springMany S) (fun r2 => if r2 ≤ a3 then some a2 else f_M_channelMany_17 fu (f_M_channelMany_4 fu n) fu a1 a2 a3 (a3 + (1 : Int32)) S)
def f_M_channelMany (fu : Nat) (a1 : Int32) (S : zSt) : Option Int32 := f_M_channelMany_4 fu fu a1 (0 : Int32) (0 : Int32) S
set_option maxRecDepth 100000 in
set_option maxHeartbeats 4000000 in
theorem c_M_channelMany_17 {p : Program} {l : Launch} {e : Env} {s : State} {m : MethodId} {args : Array Value} {below : List Frame} {meth : Method} {c : Code} {G : zG} (C : zC p s m args meth c G b_M_channelMany 5 y_M_channelMany.cls) (hret : meth.sig.returnType = (some .int)) {fu : Nat} {r : Int32} {k4 : Int32 → Int32 → Int32 → zSt → Option Int32} (hk4 : ∀ (a1 : Int32) (a2 : Int32) (a3 : Int32) (S : zSt) , k4 a1 a2 a3 S = some r → zJ p l e rm_M_channelMany s m args below meth c G true 5 0 0 (zQm below G args s rm_M_channelMany true (some (zi r)) S) S 4 [(0, zr (some 72)), (1, zi a1), (2, zi a2), (3, zi a3)] []) : ∀ (n : Nat) (a1 : Int32) (a2 : Int32) (a3 : Int32) (a4 : Int32) (S : zSt) , f_M_channelMany_17 fu k4 n a1 a2 a3 a4 S = some r → zJ p l e rm_M_channelMany s m args below meth c G true 5 0 0 (zQm below G args s rm_M_channelMany true (some (zi r)) S) S 17 [(0, zr (some 72)), (1, zi a1), (2, zi a2), (3, zi a3), (4, zi a4)] [] := by
  intro n
  induction n with
  | zero =>
    intro a1 a2 a3 a4 S h
    cases h
  | succ n ih =>
    intro a1 a2 a3 a4 S h
    rw [f_M_channelMany_17] at h
    refine z_iload C 4 rfl d_M_channelMany_17 ?_
    refine z_aload_n C 0 rfl d_M_channelMany_19 rfl ?_
    obtain ⟨r2, h1, h⟩ := zb1_some h
    refine z_cV C 11 (by decide) (m_M_springMany l h1) mf_M_springMany lk_11_118 in_M_springMany se_M_springMany rfl zo_72 zk_72 ⟨rfl, rfl⟩ ⟨by decide, by decide⟩ ⟨Nat.zero_le _, Nat.zero_le _⟩ rfl _ [zi a4] rfl (Nat.le_of_ble_eq_true rfl) d_M_channelMany_20 ?_
    rcases zite h with ⟨c3, h⟩ | ⟨c3, h⟩
    · refine z_icmp_get C 64 c3 d_M_channelMany_23 (by decide) ?_
      refine z_iinc C 3 (a3 + (1 : Int32)) [(3, zi (a3 + (1 : Int32))), (0, zr (some 72)), (1, zi a1), (2, zi a2), (4, zi a4)] rfl d_M_channelMany_64 (by first | rfl | decide) (by decide) rfl ?_
      refine z_goto C 4 d_M_channelMany_67 (by decide) ?_
      refine zq_lsub [1, 2, 3, 0] [(0, zr (some 72)), (1, zi a1), (2, zi a2), (3, zi (a3 + (1 : Int32)))] rfl ?_
      exact hk4 a1 a2 (a3 + (1 : Int32)) S h
    · refine z_icmp_gef C 64 c3 d_M_channelMany_23 (by decide) ?_
      refine z_iload_n C 2 rfl d_M_channelMany_26 rfl ?_
      refine z_aload_n C 0 rfl d_M_channelMany_27 rfl ?_
      refine z_iload_n C 3 rfl d_M_channelMany_28 rfl ?_
      refine z_iload C 4 rfl d_M_channelMany_29 ?_
      obtain ⟨r5, h4, h⟩ := zb1_some h
      refine z_cV C 11 (by decide) (m_M_farOf l h4) mf_M_farOf lk_11_134 in_M_farOf se_M_farOf rfl zo_72 zk_72 ⟨rfl, rfl⟩ ⟨by decide, by decide⟩ ⟨Nat.zero_le _, Nat.zero_le _⟩ rfl _ [zi a2] rfl (Nat.le_of_ble_eq_true rfl) d_M_channelMany_31 ?_
      rcases zite h with ⟨c6, h⟩ | ⟨c6, h⟩
      · refine z_if_let C 55 c6 d_M_channelMany_34 (by decide) ?_
        refine z_iconst C (0 : Int32) (by decide) d_M_channelMany_55 ?_
        refine z_iadd C d_M_channelMany_56 ?_
        refine z_istore_n C [(2, zi (a2 + (0 : Int32))), (0, zr (some 72)), (1, zi a1), (3, zi a3), (4, zi a4)] d_M_channelMany_57 rfl (by decide) rfl ?_
        refine z_iinc C 4 (a4 + (1 : Int32)) [(4, zi (a4 + (1 : Int32))), (2, zi (a2 + (0 : Int32))), (0, zr (some 72)), (1, zi a1), (3, zi a3)] rfl d_M_channelMany_58 (by first | rfl | decide) (by decide) rfl ?_
        refine z_goto C 17 d_M_channelMany_61 (by decide) ?_
        refine zq_lsub [2, 3, 1, 4, 0] [(0, zr (some 72)), (1, zi a1), (2, zi (a2 + (0 : Int32))), (3, zi a3), (4, zi (a4 + (1 : Int32)))] rfl ?_
        exact ih a1 (a2 + (0 : Int32)) a3 (a4 + (1 : Int32)) S h
      · refine z_if_lef C 55 c6 d_M_channelMany_34 (by decide) ?_
        refine z_iload_n C 1 rfl d_M_channelMany_37 rfl ?_
        rcases zite h with ⟨c7, h⟩ | ⟨c7, h⟩
        · refine z_if_eqt C 51 c7 d_M_channelMany_38 (by decide) ?_
          refine z_iconst C (1 : Int32) (by decide) d_M_channelMany_51 ?_
          refine z_goto C 56 d_M_channelMany_52 (by decide) ?_
          refine z_iadd C d_M_channelMany_56 ?_
          refine z_istore_n C [(2, zi (a2 + (1 : Int32))), (0, zr (some 72)), (1, zi a1), (3, zi a3), (4, zi a4)] d_M_channelMany_57 rfl (by decide) rfl ?_
          refine z_iinc C 4 (a4 + (1 : Int32)) [(4, zi (a4 + (1 : Int32))), (2, zi (a2 + (1 : Int32))), (0, zr (some 72)), (1, zi a1), (3, zi a3)] rfl d_M_channelMany_58 (by first | rfl | decide) (by decide) rfl ?_
          refine z_goto C 17 d_M_channelMany_61 (by decide) ?_
          refine zq_lsub [2, 3, 1, 4, 0] [(0, zr (some 72)), (1, zi a1), (2, zi (a2 + (1 : Int32))), (3, zi a3), (4, zi (a4 + (1 : Int32)))] rfl ?_
          exact ih a1 (a2 + (1 : Int32)) a3 (a4 + (1 : Int32)) S h
        · refine z_if_eqf C 51 c7 d_M_channelMany_38 (by decide) ?_
          refine z_aload_n C 0 rfl d_M_channelMany_41 rfl ?_
          refine z_iload_n C 3 rfl d_M_channelMany_42 rfl ?_
          refine z_iload C 4 rfl d_M_channelMany_43 ?_
          obtain ⟨r9, h8, h⟩ := zb1_some h
          refine z_cV C 11 (by decide) (m_M_isShut l h8) mf_M_isShut lk_11_338 in_M_isShut se_M_isShut rfl zo_72 zk_72 ⟨rfl, rfl⟩ ⟨by decide, by decide⟩ ⟨Nat.zero_le _, Nat.zero_le _⟩ rfl _ [zi a2] rfl (Nat.le_of_ble_eq_true rfl) d_M_channelMany_45 ?_
          rcases zite h with ⟨c10, h⟩ | ⟨c10, h⟩
          · refine z_if_eqt C 55 c10 d_M_channelMany_48 (by decide) ?_
            refine z_iconst C (0 : Int32) (by decide) d_M_channelMany_55 ?_
            refine z_iadd C d_M_channelMany_56 ?_
            refine z_istore_n C [(2, zi (a2 + (0 : Int32))), (0, zr (some 72)), (1, zi a1), (3, zi a3), (4, zi a4)] d_M_channelMany_57 rfl (by decide) rfl ?_
            refine z_iinc C 4 (a4 + (1 : Int32)) [(4, zi (a4 + (1 : Int32))), (2, zi (a2 + (0 : Int32))), (0, zr (some 72)), (1, zi a1), (3, zi a3)] rfl d_M_channelMany_58 (by first | rfl | decide) (by decide) rfl ?_
            refine z_goto C 17 d_M_channelMany_61 (by decide) ?_
            refine zq_lsub [2, 3, 1, 4, 0] [(0, zr (some 72)), (1, zi a1), (2, zi (a2 + (0 : Int32))), (3, zi a3), (4, zi (a4 + (1 : Int32)))] rfl ?_
            exact ih a1 (a2 + (0 : Int32)) a3 (a4 + (1 : Int32)) S h
          · refine z_if_eqf C 55 c10 d_M_channelMany_48 (by decide) ?_
            refine z_iconst C (1 : Int32) (by decide) d_M_channelMany_51 ?_
            refine z_goto C 56 d_M_channelMany_52 (by decide) ?_
            refine z_iadd C d_M_channelMany_56 ?_
            refine z_istore_n C [(2, zi (a2 + (1 : Int32))), (0, zr (some 72)), (1, zi a1), (3, zi a3), (4, zi a4)] d_M_channelMany_57 rfl (by decide) rfl ?_
            refine z_iinc C 4 (a4 + (1 : Int32)) [(4, zi (a4 + (1 : Int32))), (2, zi (a2 + (1 : Int32))), (0, zr (some 72)), (1, zi a1), (3, zi a3)] rfl d_M_channelMany_58 (by first | rfl | decide) (by decide) rfl ?_
            refine z_goto C 17 d_M_channelMany_61 (by decide) ?_
            refine zq_lsub [2, 3, 1, 4, 0] [(0, zr (some 72)), (1, zi a1), (2, zi (a2 + (1 : Int32))), (3, zi a3), (4, zi (a4 + (1 : Int32)))] rfl ?_
            exact ih a1 (a2 + (1 : Int32)) a3 (a4 + (1 : Int32)) S h
set_option maxRecDepth 100000 in
set_option maxHeartbeats 4000000 in
theorem c_M_channelMany_4 {p : Program} {l : Launch} {e : Env} {s : State} {m : MethodId} {args : Array Value} {below : List Frame} {meth : Method} {c : Code} {G : zG} (C : zC p s m args meth c G b_M_channelMany 5 y_M_channelMany.cls) (hret : meth.sig.returnType = (some .int)) {fu : Nat} {r : Int32} : ∀ (n : Nat) (a1 : Int32) (a2 : Int32) (a3 : Int32) (S : zSt) , f_M_channelMany_4 fu n a1 a2 a3 S = some r → zJ p l e rm_M_channelMany s m args below meth c G true 5 0 0 (zQm below G args s rm_M_channelMany true (some (zi r)) S) S 4 [(0, zr (some 72)), (1, zi a1), (2, zi a2), (3, zi a3)] [] := by
  intro n
  induction n with
  | zero =>
    intro a1 a2 a3 S h
    cases h
  | succ n ih =>
    intro a1 a2 a3 S h
    rw [f_M_channelMany_4] at h
    refine z_iload_n C 3 rfl d_M_channelMany_4 rfl ?_
    refine z_aload_n C 0 rfl d_M_channelMany_5 rfl ?_
    obtain ⟨r2, h1, h⟩ := zb1_some h
    refine z_cV C 11 (by decide) (m_M_springMany l h1) mf_M_springMany lk_11_118 in_M_springMany se_M_springMany rfl zo_72 zk_72 ⟨rfl, rfl⟩ ⟨by decide, by decide⟩ ⟨Nat.zero_le _, Nat.zero_le _⟩ rfl _ [zi a3] rfl (Nat.le_of_ble_eq_true rfl) d_M_channelMany_6 ?_
    rcases zite h with ⟨c3, h⟩ | ⟨c3, h⟩
    · refine z_icmp_get C 70 c3 d_M_channelMany_9 (by decide) ?_
      refine z_iload_n C 2 rfl d_M_channelMany_70 rfl ?_
      cases h
      exact z_iret C .int hret rfl ⟨Nat.zero_le _, Nat.zero_le _⟩ d_M_channelMany_71
    · refine z_icmp_gef C 70 c3 d_M_channelMany_9 (by decide) ?_
      refine z_iload_n C 3 rfl d_M_channelMany_12 rfl ?_
      refine z_iconst C (1 : Int32) (by decide) d_M_channelMany_13 ?_
      refine z_iadd C d_M_channelMany_14 ?_
      refine z_istore C [(4, zi (a3 + (1 : Int32))), (0, zr (some 72)), (1, zi a1), (2, zi a2), (3, zi a3)] d_M_channelMany_15 (by decide) rfl ?_
      refine zq_lsub [1, 2, 3, 4, 0] [(0, zr (some 72)), (1, zi a1), (2, zi a2), (3, zi a3), (4, zi (a3 + (1 : Int32)))] rfl ?_
      exact c_M_channelMany_17 C hret (fun z0 z1 z2 zS zh => ih z0 z1 z2 zS zh) fu  a1 a2 a3 (a3 + (1 : Int32)) S h
set_option maxRecDepth 100000 in
set_option maxHeartbeats 4000000 in
theorem m_M_channelMany (l : Launch) {fu : Nat} {a1 : Int32} {S : zSt} {r : Int32} (h : f_M_channelMany fu a1 S = some r) : zPM l y_M_channelMany b_M_channelMany 5 (some .int) rm_M_channelMany true true [zr (some 72), zi a1] S (some (zi r)) S := by
  refine zPM_of (by decide) (Nat.le_of_ble_eq_true rfl) (fun p e s m args below meth c G C hret hname => ?_)
  unfold f_M_channelMany at h
  refine (?_ : zJ p l e rm_M_channelMany s m args below meth c G true 5 0 0 (zQm below G args s rm_M_channelMany true (some (zi r)) S) S 0 [(0, zr (some 72)), (1, zi a1)] [])
  refine z_iconst C (0 : Int32) (by decide) d_M_channelMany_0 ?_
  refine z_istore_n C [(2, zi (0 : Int32)), (0, zr (some 72)), (1, zi a1)] d_M_channelMany_1 rfl (by decide) rfl ?_
  refine z_iconst C (0 : Int32) (by decide) d_M_channelMany_2 ?_
  refine z_istore_n C [(3, zi (0 : Int32)), (2, zi (0 : Int32)), (0, zr (some 72)), (1, zi a1)] d_M_channelMany_3 rfl (by decide) rfl ?_
  refine zq_lsub [2, 3, 1, 0] [(0, zr (some 72)), (1, zi a1), (2, zi (0 : Int32)), (3, zi (0 : Int32))] rfl ?_
  exact c_M_channelMany_4 C hret fu  a1 (0 : Int32) (0 : Int32) S h
def f_M_shutMany (fu : Nat) (S : zSt) : Option Int32 := zb1 (f_M_channelMany fu (1 : Int32) S) (fun r2 => some r2)
set_option maxRecDepth 100000 in
set_option maxHeartbeats 4000000 in
theorem m_M_shutMany (l : Launch) {fu : Nat} {S : zSt} {r : Int32} (h : f_M_shutMany fu  S = some r) : zPM l y_M_shutMany b_M_shutMany 1 (some .int) rm_M_shutMany true true [zr (some 72)] S (some (zi r)) S := by
  refine zPM_of (by decide) (Nat.le_of_ble_eq_true rfl) (fun p e s m args below meth c G C hret hname => ?_)
  unfold f_M_shutMany at h
  refine (?_ : zJ p l e rm_M_shutMany s m args below meth c G true 1 0 0 (zQm below G args s rm_M_shutMany true (some (zi r)) S) S 0 [(0, zr (some 72))] [])
  refine z_aload_n C 0 rfl d_M_shutMany_0 rfl ?_
  refine z_iconst C (1 : Int32) (by decide) d_M_shutMany_1 ?_
  obtain ⟨r2, h1, h⟩ := zb1_some h
  refine z_cV C 11 (by decide) (m_M_channelMany l h1) mf_M_channelMany lk_11_341 in_M_channelMany se_M_channelMany rfl zo_72 zk_72 ⟨rfl, rfl⟩ ⟨by decide, by decide⟩ ⟨Nat.zero_le _, Nat.zero_le _⟩ rfl _ [] rfl (Nat.le_of_ble_eq_true rfl) d_M_shutMany_2 ?_
  cases h
  exact z_iret C .int hret rfl ⟨Nat.zero_le _, Nat.zero_le _⟩ d_M_shutMany_5
def f_M_orderValue (fu : Nat) (a1 : Int32) (a2 : Int32) (S : zSt) : Option Int32 := if a1 = (14 : Int32) then zb1 (f_M_isSpring a2 S) (fun r3 => if r3 = 0 then some (-1 : Int32) else zgd (0 ≤ ((1 : Int32) + a2) ∧ ((1 : Int32) + a2).toNatClampNeg < 5807) (some (zI S 74 ((1 : Int32) + a2).toNatClampNeg))) else if a1 = (15 : Int32) then some (zI S 74 (91 : Int32).toNatClampNeg) else if a1 = (16 : Int32) then some (zI S 72 27) else if a1 = (17 : Int32) then some (zI S 72 28) else if a1 = (18 : Int32) then some (zI S 74 (0 : Int32).toNatClampNeg) else if a1 = (19 : Int32) then zb1 (f_M_shutMany fu S) (fun r12 => some r12) else zb1 (f_M_isSpring a2 S) (fun r14 => if r14 = 0 then some (-1 : Int32) else zgd (0 ≤ a2 ∧ a2.toNatClampNeg < 9) (some (zI S 85 a2.toNatClampNeg)))
set_option maxRecDepth 100000 in
set_option maxHeartbeats 4000000 in
theorem m_M_orderValue (l : Launch) {fu : Nat} {a1 : Int32} {a2 : Int32} {S : zSt} {r : Int32} (h : f_M_orderValue fu a1 a2 S = some r) : zPM l y_M_orderValue b_M_orderValue 3 (some .int) rm_M_orderValue true true [zr (some 72), zi a1, zi a2] S (some (zi r)) S := by
  refine zPM_of (by decide) (Nat.le_of_ble_eq_true rfl) (fun p e s m args below meth c G C hret hname => ?_)
  unfold f_M_orderValue at h
  refine (?_ : zJ p l e rm_M_orderValue s m args below meth c G true 3 0 0 (zQm below G args s rm_M_orderValue true (some (zi r)) S) S 0 [(0, zr (some 72)), (1, zi a1), (2, zi a2)] [])
  refine z_iload_n C 1 rfl d_M_orderValue_0 rfl ?_
  rcases zite h with ⟨c1, h⟩ | ⟨c1, h⟩
  · refine z_tab C (14 : Int32) 39 40 c1 (by decide) (by decide) (by decide) (by decide) d_M_orderValue_1 ?_
    refine z_aload_n C 0 rfl d_M_orderValue_40 rfl ?_
    refine z_iload_n C 2 rfl d_M_orderValue_41 rfl ?_
    obtain ⟨r3, h2, h⟩ := zb1_some h
    refine z_cV C 11 (by decide) (m_M_isSpring l h2) mf_M_isSpring lk_11_122 in_M_isSpring se_M_isSpring rfl zo_72 zk_72 ⟨rfl, rfl⟩ ⟨by decide, by decide⟩ ⟨Nat.zero_le _, Nat.zero_le _⟩ rfl _ [] rfl (Nat.le_of_ble_eq_true rfl) d_M_orderValue_42 ?_
    rcases zite h with ⟨c4, h⟩ | ⟨c4, h⟩
    · refine z_if_eqt C 59 c4 d_M_orderValue_45 (by decide) ?_
      refine z_iconst C (-1 : Int32) (by decide) d_M_orderValue_59 ?_
      cases h
      exact z_iret C .int hret rfl ⟨Nat.zero_le _, Nat.zero_le _⟩ d_M_orderValue_60
    · refine z_if_eqf C 59 c4 d_M_orderValue_45 (by decide) ?_
      refine z_aload_n C 0 rfl d_M_orderValue_48 rfl ?_
      refine z_getF2 C 11 (by decide) 2 (by decide) rfl 2 5807 rfl (74) rfl zp_72 zk_72 zfl_11_24 d_M_orderValue_49 ?_
      refine z_iconst C (1 : Int32) (by decide) d_M_orderValue_52 ?_
      refine z_iload_n C 2 rfl d_M_orderValue_53 rfl ?_
      refine z_iadd C d_M_orderValue_54 ?_
      refine z_fact (fun hSR => ?_)
      obtain ⟨g5, h⟩ := zgd_some h
      refine z_ialoadS C zo_74 zk_74 (za_74 hSR) g5 d_M_orderValue_55 ?_
      refine z_goto C 60 d_M_orderValue_56 (by decide) ?_
      cases h
      exact z_iret C .int hret rfl ⟨Nat.zero_le _, Nat.zero_le _⟩ d_M_orderValue_60
  · rcases zite h with ⟨c6, h⟩ | ⟨c6, h⟩
    · refine z_tab C (15 : Int32) 60 61 c6 (by decide) (by decide) (by decide) (by decide) d_M_orderValue_1 ?_
      refine z_aload_n C 0 rfl d_M_orderValue_61 rfl ?_
      refine z_getF2 C 11 (by decide) 2 (by decide) rfl 2 5807 rfl (74) rfl zp_72 zk_72 zfl_11_24 d_M_orderValue_62 ?_
      refine z_bipush C (91 : Int32) (by decide) d_M_orderValue_65 ?_
      refine z_fact (fun hSR => ?_)
      refine z_ialoadS C zo_74 zk_74 (za_74 hSR) (by decide) d_M_orderValue_67 ?_
      cases h
      exact z_iret C .int hret rfl ⟨Nat.zero_le _, Nat.zero_le _⟩ d_M_orderValue_68
    · rcases zite h with ⟨c7, h⟩ | ⟨c7, h⟩
      · refine z_tab C (16 : Int32) 68 69 c7 (by decide) (by decide) (by decide) (by decide) d_M_orderValue_1 ?_
        refine z_aload_n C 0 rfl d_M_orderValue_69 rfl ?_
        refine z_getI C 11 (by decide) 27 (by decide) rfl zo_72 zk_72 zfl_11_304 d_M_orderValue_70 ?_
        cases h
        exact z_iret C .int hret rfl ⟨Nat.zero_le _, Nat.zero_le _⟩ d_M_orderValue_73
      · rcases zite h with ⟨c8, h⟩ | ⟨c8, h⟩
        · refine z_tab C (17 : Int32) 73 74 c8 (by decide) (by decide) (by decide) (by decide) d_M_orderValue_1 ?_
          refine z_aload_n C 0 rfl d_M_orderValue_74 rfl ?_
          refine z_getI C 11 (by decide) 28 (by decide) rfl zo_72 zk_72 zfl_11_307 d_M_orderValue_75 ?_
          cases h
          exact z_iret C .int hret rfl ⟨Nat.zero_le _, Nat.zero_le _⟩ d_M_orderValue_78
        · rcases zite h with ⟨c9, h⟩ | ⟨c9, h⟩
          · refine z_tab C (18 : Int32) 78 79 c9 (by decide) (by decide) (by decide) (by decide) d_M_orderValue_1 ?_
            refine z_aload_n C 0 rfl d_M_orderValue_79 rfl ?_
            refine z_getF2 C 11 (by decide) 2 (by decide) rfl 2 5807 rfl (74) rfl zp_72 zk_72 zfl_11_24 d_M_orderValue_80 ?_
            refine z_iconst C (0 : Int32) (by decide) d_M_orderValue_83 ?_
            refine z_fact (fun hSR => ?_)
            refine z_ialoadS C zo_74 zk_74 (za_74 hSR) (by decide) d_M_orderValue_84 ?_
            cases h
            exact z_iret C .int hret rfl ⟨Nat.zero_le _, Nat.zero_le _⟩ d_M_orderValue_85
          · rcases zite h with ⟨c10, h⟩ | ⟨c10, h⟩
            · refine z_tab C (19 : Int32) 85 86 c10 (by decide) (by decide) (by decide) (by decide) d_M_orderValue_1 ?_
              refine z_aload_n C 0 rfl d_M_orderValue_86 rfl ?_
              obtain ⟨r12, h11, h⟩ := zb1_some h
              refine z_cV C 11 (by decide) (m_M_shutMany l h11) mf_M_shutMany lk_11_310 in_M_shutMany se_M_shutMany rfl zo_72 zk_72 ⟨rfl, rfl⟩ ⟨by decide, by decide⟩ ⟨Nat.zero_le _, Nat.zero_le _⟩ rfl _ [] rfl (Nat.le_of_ble_eq_true rfl) d_M_orderValue_87 ?_
              cases h
              exact z_iret C .int hret rfl ⟨Nat.zero_le _, Nat.zero_le _⟩ d_M_orderValue_90
            · refine z_tabO C (14) 6 (by decide) (fun j hj => by match j, hj with | 0, _ => exact c1 | 1, _ => exact c6 | 2, _ => exact c7 | 3, _ => exact c8 | 4, _ => exact c9 | 5, _ => exact c10 | j + 6, hj => omega) 91 (by decide) d_M_orderValue_1 ?_
              refine z_aload_n C 0 rfl d_M_orderValue_91 rfl ?_
              refine z_iload_n C 2 rfl d_M_orderValue_92 rfl ?_
              obtain ⟨r14, h13, h⟩ := zb1_some h
              refine z_cV C 11 (by decide) (m_M_isSpring l h13) mf_M_isSpring lk_11_122 in_M_isSpring se_M_isSpring rfl zo_72 zk_72 ⟨rfl, rfl⟩ ⟨by decide, by decide⟩ ⟨Nat.zero_le _, Nat.zero_le _⟩ rfl _ [] rfl (Nat.le_of_ble_eq_true rfl) d_M_orderValue_93 ?_
              rcases zite h with ⟨c15, h⟩ | ⟨c15, h⟩
              · refine z_if_eqt C 108 c15 d_M_orderValue_96 (by decide) ?_
                refine z_iconst C (-1 : Int32) (by decide) d_M_orderValue_108 ?_
                cases h
                exact z_iret C .int hret rfl ⟨Nat.zero_le _, Nat.zero_le _⟩ d_M_orderValue_109
              · refine z_if_eqf C 108 c15 d_M_orderValue_96 (by decide) ?_
                refine z_aload_n C 0 rfl d_M_orderValue_99 rfl ?_
                refine z_getF2 C 11 (by decide) 29 (by decide) rfl 13 9 rfl (85) rfl zp_72 zk_72 zfl_11_62 d_M_orderValue_100 ?_
                refine z_iload_n C 2 rfl d_M_orderValue_103 rfl ?_
                refine z_fact (fun hSR => ?_)
                obtain ⟨g16, h⟩ := zgd_some h
                refine z_ialoadS C zo_85 zk_85 (za_85 hSR) g16 d_M_orderValue_104 ?_
                refine z_goto C 109 d_M_orderValue_105 (by decide) ?_
                cases h
                exact z_iret C .int hret rfl ⟨Nat.zero_le _, Nat.zero_le _⟩ d_M_orderValue_109
def f_M_bounded (a1 : Int64) (a3 : Int32) (S : zSt) : Option (Int64 × zSt) := if a3 = 0 then if (zI S 72 24) = 0 then some (a1, S) else some ((0 : Int64), S) else if 0 < (lg_cmp a1 (1000000000 : Int64)) then if (zI (zwI S 72 24 (1 : Int32)) 72 24) = 0 then some (a1, zwI S 72 24 (1 : Int32)) else some ((0 : Int64), zwI S 72 24 (1 : Int32)) else if 0 ≤ (lg_cmp a1 (-1000000000 : Int64)) then if (zI S 72 24) = 0 then some (a1, S) else some ((0 : Int64), S) else if (zI (zwI S 72 24 (1 : Int32)) 72 24) = 0 then some (a1, zwI S 72 24 (1 : Int32)) else some ((0 : Int64), zwI S 72 24 (1 : Int32))
set_option maxRecDepth 100000 in
set_option maxHeartbeats 4000000 in
theorem m_M_bounded (l : Launch) {a1 : Int64} {a3 : Int32} {S : zSt} {r : Int64} {S1 : zSt} (h : f_M_bounded a1 a3 S = some (r, S1)) : zPM l y_M_bounded b_M_bounded 4 (some .long) rm_M_bounded true true [zr (some 72), zl a1, zi a3] S (some (zl r)) S1 := by
  refine zPM_of (by decide) (Nat.le_of_ble_eq_true rfl) (fun p e s m args below meth c G C hret hname => ?_)
  unfold f_M_bounded at h
  refine (?_ : zJ p l e rm_M_bounded s m args below meth c G true 4 0 0 (zQm below G args s rm_M_bounded true (some (zl r)) S1) S 0 [(0, zr (some 72)), (1, zl a1), (3, zi a3)] [])
  refine z_iload_n C 2 rfl d_M_bounded_0 rfl ?_
  rcases zite h with ⟨c1, h⟩ | ⟨c1, h⟩
  · refine z_if_eqt C 25 c1 d_M_bounded_1 (by decide) ?_
    refine z_aload_n C 0 rfl d_M_bounded_25 rfl ?_
    refine z_getI C 11 (by decide) 24 (by decide) rfl zo_72 zk_72 zfl_11_278 d_M_bounded_26 ?_
    rcases zite h with ⟨c2, h⟩ | ⟨c2, h⟩
    · refine z_if_eqt C 36 c2 d_M_bounded_29 (by decide) ?_
      refine z_lload_n C 1 rfl d_M_bounded_36 rfl ?_
      cases h
      exact z_lret C hret ⟨Nat.zero_le _, Nat.zero_le _⟩ d_M_bounded_37
    · refine z_if_eqf C 36 c2 d_M_bounded_29 (by decide) ?_
      refine z_lconst C (0 : Int64) (by decide) d_M_bounded_32 ?_
      refine z_goto C 37 d_M_bounded_33 (by decide) ?_
      cases h
      exact z_lret C hret ⟨Nat.zero_le _, Nat.zero_le _⟩ d_M_bounded_37
  · refine z_if_eqf C 25 c1 d_M_bounded_1 (by decide) ?_
    refine z_lload_n C 1 rfl d_M_bounded_4 rfl ?_
    refine z_ldc2 C zc_11_274 d_M_bounded_5 ?_
    refine z_lcmp C d_M_bounded_8 ?_
    rcases zite h with ⟨c3, h⟩ | ⟨c3, h⟩
    · refine z_if_gtt C 20 c3 d_M_bounded_9 (by decide) ?_
      refine z_aload_n C 0 rfl d_M_bounded_20 rfl ?_
      refine z_iconst C (1 : Int32) (by decide) d_M_bounded_21 ?_
      refine z_putI C 11 (by decide) 24 (by decide) rfl (Or.inr (Or.inr rfl)) zo_72 zk_72 zfl_11_278 (Or.inl rfl) d_M_bounded_22 ?_
      refine z_aload_n C 0 rfl d_M_bounded_25 rfl ?_
      refine z_getI C 11 (by decide) 24 (by decide) rfl zo_72 zk_72 zfl_11_278 d_M_bounded_26 ?_
      rcases zite h with ⟨c4, h⟩ | ⟨c4, h⟩
      · refine z_if_eqt C 36 c4 d_M_bounded_29 (by decide) ?_
        refine z_lload_n C 1 rfl d_M_bounded_36 rfl ?_
        cases h
        exact z_lret C hret ⟨Nat.zero_le _, Nat.zero_le _⟩ d_M_bounded_37
      · refine z_if_eqf C 36 c4 d_M_bounded_29 (by decide) ?_
        refine z_lconst C (0 : Int64) (by decide) d_M_bounded_32 ?_
        refine z_goto C 37 d_M_bounded_33 (by decide) ?_
        cases h
        exact z_lret C hret ⟨Nat.zero_le _, Nat.zero_le _⟩ d_M_bounded_37
    · refine z_if_gtf C 20 c3 d_M_bounded_9 (by decide) ?_
      refine z_lload_n C 1 rfl d_M_bounded_12 rfl ?_
      refine z_ldc2 C zc_11_276 d_M_bounded_13 ?_
      refine z_lcmp C d_M_bounded_16 ?_
      rcases zite h with ⟨c5, h⟩ | ⟨c5, h⟩
      · refine z_if_get C 25 c5 d_M_bounded_17 (by decide) ?_
        refine z_aload_n C 0 rfl d_M_bounded_25 rfl ?_
        refine z_getI C 11 (by decide) 24 (by decide) rfl zo_72 zk_72 zfl_11_278 d_M_bounded_26 ?_
        rcases zite h with ⟨c6, h⟩ | ⟨c6, h⟩
        · refine z_if_eqt C 36 c6 d_M_bounded_29 (by decide) ?_
          refine z_lload_n C 1 rfl d_M_bounded_36 rfl ?_
          cases h
          exact z_lret C hret ⟨Nat.zero_le _, Nat.zero_le _⟩ d_M_bounded_37
        · refine z_if_eqf C 36 c6 d_M_bounded_29 (by decide) ?_
          refine z_lconst C (0 : Int64) (by decide) d_M_bounded_32 ?_
          refine z_goto C 37 d_M_bounded_33 (by decide) ?_
          cases h
          exact z_lret C hret ⟨Nat.zero_le _, Nat.zero_le _⟩ d_M_bounded_37
      · refine z_if_gef C 25 c5 d_M_bounded_17 (by decide) ?_
        refine z_aload_n C 0 rfl d_M_bounded_20 rfl ?_
        refine z_iconst C (1 : Int32) (by decide) d_M_bounded_21 ?_
        refine z_putI C 11 (by decide) 24 (by decide) rfl (Or.inr (Or.inr rfl)) zo_72 zk_72 zfl_11_278 (Or.inl rfl) d_M_bounded_22 ?_
        refine z_aload_n C 0 rfl d_M_bounded_25 rfl ?_
        refine z_getI C 11 (by decide) 24 (by decide) rfl zo_72 zk_72 zfl_11_278 d_M_bounded_26 ?_
        rcases zite h with ⟨c7, h⟩ | ⟨c7, h⟩
        · refine z_if_eqt C 36 c7 d_M_bounded_29 (by decide) ?_
          refine z_lload_n C 1 rfl d_M_bounded_36 rfl ?_
          cases h
          exact z_lret C hret ⟨Nat.zero_le _, Nat.zero_le _⟩ d_M_bounded_37
        · refine z_if_eqf C 36 c7 d_M_bounded_29 (by decide) ?_
          refine z_lconst C (0 : Int64) (by decide) d_M_bounded_32 ?_
          refine z_goto C 37 d_M_bounded_33 (by decide) ?_
          cases h
          exact z_lret C hret ⟨Nat.zero_le _, Nat.zero_le _⟩ d_M_bounded_37
def f_M_partOf_94 (c_M_sumOf : Int32 → zSt → Option (Int64 × zSt)) (fu : Nat) (a1 : Int32) (a2 : Int32) (a3 : Int32) (S : zSt) : Option (Int64 × zSt) := if a1 = 0 then some ((0 : Int64), S) else if (zI S 72 24) = 0 then if a2 = (50 : Int32) then zgd (0 ≤ (((3007 : Int32) + (zI S 72 22)) - (1 : Int32)) ∧ (((3007 : Int32) + (zI S 72 22)) - (1 : Int32)).toNatClampNeg < 5807) (some ((zI S 74 (((3007 : Int32) + (zI S 72 22)) - (1 : Int32)).toNatClampNeg).toInt64, S)) else if (zI S 72 25) = 0 then zgd (0 ≤ (a2 - (9 : Int32)) ∧ (a2 - (9 : Int32)).toNatClampNeg < 7) (some ((zI S 84 (a2 - (9 : Int32)).toNatClampNeg).toInt64, S)) else zb1 (f_M_orderValue fu a2 a3 S) (fun r7 => some (r7.toInt64, S)) else some ((0 : Int64), S)
def f_M_partOf_70 (c_M_sumOf : Int32 → zSt → Option (Int64 × zSt)) (fu : Nat) (a1 : Int32) (a2 : Int32) (S : zSt) : Option (Int64 × zSt) := zgd (0 ≤ ((3007 : Int32) + (zI S 72 22)) ∧ ((3007 : Int32) + (zI S 72 22)).toNatClampNeg < 5807) (f_M_partOf_94 c_M_sumOf fu a1 a2 (zI S 74 ((3007 : Int32) + (zI S 72 22)).toNatClampNeg) (zwI S 72 22 ((zI S 72 22) + (1 : Int32))))
def f_M_partOf_o (c_M_sumOf : Int32 → zSt → Option (Int64 × zSt)) (fu : Nat) (a1 : Int32) (S : zSt) : Option (Int64 × zSt) := zb1 (f_M_sign (91 : Int32)) (fun r2 => zb2 (f_M_passes0 r2 S) (fun r4 S5 => if r4 = 0 then zb1 (f_M_codeAt (zI S5 72 22) S5) (fun r8 => if (zI (zwI S5 72 22 ((zI S5 72 22) + (1 : Int32))) 72 25) = 0 then f_M_partOf_94 c_M_sumOf fu a1 r8 (0 : Int32) (zwI S5 72 22 ((zI S5 72 22) + (1 : Int32))) else if r8 = (14 : Int32) then f_M_partOf_70 c_M_sumOf fu a1 r8 (zwI S5 72 22 ((zI S5 72 22) + (1 : Int32))) else if r8 = (20 : Int32) then f_M_partOf_70 c_M_sumOf fu a1 r8 (zwI S5 72 22 ((zI S5 72 22) + (1 : Int32))) else f_M_partOf_94 c_M_sumOf fu a1 r8 (0 : Int32) (zwI S5 72 22 ((zI S5 72 22) + (1 : Int32)))) else zb2 (c_M_sumOf a1 S5) (fun r13 S14 => some (r13, zwI S14 72 22 ((zI S14 72 22) + (1 : Int32))))))
set_option maxRecDepth 100000 in
set_option maxHeartbeats 4000000 in
theorem c_M_partOf_94 {p : Program} {l : Launch} {e : Env} {s : State} {m : MethodId} {args : Array Value} {below : List Frame} {meth : Method} {c : Code} {G : zG} (C : zC p s m args meth c G b_M_partOf 4 y_M_partOf.cls) (hret : meth.sig.returnType = (some .long)) {c_M_sumOf : Int32 → zSt → Option (Int64 × zSt)} {dp : Nat} {fu : Nat} {r : Int64} {S1 : zSt} (hc_M_sumOf : ∀ (a1 : Int32) (S : zSt) (r : Int64) (S1 : zSt), c_M_sumOf a1 S = some (r, S1) → zPM l y_M_sumOf b_M_sumOf 7 (some .long) (rm_g1 dp) true true [zr (some 72), zi a1] S (some (zl r)) S1) : ∀ (a1 : Int32) (a2 : Int32) (a3 : Int32) (S : zSt) , f_M_partOf_94 c_M_sumOf fu a1 a2 a3 S = some (r, S1) → zJ p l e (rm_g1 (dp + 1)) s m args below meth c G true 4 0 0 (zQm below G args s (rm_g1 (dp + 1)) true (some (zl r)) S1) S 94 [(0, zr (some 72)), (1, zi a1), (2, zi a2), (3, zi a3)] [] := by
  intro a1 a2 a3 S h
  unfold f_M_partOf_94 at h
  refine z_iload_n C 1 rfl d_M_partOf_94 rfl ?_
  rcases zite h with ⟨c1, h⟩ | ⟨c1, h⟩
  · refine z_if_eqt C 105 c1 d_M_partOf_95 (by decide) ?_
    refine z_lconst C (0 : Int64) (by decide) d_M_partOf_105 ?_
    cases h
    exact z_lret C hret ⟨Nat.zero_le _, Nat.zero_le _⟩ d_M_partOf_106
  · refine z_if_eqf C 105 c1 d_M_partOf_95 (by decide) ?_
    refine z_aload_n C 0 rfl d_M_partOf_98 rfl ?_
    refine z_getI C 11 (by decide) 24 (by decide) rfl zo_72 zk_72 zfl_11_278 d_M_partOf_99 ?_
    rcases zite h with ⟨c2, h⟩ | ⟨c2, h⟩
    · refine z_if_eqt C 107 c2 d_M_partOf_102 (by decide) ?_
      refine z_iload_n C 2 rfl d_M_partOf_107 rfl ?_
      refine z_bipush C (50 : Int32) (by decide) d_M_partOf_108 ?_
      rcases zite h with ⟨c3, h⟩ | ⟨c3, h⟩
      · refine z_icmp_nef C 130 c3 d_M_partOf_110 (by decide) ?_
        refine z_aload_n C 0 rfl d_M_partOf_113 rfl ?_
        refine z_getF2 C 11 (by decide) 2 (by decide) rfl 2 5807 rfl (74) rfl zp_72 zk_72 zfl_11_24 d_M_partOf_114 ?_
        refine z_sipush C (3007 : Int32) (by decide) d_M_partOf_117 ?_
        refine z_aload_n C 0 rfl d_M_partOf_120 rfl ?_
        refine z_getI C 11 (by decide) 22 (by decide) rfl zo_72 zk_72 zfl_11_268 d_M_partOf_121 ?_
        refine z_iadd C d_M_partOf_124 ?_
        refine z_iconst C (1 : Int32) (by decide) d_M_partOf_125 ?_
        refine z_isub C d_M_partOf_126 ?_
        refine z_fact (fun hSR => ?_)
        obtain ⟨g8, h⟩ := zgd_some h
        refine z_ialoadS C zo_74 zk_74 (za_74 hSR) g8 d_M_partOf_127 ?_
        refine z_i2l C d_M_partOf_128 ?_
        cases h
        exact z_lret C hret ⟨Nat.zero_le _, Nat.zero_le _⟩ d_M_partOf_129
      · refine z_icmp_net C 130 c3 d_M_partOf_110 (by decide) ?_
        refine z_aload_n C 0 rfl d_M_partOf_130 rfl ?_
        refine z_getI C 11 (by decide) 25 (by decide) rfl zo_72 zk_72 zfl_11_298 d_M_partOf_131 ?_
        rcases zite h with ⟨c4, h⟩ | ⟨c4, h⟩
        · refine z_if_eqt C 147 c4 d_M_partOf_134 (by decide) ?_
          refine z_aload_n C 0 rfl d_M_partOf_147 rfl ?_
          refine z_getF2 C 11 (by decide) 26 (by decide) rfl 12 7 rfl (84) rfl zp_72 zk_72 zfl_11_59 d_M_partOf_148 ?_
          refine z_iload_n C 2 rfl d_M_partOf_151 rfl ?_
          refine z_bipush C (9 : Int32) (by decide) d_M_partOf_152 ?_
          refine z_isub C d_M_partOf_154 ?_
          refine z_fact (fun hSR => ?_)
          obtain ⟨g5, h⟩ := zgd_some h
          refine z_ialoadS C zo_84 zk_84 (za_84 hSR) g5 d_M_partOf_155 ?_
          refine z_i2l C d_M_partOf_156 ?_
          cases h
          exact z_lret C hret ⟨Nat.zero_le _, Nat.zero_le _⟩ d_M_partOf_157
        · refine z_if_eqf C 147 c4 d_M_partOf_134 (by decide) ?_
          refine z_aload_n C 0 rfl d_M_partOf_137 rfl ?_
          refine z_iload_n C 2 rfl d_M_partOf_138 rfl ?_
          refine z_iload_n C 3 rfl d_M_partOf_139 rfl ?_
          obtain ⟨r7, h6, h⟩ := zb1_some h
          refine z_cV C 11 (by decide) (m_M_orderValue l h6) mf_M_orderValue lk_11_301 in_M_orderValue se_M_orderValue rfl zo_72 zk_72 ⟨rfl, rfl⟩ ⟨rm_le_M_partOf_M_orderValue.1, rm_le_M_partOf_M_orderValue.2⟩ ⟨Nat.zero_le _, Nat.zero_le _⟩ rfl _ [] rfl (Nat.le_of_ble_eq_true rfl) d_M_partOf_140 ?_
          refine z_i2l C d_M_partOf_143 ?_
          refine z_goto C 157 d_M_partOf_144 (by decide) ?_
          cases h
          exact z_lret C hret ⟨Nat.zero_le _, Nat.zero_le _⟩ d_M_partOf_157
    · refine z_if_eqf C 107 c2 d_M_partOf_102 (by decide) ?_
      refine z_lconst C (0 : Int64) (by decide) d_M_partOf_105 ?_
      cases h
      exact z_lret C hret ⟨Nat.zero_le _, Nat.zero_le _⟩ d_M_partOf_106
set_option maxRecDepth 100000 in
set_option maxHeartbeats 4000000 in
theorem c_M_partOf_70 {p : Program} {l : Launch} {e : Env} {s : State} {m : MethodId} {args : Array Value} {below : List Frame} {meth : Method} {c : Code} {G : zG} (C : zC p s m args meth c G b_M_partOf 4 y_M_partOf.cls) (hret : meth.sig.returnType = (some .long)) {c_M_sumOf : Int32 → zSt → Option (Int64 × zSt)} {dp : Nat} {fu : Nat} {r : Int64} {S1 : zSt} (hc_M_sumOf : ∀ (a1 : Int32) (S : zSt) (r : Int64) (S1 : zSt), c_M_sumOf a1 S = some (r, S1) → zPM l y_M_sumOf b_M_sumOf 7 (some .long) (rm_g1 dp) true true [zr (some 72), zi a1] S (some (zl r)) S1) : ∀ (a1 : Int32) (a2 : Int32) (S : zSt) , f_M_partOf_70 c_M_sumOf fu a1 a2 S = some (r, S1) → zJ p l e (rm_g1 (dp + 1)) s m args below meth c G true 4 0 0 (zQm below G args s (rm_g1 (dp + 1)) true (some (zl r)) S1) S 70 [(0, zr (some 72)), (1, zi a1), (2, zi a2)] [] := by
  intro a1 a2 S h
  unfold f_M_partOf_70 at h
  refine z_aload_n C 0 rfl d_M_partOf_70 rfl ?_
  refine z_getF2 C 11 (by decide) 2 (by decide) rfl 2 5807 rfl (74) rfl zp_72 zk_72 zfl_11_24 d_M_partOf_71 ?_
  refine z_sipush C (3007 : Int32) (by decide) d_M_partOf_74 ?_
  refine z_aload_n C 0 rfl d_M_partOf_77 rfl ?_
  refine z_getI C 11 (by decide) 22 (by decide) rfl zo_72 zk_72 zfl_11_268 d_M_partOf_78 ?_
  refine z_iadd C d_M_partOf_81 ?_
  refine z_fact (fun hSR => ?_)
  obtain ⟨g1, h⟩ := zgd_some h
  refine z_ialoadS C zo_74 zk_74 (za_74 hSR) g1 d_M_partOf_82 ?_
  refine z_istore_n C [(3, zi (zI S 74 ((3007 : Int32) + (zI S 72 22)).toNatClampNeg)), (0, zr (some 72)), (1, zi a1), (2, zi a2)] d_M_partOf_83 rfl (by decide) rfl ?_
  refine z_aload_n C 1 rfl d_M_partOf_84 rfl ?_
  refine z_dup C rfl d_M_partOf_85 ?_
  refine z_getI C 11 (by decide) 22 (by decide) rfl zo_72 zk_72 zfl_11_268 d_M_partOf_86 ?_
  refine z_iconst C (1 : Int32) (by decide) d_M_partOf_89 ?_
  refine z_iadd C d_M_partOf_90 ?_
  refine z_putI C 11 (by decide) 22 (by decide) rfl (Or.inl rfl) zo_72 zk_72 zfl_11_268 (Or.inl rfl) d_M_partOf_91 ?_
  refine zq_lsub [1, 2, 3, 0] [(0, zr (some 72)), (1, zi a1), (2, zi a2), (3, zi (zI S 74 ((3007 : Int32) + (zI S 72 22)).toNatClampNeg))] rfl ?_
  exact c_M_partOf_94 C hret hc_M_sumOf  a1 a2 (zI S 74 ((3007 : Int32) + (zI S 72 22)).toNatClampNeg) (zwI S 72 22 ((zI S 72 22) + (1 : Int32))) h
set_option maxRecDepth 100000 in
set_option maxHeartbeats 4000000 in
theorem m_M_partOf_o (l : Launch) {c_M_sumOf : Int32 → zSt → Option (Int64 × zSt)} {dp : Nat} {fu : Nat} {a1 : Int32} {S : zSt} {r : Int64} {S1 : zSt} (hc_M_sumOf : ∀ (a1 : Int32) (S : zSt) (r : Int64) (S1 : zSt), c_M_sumOf a1 S = some (r, S1) → zPM l y_M_sumOf b_M_sumOf 7 (some .long) (rm_g1 dp) true true [zr (some 72), zi a1] S (some (zl r)) S1) (h : f_M_partOf_o c_M_sumOf fu a1 S = some (r, S1)) : zPM l y_M_partOf b_M_partOf 4 (some .long) (rm_g1 (dp + 1)) true true [zr (some 72), zi a1] S (some (zl r)) S1 := by
  refine zPM_of (by decide) (Nat.le_of_ble_eq_true rfl) (fun p e s m args below meth c G C hret hname => ?_)
  unfold f_M_partOf_o at h
  refine (?_ : zJ p l e (rm_g1 (dp + 1)) s m args below meth c G true 4 0 0 (zQm below G args s (rm_g1 (dp + 1)) true (some (zl r)) S1) S 0 [(0, zr (some 72)), (1, zi a1)] [])
  refine z_aload_n C 0 rfl d_M_partOf_0 rfl ?_
  refine z_bipush C (91 : Int32) (by decide) d_M_partOf_1 ?_
  obtain ⟨r2, h1, h⟩ := zb1_some h
  refine z_cS C (m_M_sign l h1) mf_M_sign lk_11_227 st_M_sign ⟨rfl, rfl⟩ ⟨rm_le_M_partOf_M_sign.1, rm_le_M_partOf_M_sign.2⟩ ⟨Nat.zero_le _, Nat.zero_le _⟩ rfl _ [zr (some 72)] rfl (Nat.le_of_ble_eq_true rfl) d_M_partOf_3 ?_
  obtain ⟨r4, S5, h3, h⟩ := zb2_some h
  refine z_cV C 11 (by decide) (m_M_passes0 l h3) mf_M_passes0 lk_11_292 in_M_passes0 se_M_passes0 rfl zo_72 zk_72 ⟨rfl, rfl⟩ ⟨rm_le_M_partOf_M_passes0.1, rm_le_M_partOf_M_passes0.2⟩ ⟨Nat.zero_le _, Nat.zero_le _⟩ rfl _ [] rfl (Nat.le_of_ble_eq_true rfl) d_M_partOf_6 ?_
  rcases zite h with ⟨c6, h⟩ | ⟨c6, h⟩
  · refine z_if_eqt C 30 c6 d_M_partOf_9 (by decide) ?_
    refine z_aload_n C 0 rfl d_M_partOf_30 rfl ?_
    refine z_aload_n C 0 rfl d_M_partOf_31 rfl ?_
    refine z_getI C 11 (by decide) 22 (by decide) rfl zo_72 zk_72 zfl_11_268 d_M_partOf_32 ?_
    obtain ⟨r8, h7, h⟩ := zb1_some h
    refine z_cV C 11 (by decide) (m_M_codeAt l h7) mf_M_codeAt lk_11_271 in_M_codeAt se_M_codeAt rfl zo_72 zk_72 ⟨rfl, rfl⟩ ⟨rm_le_M_partOf_M_codeAt.1, rm_le_M_partOf_M_codeAt.2⟩ ⟨Nat.zero_le _, Nat.zero_le _⟩ rfl _ [] rfl (Nat.le_of_ble_eq_true rfl) d_M_partOf_35 ?_
    refine z_istore_n C [(2, zi r8), (0, zr (some 72)), (1, zi a1)] d_M_partOf_38 rfl (by decide) rfl ?_
    refine z_iconst C (0 : Int32) (by decide) d_M_partOf_39 ?_
    refine z_istore_n C [(3, zi (0 : Int32)), (2, zi r8), (0, zr (some 72)), (1, zi a1)] d_M_partOf_40 rfl (by decide) rfl ?_
    refine z_aload_n C 2 rfl d_M_partOf_41 rfl ?_
    refine z_dup C rfl d_M_partOf_42 ?_
    refine z_getI C 11 (by decide) 22 (by decide) rfl zo_72 zk_72 zfl_11_268 d_M_partOf_43 ?_
    refine z_iconst C (1 : Int32) (by decide) d_M_partOf_46 ?_
    refine z_iadd C d_M_partOf_47 ?_
    refine z_putI C 11 (by decide) 22 (by decide) rfl (Or.inl rfl) zo_72 zk_72 zfl_11_268 (Or.inl rfl) d_M_partOf_48 ?_
    refine z_aload_n C 2 rfl d_M_partOf_51 rfl ?_
    refine z_getI C 11 (by decide) 25 (by decide) rfl zo_72 zk_72 zfl_11_298 d_M_partOf_52 ?_
    rcases zite h with ⟨c9, h⟩ | ⟨c9, h⟩
    · refine z_if_eqt C 94 c9 d_M_partOf_55 (by decide) ?_
      refine zq_lsub [2, 3, 1, 0] [(0, zr (some 72)), (1, zi a1), (2, zi r8), (3, zi (0 : Int32))] rfl ?_
      exact c_M_partOf_94 C hret hc_M_sumOf  a1 r8 (0 : Int32) (zwI S5 72 22 ((zI S5 72 22) + (1 : Int32))) h
    · refine z_if_eqf C 94 c9 d_M_partOf_55 (by decide) ?_
      refine z_iload_n C 1 rfl d_M_partOf_58 rfl ?_
      refine z_bipush C (14 : Int32) (by decide) d_M_partOf_59 ?_
      rcases zite h with ⟨c10, h⟩ | ⟨c10, h⟩
      · refine z_icmp_eqt C 70 c10 d_M_partOf_61 (by decide) ?_
        refine zq_lsub [2, 3, 1] [(0, zr (some 72)), (1, zi a1), (2, zi r8)] rfl ?_
        exact c_M_partOf_70 C hret hc_M_sumOf  a1 r8 (zwI S5 72 22 ((zI S5 72 22) + (1 : Int32))) h
      · refine z_icmp_eqf C 70 c10 d_M_partOf_61 (by decide) ?_
        refine z_iload_n C 1 rfl d_M_partOf_64 rfl ?_
        refine z_bipush C (20 : Int32) (by decide) d_M_partOf_65 ?_
        rcases zite h with ⟨c11, h⟩ | ⟨c11, h⟩
        · refine z_icmp_nef C 94 c11 d_M_partOf_67 (by decide) ?_
          refine zq_lsub [2, 3, 1] [(0, zr (some 72)), (1, zi a1), (2, zi r8)] rfl ?_
          exact c_M_partOf_70 C hret hc_M_sumOf  a1 r8 (zwI S5 72 22 ((zI S5 72 22) + (1 : Int32))) h
        · refine z_icmp_net C 94 c11 d_M_partOf_67 (by decide) ?_
          refine zq_lsub [2, 3, 1, 0] [(0, zr (some 72)), (1, zi a1), (2, zi r8), (3, zi (0 : Int32))] rfl ?_
          exact c_M_partOf_94 C hret hc_M_sumOf  a1 r8 (0 : Int32) (zwI S5 72 22 ((zI S5 72 22) + (1 : Int32))) h
  · refine z_if_eqf C 30 c6 d_M_partOf_9 (by decide) ?_
    refine z_aload_n C 0 rfl d_M_partOf_12 rfl ?_
    refine z_iload_n C 1 rfl d_M_partOf_13 rfl ?_
    obtain ⟨r13, S14, h12, h⟩ := zb2_some h
    refine z_cV C 11 (by decide) (hc_M_sumOf a1 S5 _ _ h12) mf_M_sumOf lk_11_295 in_M_sumOf se_M_sumOf rfl zo_72 zk_72 ⟨rfl, rfl⟩ ⟨rm_le_M_partOf_M_sumOf.1, rm_le_M_partOf_M_sumOf.2⟩ ⟨Nat.zero_le _, Nat.zero_le _⟩ rfl _ [] rfl (Nat.le_of_ble_eq_true rfl) d_M_partOf_14 ?_
    refine z_lstore_n C [(2, zl r13), (0, zr (some 72)), (1, zi a1)] d_M_partOf_17 rfl (by decide) rfl ?_
    refine z_aload_n C 1 rfl d_M_partOf_18 rfl ?_
    refine z_dup C rfl d_M_partOf_19 ?_
    refine z_getI C 11 (by decide) 22 (by decide) rfl zo_72 zk_72 zfl_11_268 d_M_partOf_20 ?_
    refine z_iconst C (1 : Int32) (by decide) d_M_partOf_23 ?_
    refine z_iadd C d_M_partOf_24 ?_
    refine z_putI C 11 (by decide) 22 (by decide) rfl (Or.inl rfl) zo_72 zk_72 zfl_11_268 (Or.inl rfl) d_M_partOf_25 ?_
    refine z_lload_n C 0 rfl d_M_partOf_28 rfl ?_
    cases h
    exact z_lret C hret ⟨Nat.zero_le _, Nat.zero_le _⟩ d_M_partOf_29
def f_M_termOf_121 (c_M_partOf : Int32 → zSt → Option (Int64 × zSt)) (fu : Nat) (k6 : Int32 → Int64 → zSt → Option (Int64 × zSt)) (a1 : Int32) (a2 : Int64) (a4 : Int32) (a5 : Int64) (S : zSt) : Option (Int64 × zSt) := zb1 (f_M_sign (42 : Int32)) (fun r2 => if a4 = r2 then zb2 (f_M_bounded (a2 * a5) a1 S) (fun r16 S17 => k6 a1 r16 S17) else zb1 (f_M_sign (47 : Int32)) (fun r5 => if a4 = r5 then zgd (¬ a5 = 0) (zb2 (f_M_bounded (a2 / a5) a1 S) (fun r13 S14 => k6 a1 r13 S14)) else zgd (¬ a5 = 0) (zb2 (f_M_bounded (a2 - a2 / a5 * a5) a1 S) (fun r9 S10 => k6 a1 r9 S10))))
def f_M_termOf_54 (c_M_partOf : Int32 → zSt → Option (Int64 × zSt)) (fu : Nat) (k6 : Int32 → Int64 → zSt → Option (Int64 × zSt)) (a1 : Int32) (a2 : Int64) (S : zSt) : Option (Int64 × zSt) := zb1 (f_M_codeAt (zI S 72 22) S) (fun r2 => zb2 (c_M_partOf a1 (zwI S 72 22 ((zI S 72 22) + (1 : Int32)))) (fun r4 S5 => zb1 (f_M_sign (42 : Int32)) (fun r7 => if r2 = r7 then f_M_termOf_121 c_M_partOf fu k6 a1 a2 r2 r4 S5 else if (lg_cmp r4 (0 : Int64)) = 0 then if (zI S5 72 24) = 0 then if a1 = 0 then f_M_termOf_121 c_M_partOf fu k6 a1 a2 r2 (1 : Int64) (zwI S5 72 24 (0 : Int32)) else f_M_termOf_121 c_M_partOf fu k6 a1 a2 r2 (1 : Int64) (zwI S5 72 24 (1 : Int32)) else f_M_termOf_121 c_M_partOf fu k6 a1 a2 r2 (1 : Int64) (zwI S5 72 24 (1 : Int32)) else f_M_termOf_121 c_M_partOf fu k6 a1 a2 r2 r4 S5)))
def f_M_termOf_6 (c_M_partOf : Int32 → zSt → Option (Int64 × zSt)) (fu : Nat) : Nat → Int32 → Int64 → zSt → Option (Int64 × zSt)
  | 0, _, _, _ => none
  | n + 1, a1, a2, S => zb1 (f_M_codeAt (zI S 72 22) S) (fun r2 => zb1 (f_M_sign (42 : Int32)) (fun r4 => if r2 = r4 then f_M_termOf_54 c_M_partOf fu (f_M_termOf_6 c_M_partOf fu n) a1 a2 S else zb1 (f_M_codeAt (zI S 72 22) S) (fun r7 => zb1 (f_M_sign (47 : Int32)) (fun r9 => if r7 = r9 then f_M_termOf_54 c_M_partOf fu (f_M_termOf_6 c_M_partOf fu n) a1 a2 S else zb1 (f_M_codeAt (zI S 72 22) S) (fun r12 => zb1 (f_M_sign (37 : Int32)) (fun r14 => if r12 = r14 then f_M_termOf_54 c_M_partOf fu (f_M_termOf_6 c_M_partOf fu n) a1 a2 S else some (a2, S)))))))
def f_M_termOf_o (c_M_partOf : Int32 → zSt → Option (Int64 × zSt)) (fu : Nat) (a1 : Int32) (S : zSt) : Option (Int64 × zSt) := zb2 (c_M_partOf a1 S) (fun r2 S3 => f_M_termOf_6 c_M_partOf fu fu a1 r2 S3)
set_option maxRecDepth 100000 in
set_option maxHeartbeats 4000000 in
theorem c_M_termOf_121 {p : Program} {l : Launch} {e : Env} {s : State} {m : MethodId} {args : Array Value} {below : List Frame} {meth : Method} {c : Code} {G : zG} (C : zC p s m args meth c G b_M_termOf 7 y_M_termOf.cls) (hret : meth.sig.returnType = (some .long)) {c_M_partOf : Int32 → zSt → Option (Int64 × zSt)} {dp : Nat} {fu : Nat} {r : Int64} {S1 : zSt} (hc_M_partOf : ∀ (a1 : Int32) (S : zSt) (r : Int64) (S1 : zSt), c_M_partOf a1 S = some (r, S1) → zPM l y_M_partOf b_M_partOf 4 (some .long) (rm_g1 dp) true true [zr (some 72), zi a1] S (some (zl r)) S1) {k6 : Int32 → Int64 → zSt → Option (Int64 × zSt)} (hk6 : ∀ (a1 : Int32) (a2 : Int64) (S : zSt) , k6 a1 a2 S = some (r, S1) → zJ p l e (rm_g1 (dp + 1)) s m args below meth c G true 7 0 0 (zQm below G args s (rm_g1 (dp + 1)) true (some (zl r)) S1) S 6 [(0, zr (some 72)), (1, zi a1), (2, zl a2)] []) : ∀ (a1 : Int32) (a2 : Int64) (a4 : Int32) (a5 : Int64) (S : zSt) , f_M_termOf_121 c_M_partOf fu k6 a1 a2 a4 a5 S = some (r, S1) → zJ p l e (rm_g1 (dp + 1)) s m args below meth c G true 7 0 0 (zQm below G args s (rm_g1 (dp + 1)) true (some (zl r)) S1) S 121 [(0, zr (some 72)), (1, zi a1), (2, zl a2), (4, zi a4), (5, zl a5)] [] := by
  intro a1 a2 a4 a5 S h
  unfold f_M_termOf_121 at h
  refine z_aload_n C 0 rfl d_M_termOf_121 rfl ?_
  refine z_iload C 3 rfl d_M_termOf_122 ?_
  refine z_bipush C (42 : Int32) (by decide) d_M_termOf_124 ?_
  obtain ⟨r2, h1, h⟩ := zb1_some h
  refine z_cS C (m_M_sign l h1) mf_M_sign lk_11_227 st_M_sign ⟨rfl, rfl⟩ ⟨rm_le_M_termOf_M_sign.1, rm_le_M_termOf_M_sign.2⟩ ⟨Nat.zero_le _, Nat.zero_le _⟩ rfl _ [zi a4, zr (some 72)] rfl (Nat.le_of_ble_eq_true rfl) d_M_termOf_126 ?_
  rcases zite h with ⟨c3, h⟩ | ⟨c3, h⟩
  · refine z_icmp_nef C 139 c3 d_M_termOf_129 (by decide) ?_
    refine z_lload_n C 2 rfl d_M_termOf_132 rfl ?_
    refine z_lload C 4 rfl d_M_termOf_133 ?_
    refine z_lmul C d_M_termOf_135 ?_
    refine z_goto C 160 d_M_termOf_136 (by decide) ?_
    refine z_iload_n C 1 rfl d_M_termOf_160 rfl ?_
    obtain ⟨r16, S17, h15, h⟩ := zb2_some h
    refine z_cV C 11 (by decide) (m_M_bounded l h15) mf_M_bounded lk_11_285 in_M_bounded se_M_bounded rfl zo_72 zk_72 ⟨rfl, rfl⟩ ⟨rm_le_M_termOf_M_bounded.1, rm_le_M_termOf_M_bounded.2⟩ ⟨Nat.zero_le _, Nat.zero_le _⟩ rfl _ [] rfl (Nat.le_of_ble_eq_true rfl) d_M_termOf_161 ?_
    refine z_lstore_n C [(2, zl r16), (0, zr (some 72)), (1, zi a1), (4, zi a4), (5, zl a5)] d_M_termOf_164 rfl (by decide) rfl ?_
    refine z_goto C 6 d_M_termOf_165 (by decide) ?_
    refine zq_lsub [1, 2, 0] [(0, zr (some 72)), (1, zi a1), (2, zl r16)] rfl ?_
    exact hk6 a1 r16 S17 h
  · refine z_icmp_net C 139 c3 d_M_termOf_129 (by decide) ?_
    refine z_iload C 3 rfl d_M_termOf_139 ?_
    refine z_bipush C (47 : Int32) (by decide) d_M_termOf_141 ?_
    obtain ⟨r5, h4, h⟩ := zb1_some h
    refine z_cS C (m_M_sign l h4) mf_M_sign lk_11_227 st_M_sign ⟨rfl, rfl⟩ ⟨rm_le_M_termOf_M_sign.1, rm_le_M_termOf_M_sign.2⟩ ⟨Nat.zero_le _, Nat.zero_le _⟩ rfl _ [zi a4, zr (some 72)] rfl (Nat.le_of_ble_eq_true rfl) d_M_termOf_143 ?_
    rcases zite h with ⟨c6, h⟩ | ⟨c6, h⟩
    · refine z_icmp_nef C 156 c6 d_M_termOf_146 (by decide) ?_
      refine z_lload_n C 2 rfl d_M_termOf_149 rfl ?_
      refine z_lload C 4 rfl d_M_termOf_150 ?_
      obtain ⟨g11, h⟩ := zgd_some h
      refine z_ldiv C g11 d_M_termOf_152 ?_
      refine z_goto C 160 d_M_termOf_153 (by decide) ?_
      refine z_iload_n C 1 rfl d_M_termOf_160 rfl ?_
      obtain ⟨r13, S14, h12, h⟩ := zb2_some h
      refine z_cV C 11 (by decide) (m_M_bounded l h12) mf_M_bounded lk_11_285 in_M_bounded se_M_bounded rfl zo_72 zk_72 ⟨rfl, rfl⟩ ⟨rm_le_M_termOf_M_bounded.1, rm_le_M_termOf_M_bounded.2⟩ ⟨Nat.zero_le _, Nat.zero_le _⟩ rfl _ [] rfl (Nat.le_of_ble_eq_true rfl) d_M_termOf_161 ?_
      refine z_lstore_n C [(2, zl r13), (0, zr (some 72)), (1, zi a1), (4, zi a4), (5, zl a5)] d_M_termOf_164 rfl (by decide) rfl ?_
      refine z_goto C 6 d_M_termOf_165 (by decide) ?_
      refine zq_lsub [1, 2, 0] [(0, zr (some 72)), (1, zi a1), (2, zl r13)] rfl ?_
      exact hk6 a1 r13 S14 h
    · refine z_icmp_net C 156 c6 d_M_termOf_146 (by decide) ?_
      refine z_lload_n C 2 rfl d_M_termOf_156 rfl ?_
      refine z_lload C 4 rfl d_M_termOf_157 ?_
      obtain ⟨g7, h⟩ := zgd_some h
      refine z_lrem C g7 d_M_termOf_159 ?_
      refine z_iload_n C 1 rfl d_M_termOf_160 rfl ?_
      obtain ⟨r9, S10, h8, h⟩ := zb2_some h
      refine z_cV C 11 (by decide) (m_M_bounded l h8) mf_M_bounded lk_11_285 in_M_bounded se_M_bounded rfl zo_72 zk_72 ⟨rfl, rfl⟩ ⟨rm_le_M_termOf_M_bounded.1, rm_le_M_termOf_M_bounded.2⟩ ⟨Nat.zero_le _, Nat.zero_le _⟩ rfl _ [] rfl (Nat.le_of_ble_eq_true rfl) d_M_termOf_161 ?_
      refine z_lstore_n C [(2, zl r9), (0, zr (some 72)), (1, zi a1), (4, zi a4), (5, zl a5)] d_M_termOf_164 rfl (by decide) rfl ?_
      refine z_goto C 6 d_M_termOf_165 (by decide) ?_
      refine zq_lsub [1, 2, 0] [(0, zr (some 72)), (1, zi a1), (2, zl r9)] rfl ?_
      exact hk6 a1 r9 S10 h
set_option maxRecDepth 100000 in
set_option maxHeartbeats 4000000 in
theorem c_M_termOf_54 {p : Program} {l : Launch} {e : Env} {s : State} {m : MethodId} {args : Array Value} {below : List Frame} {meth : Method} {c : Code} {G : zG} (C : zC p s m args meth c G b_M_termOf 7 y_M_termOf.cls) (hret : meth.sig.returnType = (some .long)) {c_M_partOf : Int32 → zSt → Option (Int64 × zSt)} {dp : Nat} {fu : Nat} {r : Int64} {S1 : zSt} (hc_M_partOf : ∀ (a1 : Int32) (S : zSt) (r : Int64) (S1 : zSt), c_M_partOf a1 S = some (r, S1) → zPM l y_M_partOf b_M_partOf 4 (some .long) (rm_g1 dp) true true [zr (some 72), zi a1] S (some (zl r)) S1) {k6 : Int32 → Int64 → zSt → Option (Int64 × zSt)} (hk6 : ∀ (a1 : Int32) (a2 : Int64) (S : zSt) , k6 a1 a2 S = some (r, S1) → zJ p l e (rm_g1 (dp + 1)) s m args below meth c G true 7 0 0 (zQm below G args s (rm_g1 (dp + 1)) true (some (zl r)) S1) S 6 [(0, zr (some 72)), (1, zi a1), (2, zl a2)] []) : ∀ (a1 : Int32) (a2 : Int64) (S : zSt) , f_M_termOf_54 c_M_partOf fu k6 a1 a2 S = some (r, S1) → zJ p l e (rm_g1 (dp + 1)) s m args below meth c G true 7 0 0 (zQm below G args s (rm_g1 (dp + 1)) true (some (zl r)) S1) S 54 [(0, zr (some 72)), (1, zi a1), (2, zl a2)] [] := by
  intro a1 a2 S h
  unfold f_M_termOf_54 at h
  refine z_aload_n C 0 rfl d_M_termOf_54 rfl ?_
  refine z_aload_n C 0 rfl d_M_termOf_55 rfl ?_
  refine z_getI C 11 (by decide) 22 (by decide) rfl zo_72 zk_72 zfl_11_268 d_M_termOf_56 ?_
  obtain ⟨r2, h1, h⟩ := zb1_some h
  refine z_cV C 11 (by decide) (m_M_codeAt l h1) mf_M_codeAt lk_11_271 in_M_codeAt se_M_codeAt rfl zo_72 zk_72 ⟨rfl, rfl⟩ ⟨rm_le_M_termOf_M_codeAt.1, rm_le_M_termOf_M_codeAt.2⟩ ⟨Nat.zero_le _, Nat.zero_le _⟩ rfl _ [] rfl (Nat.le_of_ble_eq_true rfl) d_M_termOf_59 ?_
  refine z_istore C [(4, zi r2), (0, zr (some 72)), (1, zi a1), (2, zl a2)] d_M_termOf_62 (by decide) rfl ?_
  refine z_aload_n C 1 rfl d_M_termOf_64 rfl ?_
  refine z_dup C rfl d_M_termOf_65 ?_
  refine z_getI C 11 (by decide) 22 (by decide) rfl zo_72 zk_72 zfl_11_268 d_M_termOf_66 ?_
  refine z_iconst C (1 : Int32) (by decide) d_M_termOf_69 ?_
  refine z_iadd C d_M_termOf_70 ?_
  refine z_putI C 11 (by decide) 22 (by decide) rfl (Or.inl rfl) zo_72 zk_72 zfl_11_268 (Or.inl rfl) d_M_termOf_71 ?_
  refine z_aload_n C 1 rfl d_M_termOf_74 rfl ?_
  refine z_iload_n C 2 rfl d_M_termOf_75 rfl ?_
  obtain ⟨r4, S5, h3, h⟩ := zb2_some h
  refine z_cV C 11 (by decide) (hc_M_partOf a1 (zwI S 72 22 ((zI S 72 22) + (1 : Int32))) _ _ h3) mf_M_partOf lk_11_289 in_M_partOf se_M_partOf rfl zo_72 zk_72 ⟨rfl, rfl⟩ ⟨rm_le_M_termOf_M_partOf.1, rm_le_M_termOf_M_partOf.2⟩ ⟨Nat.zero_le _, Nat.zero_le _⟩ rfl _ [] rfl (Nat.le_of_ble_eq_true rfl) d_M_termOf_76 ?_
  refine z_lstore C [(5, zl r4), (4, zi r2), (0, zr (some 72)), (1, zi a1), (2, zl a2)] d_M_termOf_79 (by decide) rfl ?_
  refine z_iload C 1 rfl d_M_termOf_81 ?_
  refine z_bipush C (42 : Int32) (by decide) d_M_termOf_83 ?_
  obtain ⟨r7, h6, h⟩ := zb1_some h
  refine z_cS C (m_M_sign l h6) mf_M_sign lk_11_227 st_M_sign ⟨rfl, rfl⟩ ⟨rm_le_M_termOf_M_sign.1, rm_le_M_termOf_M_sign.2⟩ ⟨Nat.zero_le _, Nat.zero_le _⟩ rfl _ [zi r2] rfl (Nat.le_of_ble_eq_true rfl) d_M_termOf_85 ?_
  rcases zite h with ⟨c8, h⟩ | ⟨c8, h⟩
  · refine z_icmp_eqt C 121 c8 d_M_termOf_88 (by decide) ?_
    refine zq_lsub [2, 3, 4, 1, 0] [(0, zr (some 72)), (1, zi a1), (2, zl a2), (4, zi r2), (5, zl r4)] rfl ?_
    exact c_M_termOf_121 C hret hc_M_partOf hk6  a1 a2 r2 r4 S5 h
  · refine z_icmp_eqf C 121 c8 d_M_termOf_88 (by decide) ?_
    refine z_lload C 0 rfl d_M_termOf_91 ?_
    refine z_lconst C (0 : Int64) (by decide) d_M_termOf_93 ?_
    refine z_lcmp C d_M_termOf_94 ?_
    rcases zite h with ⟨c9, h⟩ | ⟨c9, h⟩
    · refine z_if_nef C 121 c9 d_M_termOf_95 (by decide) ?_
      refine z_aload_n C 2 rfl d_M_termOf_98 rfl ?_
      refine z_aload_n C 2 rfl d_M_termOf_99 rfl ?_
      refine z_getI C 11 (by decide) 24 (by decide) rfl zo_72 zk_72 zfl_11_278 d_M_termOf_100 ?_
      rcases zite h with ⟨c10, h⟩ | ⟨c10, h⟩
      · refine z_if_nef C 110 c10 d_M_termOf_103 (by decide) ?_
        refine z_iload_n C 3 rfl d_M_termOf_106 rfl ?_
        rcases zite h with ⟨c11, h⟩ | ⟨c11, h⟩
        · refine z_if_eqt C 114 c11 d_M_termOf_107 (by decide) ?_
          refine z_iconst C (0 : Int32) (by decide) d_M_termOf_114 ?_
          refine z_putI C 11 (by decide) 24 (by decide) rfl (Or.inr (Or.inl rfl)) zo_72 zk_72 zfl_11_278 (Or.inl rfl) d_M_termOf_115 ?_
          refine z_lconst C (1 : Int64) (by decide) d_M_termOf_118 ?_
          refine z_lstore C [(5, zl (1 : Int64)), (4, zi r2), (0, zr (some 72)), (1, zi a1), (2, zl a2)] d_M_termOf_119 (by decide) rfl ?_
          refine zq_lsub [2, 3, 4, 1, 0] [(0, zr (some 72)), (1, zi a1), (2, zl a2), (4, zi r2), (5, zl (1 : Int64))] rfl ?_
          exact c_M_termOf_121 C hret hc_M_partOf hk6  a1 a2 r2 (1 : Int64) (zwI S5 72 24 (0 : Int32)) h
        · refine z_if_eqf C 114 c11 d_M_termOf_107 (by decide) ?_
          refine z_iconst C (1 : Int32) (by decide) d_M_termOf_110 ?_
          refine z_goto C 115 d_M_termOf_111 (by decide) ?_
          refine z_putI C 11 (by decide) 24 (by decide) rfl (Or.inr (Or.inr rfl)) zo_72 zk_72 zfl_11_278 (Or.inl rfl) d_M_termOf_115 ?_
          refine z_lconst C (1 : Int64) (by decide) d_M_termOf_118 ?_
          refine z_lstore C [(5, zl (1 : Int64)), (4, zi r2), (0, zr (some 72)), (1, zi a1), (2, zl a2)] d_M_termOf_119 (by decide) rfl ?_
          refine zq_lsub [2, 3, 4, 1, 0] [(0, zr (some 72)), (1, zi a1), (2, zl a2), (4, zi r2), (5, zl (1 : Int64))] rfl ?_
          exact c_M_termOf_121 C hret hc_M_partOf hk6  a1 a2 r2 (1 : Int64) (zwI S5 72 24 (1 : Int32)) h
      · refine z_if_net C 110 c10 d_M_termOf_103 (by decide) ?_
        refine z_iconst C (1 : Int32) (by decide) d_M_termOf_110 ?_
        refine z_goto C 115 d_M_termOf_111 (by decide) ?_
        refine z_putI C 11 (by decide) 24 (by decide) rfl (Or.inr (Or.inr rfl)) zo_72 zk_72 zfl_11_278 (Or.inl rfl) d_M_termOf_115 ?_
        refine z_lconst C (1 : Int64) (by decide) d_M_termOf_118 ?_
        refine z_lstore C [(5, zl (1 : Int64)), (4, zi r2), (0, zr (some 72)), (1, zi a1), (2, zl a2)] d_M_termOf_119 (by decide) rfl ?_
        refine zq_lsub [2, 3, 4, 1, 0] [(0, zr (some 72)), (1, zi a1), (2, zl a2), (4, zi r2), (5, zl (1 : Int64))] rfl ?_
        exact c_M_termOf_121 C hret hc_M_partOf hk6  a1 a2 r2 (1 : Int64) (zwI S5 72 24 (1 : Int32)) h
    · refine z_if_net C 121 c9 d_M_termOf_95 (by decide) ?_
      refine zq_lsub [2, 3, 4, 1, 0] [(0, zr (some 72)), (1, zi a1), (2, zl a2), (4, zi r2), (5, zl r4)] rfl ?_
      exact c_M_termOf_121 C hret hc_M_partOf hk6  a1 a2 r2 r4 S5 h
set_option maxRecDepth 100000 in
set_option maxHeartbeats 4000000 in
theorem c_M_termOf_6 {p : Program} {l : Launch} {e : Env} {s : State} {m : MethodId} {args : Array Value} {below : List Frame} {meth : Method} {c : Code} {G : zG} (C : zC p s m args meth c G b_M_termOf 7 y_M_termOf.cls) (hret : meth.sig.returnType = (some .long)) {c_M_partOf : Int32 → zSt → Option (Int64 × zSt)} {dp : Nat} {fu : Nat} {r : Int64} {S1 : zSt} (hc_M_partOf : ∀ (a1 : Int32) (S : zSt) (r : Int64) (S1 : zSt), c_M_partOf a1 S = some (r, S1) → zPM l y_M_partOf b_M_partOf 4 (some .long) (rm_g1 dp) true true [zr (some 72), zi a1] S (some (zl r)) S1) : ∀ (n : Nat) (a1 : Int32) (a2 : Int64) (S : zSt) , f_M_termOf_6 c_M_partOf fu n a1 a2 S = some (r, S1) → zJ p l e (rm_g1 (dp + 1)) s m args below meth c G true 7 0 0 (zQm below G args s (rm_g1 (dp + 1)) true (some (zl r)) S1) S 6 [(0, zr (some 72)), (1, zi a1), (2, zl a2)] [] := by
  intro n
  induction n with
  | zero =>
    intro a1 a2 S h
    cases h
  | succ n ih =>
    intro a1 a2 S h
    rw [f_M_termOf_6] at h
    refine z_aload_n C 0 rfl d_M_termOf_6 rfl ?_
    refine z_aload_n C 0 rfl d_M_termOf_7 rfl ?_
    refine z_getI C 11 (by decide) 22 (by decide) rfl zo_72 zk_72 zfl_11_268 d_M_termOf_8 ?_
    obtain ⟨r2, h1, h⟩ := zb1_some h
    refine z_cV C 11 (by decide) (m_M_codeAt l h1) mf_M_codeAt lk_11_271 in_M_codeAt se_M_codeAt rfl zo_72 zk_72 ⟨rfl, rfl⟩ ⟨rm_le_M_termOf_M_codeAt.1, rm_le_M_termOf_M_codeAt.2⟩ ⟨Nat.zero_le _, Nat.zero_le _⟩ rfl _ [] rfl (Nat.le_of_ble_eq_true rfl) d_M_termOf_11 ?_
    refine z_bipush C (42 : Int32) (by decide) d_M_termOf_14 ?_
    obtain ⟨r4, h3, h⟩ := zb1_some h
    refine z_cS C (m_M_sign l h3) mf_M_sign lk_11_227 st_M_sign ⟨rfl, rfl⟩ ⟨rm_le_M_termOf_M_sign.1, rm_le_M_termOf_M_sign.2⟩ ⟨Nat.zero_le _, Nat.zero_le _⟩ rfl _ [zi r2] rfl (Nat.le_of_ble_eq_true rfl) d_M_termOf_16 ?_
    rcases zite h with ⟨c5, h⟩ | ⟨c5, h⟩
    · refine z_icmp_eqt C 54 c5 d_M_termOf_19 (by decide) ?_
      refine zq_lsub [0, 1, 2] [(0, zr (some 72)), (1, zi a1), (2, zl a2)] rfl ?_
      exact c_M_termOf_54 C hret hc_M_partOf (fun z0 z1 zS zh => ih z0 z1 zS zh)  a1 a2 S h
    · refine z_icmp_eqf C 54 c5 d_M_termOf_19 (by decide) ?_
      refine z_aload_n C 0 rfl d_M_termOf_22 rfl ?_
      refine z_aload_n C 0 rfl d_M_termOf_23 rfl ?_
      refine z_getI C 11 (by decide) 22 (by decide) rfl zo_72 zk_72 zfl_11_268 d_M_termOf_24 ?_
      obtain ⟨r7, h6, h⟩ := zb1_some h
      refine z_cV C 11 (by decide) (m_M_codeAt l h6) mf_M_codeAt lk_11_271 in_M_codeAt se_M_codeAt rfl zo_72 zk_72 ⟨rfl, rfl⟩ ⟨rm_le_M_termOf_M_codeAt.1, rm_le_M_termOf_M_codeAt.2⟩ ⟨Nat.zero_le _, Nat.zero_le _⟩ rfl _ [] rfl (Nat.le_of_ble_eq_true rfl) d_M_termOf_27 ?_
      refine z_bipush C (47 : Int32) (by decide) d_M_termOf_30 ?_
      obtain ⟨r9, h8, h⟩ := zb1_some h
      refine z_cS C (m_M_sign l h8) mf_M_sign lk_11_227 st_M_sign ⟨rfl, rfl⟩ ⟨rm_le_M_termOf_M_sign.1, rm_le_M_termOf_M_sign.2⟩ ⟨Nat.zero_le _, Nat.zero_le _⟩ rfl _ [zi r7] rfl (Nat.le_of_ble_eq_true rfl) d_M_termOf_32 ?_
      rcases zite h with ⟨c10, h⟩ | ⟨c10, h⟩
      · refine z_icmp_eqt C 54 c10 d_M_termOf_35 (by decide) ?_
        refine zq_lsub [0, 1, 2] [(0, zr (some 72)), (1, zi a1), (2, zl a2)] rfl ?_
        exact c_M_termOf_54 C hret hc_M_partOf (fun z0 z1 zS zh => ih z0 z1 zS zh)  a1 a2 S h
      · refine z_icmp_eqf C 54 c10 d_M_termOf_35 (by decide) ?_
        refine z_aload_n C 0 rfl d_M_termOf_38 rfl ?_
        refine z_aload_n C 0 rfl d_M_termOf_39 rfl ?_
        refine z_getI C 11 (by decide) 22 (by decide) rfl zo_72 zk_72 zfl_11_268 d_M_termOf_40 ?_
        obtain ⟨r12, h11, h⟩ := zb1_some h
        refine z_cV C 11 (by decide) (m_M_codeAt l h11) mf_M_codeAt lk_11_271 in_M_codeAt se_M_codeAt rfl zo_72 zk_72 ⟨rfl, rfl⟩ ⟨rm_le_M_termOf_M_codeAt.1, rm_le_M_termOf_M_codeAt.2⟩ ⟨Nat.zero_le _, Nat.zero_le _⟩ rfl _ [] rfl (Nat.le_of_ble_eq_true rfl) d_M_termOf_43 ?_
        refine z_bipush C (37 : Int32) (by decide) d_M_termOf_46 ?_
        obtain ⟨r14, h13, h⟩ := zb1_some h
        refine z_cS C (m_M_sign l h13) mf_M_sign lk_11_227 st_M_sign ⟨rfl, rfl⟩ ⟨rm_le_M_termOf_M_sign.1, rm_le_M_termOf_M_sign.2⟩ ⟨Nat.zero_le _, Nat.zero_le _⟩ rfl _ [zi r12] rfl (Nat.le_of_ble_eq_true rfl) d_M_termOf_48 ?_
        rcases zite h with ⟨c15, h⟩ | ⟨c15, h⟩
        · refine z_icmp_nef C 168 c15 d_M_termOf_51 (by decide) ?_
          refine zq_lsub [0, 1, 2] [(0, zr (some 72)), (1, zi a1), (2, zl a2)] rfl ?_
          exact c_M_termOf_54 C hret hc_M_partOf (fun z0 z1 zS zh => ih z0 z1 zS zh)  a1 a2 S h
        · refine z_icmp_net C 168 c15 d_M_termOf_51 (by decide) ?_
          refine z_lload_n C 2 rfl d_M_termOf_168 rfl ?_
          cases h
          exact z_lret C hret ⟨Nat.zero_le _, Nat.zero_le _⟩ d_M_termOf_169
set_option maxRecDepth 100000 in
set_option maxHeartbeats 4000000 in
theorem m_M_termOf_o (l : Launch) {c_M_partOf : Int32 → zSt → Option (Int64 × zSt)} {dp : Nat} {fu : Nat} {a1 : Int32} {S : zSt} {r : Int64} {S1 : zSt} (hc_M_partOf : ∀ (a1 : Int32) (S : zSt) (r : Int64) (S1 : zSt), c_M_partOf a1 S = some (r, S1) → zPM l y_M_partOf b_M_partOf 4 (some .long) (rm_g1 dp) true true [zr (some 72), zi a1] S (some (zl r)) S1) (h : f_M_termOf_o c_M_partOf fu a1 S = some (r, S1)) : zPM l y_M_termOf b_M_termOf 7 (some .long) (rm_g1 (dp + 1)) true true [zr (some 72), zi a1] S (some (zl r)) S1 := by
  refine zPM_of (by decide) (Nat.le_of_ble_eq_true rfl) (fun p e s m args below meth c G C hret hname => ?_)
  unfold f_M_termOf_o at h
  refine (?_ : zJ p l e (rm_g1 (dp + 1)) s m args below meth c G true 7 0 0 (zQm below G args s (rm_g1 (dp + 1)) true (some (zl r)) S1) S 0 [(0, zr (some 72)), (1, zi a1)] [])
  refine z_aload_n C 0 rfl d_M_termOf_0 rfl ?_
  refine z_iload_n C 1 rfl d_M_termOf_1 rfl ?_
  obtain ⟨r2, S3, h1, h⟩ := zb2_some h
  refine z_cV C 11 (by decide) (hc_M_partOf a1 S _ _ h1) mf_M_partOf lk_11_289 in_M_partOf se_M_partOf rfl zo_72 zk_72 ⟨rfl, rfl⟩ ⟨rm_le_M_termOf_M_partOf.1, rm_le_M_termOf_M_partOf.2⟩ ⟨Nat.zero_le _, Nat.zero_le _⟩ rfl _ [] rfl (Nat.le_of_ble_eq_true rfl) d_M_termOf_2 ?_
  refine z_lstore_n C [(2, zl r2), (0, zr (some 72)), (1, zi a1)] d_M_termOf_5 rfl (by decide) rfl ?_
  refine zq_lsub [1, 2, 0] [(0, zr (some 72)), (1, zi a1), (2, zl r2)] rfl ?_
  exact c_M_termOf_6 C hret hc_M_partOf fu  a1 r2 S3 h
def f_M_sumOf_59 (c_M_termOf : Int32 → zSt → Option (Int64 × zSt)) (fu : Nat) (k6 : Int32 → Int64 → zSt → Option (Int64 × zSt)) (a1 : Int32) (a2 : Int64) (k0 : Int32) (S : zSt) : Option (Int64 × zSt) := zb2 (c_M_termOf a1 (zwI S 72 22 ((zI S 72 22) + (1 : Int32)))) (fun r2 S3 => if k0 = 0 then zb2 (f_M_bounded (a2 - r2) a1 S3) (fun r6 S7 => k6 a1 r6 S7) else zb2 (f_M_bounded (a2 + r2) a1 S3) (fun r9 S10 => k6 a1 r9 S10))
def f_M_sumOf_6 (c_M_termOf : Int32 → zSt → Option (Int64 × zSt)) (fu : Nat) : Nat → Int32 → Int64 → zSt → Option (Int64 × zSt)
  | 0, _, _, _ => none
  | n + 1, a1, a2, S => zb1 (f_M_codeAt (zI S 72 22) S) (fun r2 => zb1 (f_M_sign (43 : Int32)) (fun r4 => if r2 = r4 then zb1 (f_M_codeAt (zI S 72 22) S) (fun r7 => zb1 (f_M_sign (43 : Int32)) (fun r9 => if r7 = r9 then f_M_sumOf_59 c_M_termOf fu (f_M_sumOf_6 c_M_termOf fu n) a1 a2 (1 : Int32) S else f_M_sumOf_59 c_M_termOf fu (f_M_sumOf_6 c_M_termOf fu n) a1 a2 (0 : Int32) S)) else zb1 (f_M_codeAt (zI S 72 22) S) (fun r12 => zb1 (f_M_sign (45 : Int32)) (fun r14 => if r12 = r14 then zb1 (f_M_codeAt (zI S 72 22) S) (fun r17 => zb1 (f_M_sign (43 : Int32)) (fun r19 => if r17 = r19 then f_M_sumOf_59 c_M_termOf fu (f_M_sumOf_6 c_M_termOf fu n) a1 a2 (1 : Int32) S else f_M_sumOf_59 c_M_termOf fu (f_M_sumOf_6 c_M_termOf fu n) a1 a2 (0 : Int32) S)) else some (a2, S)))))
def f_M_sumOf_o (c_M_termOf : Int32 → zSt → Option (Int64 × zSt)) (fu : Nat) (a1 : Int32) (S : zSt) : Option (Int64 × zSt) := zb2 (c_M_termOf a1 S) (fun r2 S3 => f_M_sumOf_6 c_M_termOf fu fu a1 r2 S3)
set_option maxRecDepth 100000 in
set_option maxHeartbeats 4000000 in
theorem c_M_sumOf_59 {p : Program} {l : Launch} {e : Env} {s : State} {m : MethodId} {args : Array Value} {below : List Frame} {meth : Method} {c : Code} {G : zG} (C : zC p s m args meth c G b_M_sumOf 7 y_M_sumOf.cls) (hret : meth.sig.returnType = (some .long)) {c_M_termOf : Int32 → zSt → Option (Int64 × zSt)} {dp : Nat} {fu : Nat} {r : Int64} {S1 : zSt} (hc_M_termOf : ∀ (a1 : Int32) (S : zSt) (r : Int64) (S1 : zSt), c_M_termOf a1 S = some (r, S1) → zPM l y_M_termOf b_M_termOf 7 (some .long) (rm_g1 dp) true true [zr (some 72), zi a1] S (some (zl r)) S1) {k6 : Int32 → Int64 → zSt → Option (Int64 × zSt)} (hk6 : ∀ (a1 : Int32) (a2 : Int64) (S : zSt) , k6 a1 a2 S = some (r, S1) → zJ p l e (rm_g1 (dp + 1)) s m args below meth c G true 7 0 0 (zQm below G args s (rm_g1 (dp + 1)) true (some (zl r)) S1) S 6 [(0, zr (some 72)), (1, zi a1), (2, zl a2)] []) : ∀ (a1 : Int32) (a2 : Int64) (k0 : Int32) (S : zSt) , f_M_sumOf_59 c_M_termOf fu k6 a1 a2 k0 S = some (r, S1) → zJ p l e (rm_g1 (dp + 1)) s m args below meth c G true 7 0 0 (zQm below G args s (rm_g1 (dp + 1)) true (some (zl r)) S1) S 59 [(0, zr (some 72)), (1, zi a1), (2, zl a2)] [zi k0] := by
  intro a1 a2 k0 S h
  unfold f_M_sumOf_59 at h
  refine z_istore C [(4, zi k0), (0, zr (some 72)), (1, zi a1), (2, zl a2)] d_M_sumOf_59 (by decide) rfl ?_
  refine z_aload_n C 1 rfl d_M_sumOf_61 rfl ?_
  refine z_dup C rfl d_M_sumOf_62 ?_
  refine z_getI C 11 (by decide) 22 (by decide) rfl zo_72 zk_72 zfl_11_268 d_M_sumOf_63 ?_
  refine z_iconst C (1 : Int32) (by decide) d_M_sumOf_66 ?_
  refine z_iadd C d_M_sumOf_67 ?_
  refine z_putI C 11 (by decide) 22 (by decide) rfl (Or.inl rfl) zo_72 zk_72 zfl_11_268 (Or.inl rfl) d_M_sumOf_68 ?_
  refine z_aload_n C 1 rfl d_M_sumOf_71 rfl ?_
  refine z_iload_n C 2 rfl d_M_sumOf_72 rfl ?_
  obtain ⟨r2, S3, h1, h⟩ := zb2_some h
  refine z_cV C 11 (by decide) (hc_M_termOf a1 (zwI S 72 22 ((zI S 72 22) + (1 : Int32))) _ _ h1) mf_M_termOf lk_11_281 in_M_termOf se_M_termOf rfl zo_72 zk_72 ⟨rfl, rfl⟩ ⟨rm_le_M_sumOf_M_termOf.1, rm_le_M_sumOf_M_termOf.2⟩ ⟨Nat.zero_le _, Nat.zero_le _⟩ rfl _ [] rfl (Nat.le_of_ble_eq_true rfl) d_M_sumOf_73 ?_
  refine z_lstore C [(5, zl r2), (4, zi k0), (0, zr (some 72)), (1, zi a1), (2, zl a2)] d_M_sumOf_76 (by decide) rfl ?_
  refine z_aload_n C 2 rfl d_M_sumOf_78 rfl ?_
  refine z_iload C 1 rfl d_M_sumOf_79 ?_
  rcases zite h with ⟨c4, h⟩ | ⟨c4, h⟩
  · refine z_if_eqt C 91 c4 d_M_sumOf_81 (by decide) ?_
    refine z_lload_n C 4 rfl d_M_sumOf_91 rfl ?_
    refine z_lload C 0 rfl d_M_sumOf_92 ?_
    refine z_lsub C d_M_sumOf_94 ?_
    refine z_iload_n C 3 rfl d_M_sumOf_95 rfl ?_
    obtain ⟨r6, S7, h5, h⟩ := zb2_some h
    refine z_cV C 11 (by decide) (m_M_bounded l h5) mf_M_bounded lk_11_285 in_M_bounded se_M_bounded rfl zo_72 zk_72 ⟨rfl, rfl⟩ ⟨rm_le_M_sumOf_M_bounded.1, rm_le_M_sumOf_M_bounded.2⟩ ⟨Nat.zero_le _, Nat.zero_le _⟩ rfl _ [] rfl (Nat.le_of_ble_eq_true rfl) d_M_sumOf_96 ?_
    refine z_lstore_n C [(2, zl r6), (5, zl r2), (4, zi k0), (0, zr (some 72)), (1, zi a1)] d_M_sumOf_99 rfl (by decide) rfl ?_
    refine z_goto C 6 d_M_sumOf_100 (by decide) ?_
    refine zq_lsub [3, 4, 0] [(0, zr (some 72)), (1, zi a1), (2, zl r6)] rfl ?_
    exact hk6 a1 r6 S7 h
  · refine z_if_eqf C 91 c4 d_M_sumOf_81 (by decide) ?_
    refine z_lload_n C 4 rfl d_M_sumOf_84 rfl ?_
    refine z_lload C 0 rfl d_M_sumOf_85 ?_
    refine z_ladd C d_M_sumOf_87 ?_
    refine z_goto C 95 d_M_sumOf_88 (by decide) ?_
    refine z_iload_n C 3 rfl d_M_sumOf_95 rfl ?_
    obtain ⟨r9, S10, h8, h⟩ := zb2_some h
    refine z_cV C 11 (by decide) (m_M_bounded l h8) mf_M_bounded lk_11_285 in_M_bounded se_M_bounded rfl zo_72 zk_72 ⟨rfl, rfl⟩ ⟨rm_le_M_sumOf_M_bounded.1, rm_le_M_sumOf_M_bounded.2⟩ ⟨Nat.zero_le _, Nat.zero_le _⟩ rfl _ [] rfl (Nat.le_of_ble_eq_true rfl) d_M_sumOf_96 ?_
    refine z_lstore_n C [(2, zl r9), (5, zl r2), (4, zi k0), (0, zr (some 72)), (1, zi a1)] d_M_sumOf_99 rfl (by decide) rfl ?_
    refine z_goto C 6 d_M_sumOf_100 (by decide) ?_
    refine zq_lsub [3, 4, 0] [(0, zr (some 72)), (1, zi a1), (2, zl r9)] rfl ?_
    exact hk6 a1 r9 S10 h
set_option maxRecDepth 100000 in
set_option maxHeartbeats 4000000 in
theorem c_M_sumOf_6 {p : Program} {l : Launch} {e : Env} {s : State} {m : MethodId} {args : Array Value} {below : List Frame} {meth : Method} {c : Code} {G : zG} (C : zC p s m args meth c G b_M_sumOf 7 y_M_sumOf.cls) (hret : meth.sig.returnType = (some .long)) {c_M_termOf : Int32 → zSt → Option (Int64 × zSt)} {dp : Nat} {fu : Nat} {r : Int64} {S1 : zSt} (hc_M_termOf : ∀ (a1 : Int32) (S : zSt) (r : Int64) (S1 : zSt), c_M_termOf a1 S = some (r, S1) → zPM l y_M_termOf b_M_termOf 7 (some .long) (rm_g1 dp) true true [zr (some 72), zi a1] S (some (zl r)) S1) : ∀ (n : Nat) (a1 : Int32) (a2 : Int64) (S : zSt) , f_M_sumOf_6 c_M_termOf fu n a1 a2 S = some (r, S1) → zJ p l e (rm_g1 (dp + 1)) s m args below meth c G true 7 0 0 (zQm below G args s (rm_g1 (dp + 1)) true (some (zl r)) S1) S 6 [(0, zr (some 72)), (1, zi a1), (2, zl a2)] [] := by
  intro n
  induction n with
  | zero =>
    intro a1 a2 S h
    cases h
  | succ n ih =>
    intro a1 a2 S h
    rw [f_M_sumOf_6] at h
    refine z_aload_n C 0 rfl d_M_sumOf_6 rfl ?_
    refine z_aload_n C 0 rfl d_M_sumOf_7 rfl ?_
    refine z_getI C 11 (by decide) 22 (by decide) rfl zo_72 zk_72 zfl_11_268 d_M_sumOf_8 ?_
    obtain ⟨r2, h1, h⟩ := zb1_some h
    refine z_cV C 11 (by decide) (m_M_codeAt l h1) mf_M_codeAt lk_11_271 in_M_codeAt se_M_codeAt rfl zo_72 zk_72 ⟨rfl, rfl⟩ ⟨rm_le_M_sumOf_M_codeAt.1, rm_le_M_sumOf_M_codeAt.2⟩ ⟨Nat.zero_le _, Nat.zero_le _⟩ rfl _ [] rfl (Nat.le_of_ble_eq_true rfl) d_M_sumOf_11 ?_
    refine z_bipush C (43 : Int32) (by decide) d_M_sumOf_14 ?_
    obtain ⟨r4, h3, h⟩ := zb1_some h
    refine z_cS C (m_M_sign l h3) mf_M_sign lk_11_227 st_M_sign ⟨rfl, rfl⟩ ⟨rm_le_M_sumOf_M_sign.1, rm_le_M_sumOf_M_sign.2⟩ ⟨Nat.zero_le _, Nat.zero_le _⟩ rfl _ [zi r2] rfl (Nat.le_of_ble_eq_true rfl) d_M_sumOf_16 ?_
    rcases zite h with ⟨c5, h⟩ | ⟨c5, h⟩
    · refine z_icmp_eqt C 38 c5 d_M_sumOf_19 (by decide) ?_
      refine z_aload_n C 0 rfl d_M_sumOf_38 rfl ?_
      refine z_aload_n C 0 rfl d_M_sumOf_39 rfl ?_
      refine z_getI C 11 (by decide) 22 (by decide) rfl zo_72 zk_72 zfl_11_268 d_M_sumOf_40 ?_
      obtain ⟨r7, h6, h⟩ := zb1_some h
      refine z_cV C 11 (by decide) (m_M_codeAt l h6) mf_M_codeAt lk_11_271 in_M_codeAt se_M_codeAt rfl zo_72 zk_72 ⟨rfl, rfl⟩ ⟨rm_le_M_sumOf_M_codeAt.1, rm_le_M_sumOf_M_codeAt.2⟩ ⟨Nat.zero_le _, Nat.zero_le _⟩ rfl _ [] rfl (Nat.le_of_ble_eq_true rfl) d_M_sumOf_43 ?_
      refine z_bipush C (43 : Int32) (by decide) d_M_sumOf_46 ?_
      obtain ⟨r9, h8, h⟩ := zb1_some h
      refine z_cS C (m_M_sign l h8) mf_M_sign lk_11_227 st_M_sign ⟨rfl, rfl⟩ ⟨rm_le_M_sumOf_M_sign.1, rm_le_M_sumOf_M_sign.2⟩ ⟨Nat.zero_le _, Nat.zero_le _⟩ rfl _ [zi r7] rfl (Nat.le_of_ble_eq_true rfl) d_M_sumOf_48 ?_
      rcases zite h with ⟨c10, h⟩ | ⟨c10, h⟩
      · refine z_icmp_nef C 58 c10 d_M_sumOf_51 (by decide) ?_
        refine z_iconst C (1 : Int32) (by decide) d_M_sumOf_54 ?_
        refine z_goto C 59 d_M_sumOf_55 (by decide) ?_
        refine zq_lsub [0, 1, 2] [(0, zr (some 72)), (1, zi a1), (2, zl a2)] rfl ?_
        exact c_M_sumOf_59 C hret hc_M_termOf (fun z0 z1 zS zh => ih z0 z1 zS zh)  a1 a2 (1 : Int32) S h
      · refine z_icmp_net C 58 c10 d_M_sumOf_51 (by decide) ?_
        refine z_iconst C (0 : Int32) (by decide) d_M_sumOf_58 ?_
        refine zq_lsub [0, 1, 2] [(0, zr (some 72)), (1, zi a1), (2, zl a2)] rfl ?_
        exact c_M_sumOf_59 C hret hc_M_termOf (fun z0 z1 zS zh => ih z0 z1 zS zh)  a1 a2 (0 : Int32) S h
    · refine z_icmp_eqf C 38 c5 d_M_sumOf_19 (by decide) ?_
      refine z_aload_n C 0 rfl d_M_sumOf_22 rfl ?_
      refine z_aload_n C 0 rfl d_M_sumOf_23 rfl ?_
      refine z_getI C 11 (by decide) 22 (by decide) rfl zo_72 zk_72 zfl_11_268 d_M_sumOf_24 ?_
      obtain ⟨r12, h11, h⟩ := zb1_some h
      refine z_cV C 11 (by decide) (m_M_codeAt l h11) mf_M_codeAt lk_11_271 in_M_codeAt se_M_codeAt rfl zo_72 zk_72 ⟨rfl, rfl⟩ ⟨rm_le_M_sumOf_M_codeAt.1, rm_le_M_sumOf_M_codeAt.2⟩ ⟨Nat.zero_le _, Nat.zero_le _⟩ rfl _ [] rfl (Nat.le_of_ble_eq_true rfl) d_M_sumOf_27 ?_
      refine z_bipush C (45 : Int32) (by decide) d_M_sumOf_30 ?_
      obtain ⟨r14, h13, h⟩ := zb1_some h
      refine z_cS C (m_M_sign l h13) mf_M_sign lk_11_227 st_M_sign ⟨rfl, rfl⟩ ⟨rm_le_M_sumOf_M_sign.1, rm_le_M_sumOf_M_sign.2⟩ ⟨Nat.zero_le _, Nat.zero_le _⟩ rfl _ [zi r12] rfl (Nat.le_of_ble_eq_true rfl) d_M_sumOf_32 ?_
      rcases zite h with ⟨c15, h⟩ | ⟨c15, h⟩
      · refine z_icmp_nef C 103 c15 d_M_sumOf_35 (by decide) ?_
        refine z_aload_n C 0 rfl d_M_sumOf_38 rfl ?_
        refine z_aload_n C 0 rfl d_M_sumOf_39 rfl ?_
        refine z_getI C 11 (by decide) 22 (by decide) rfl zo_72 zk_72 zfl_11_268 d_M_sumOf_40 ?_
        obtain ⟨r17, h16, h⟩ := zb1_some h
        refine z_cV C 11 (by decide) (m_M_codeAt l h16) mf_M_codeAt lk_11_271 in_M_codeAt se_M_codeAt rfl zo_72 zk_72 ⟨rfl, rfl⟩ ⟨rm_le_M_sumOf_M_codeAt.1, rm_le_M_sumOf_M_codeAt.2⟩ ⟨Nat.zero_le _, Nat.zero_le _⟩ rfl _ [] rfl (Nat.le_of_ble_eq_true rfl) d_M_sumOf_43 ?_
        refine z_bipush C (43 : Int32) (by decide) d_M_sumOf_46 ?_
        obtain ⟨r19, h18, h⟩ := zb1_some h
        refine z_cS C (m_M_sign l h18) mf_M_sign lk_11_227 st_M_sign ⟨rfl, rfl⟩ ⟨rm_le_M_sumOf_M_sign.1, rm_le_M_sumOf_M_sign.2⟩ ⟨Nat.zero_le _, Nat.zero_le _⟩ rfl _ [zi r17] rfl (Nat.le_of_ble_eq_true rfl) d_M_sumOf_48 ?_
        rcases zite h with ⟨c20, h⟩ | ⟨c20, h⟩
        · refine z_icmp_nef C 58 c20 d_M_sumOf_51 (by decide) ?_
          refine z_iconst C (1 : Int32) (by decide) d_M_sumOf_54 ?_
          refine z_goto C 59 d_M_sumOf_55 (by decide) ?_
          refine zq_lsub [0, 1, 2] [(0, zr (some 72)), (1, zi a1), (2, zl a2)] rfl ?_
          exact c_M_sumOf_59 C hret hc_M_termOf (fun z0 z1 zS zh => ih z0 z1 zS zh)  a1 a2 (1 : Int32) S h
        · refine z_icmp_net C 58 c20 d_M_sumOf_51 (by decide) ?_
          refine z_iconst C (0 : Int32) (by decide) d_M_sumOf_58 ?_
          refine zq_lsub [0, 1, 2] [(0, zr (some 72)), (1, zi a1), (2, zl a2)] rfl ?_
          exact c_M_sumOf_59 C hret hc_M_termOf (fun z0 z1 zS zh => ih z0 z1 zS zh)  a1 a2 (0 : Int32) S h
      · refine z_icmp_net C 103 c15 d_M_sumOf_35 (by decide) ?_
        refine z_lload_n C 2 rfl d_M_sumOf_103 rfl ?_
        cases h
        exact z_lret C hret ⟨Nat.zero_le _, Nat.zero_le _⟩ d_M_sumOf_104
set_option maxRecDepth 100000 in
set_option maxHeartbeats 4000000 in
theorem m_M_sumOf_o (l : Launch) {c_M_termOf : Int32 → zSt → Option (Int64 × zSt)} {dp : Nat} {fu : Nat} {a1 : Int32} {S : zSt} {r : Int64} {S1 : zSt} (hc_M_termOf : ∀ (a1 : Int32) (S : zSt) (r : Int64) (S1 : zSt), c_M_termOf a1 S = some (r, S1) → zPM l y_M_termOf b_M_termOf 7 (some .long) (rm_g1 dp) true true [zr (some 72), zi a1] S (some (zl r)) S1) (h : f_M_sumOf_o c_M_termOf fu a1 S = some (r, S1)) : zPM l y_M_sumOf b_M_sumOf 7 (some .long) (rm_g1 (dp + 1)) true true [zr (some 72), zi a1] S (some (zl r)) S1 := by
  refine zPM_of (by decide) (Nat.le_of_ble_eq_true rfl) (fun p e s m args below meth c G C hret hname => ?_)
  unfold f_M_sumOf_o at h
  refine (?_ : zJ p l e (rm_g1 (dp + 1)) s m args below meth c G true 7 0 0 (zQm below G args s (rm_g1 (dp + 1)) true (some (zl r)) S1) S 0 [(0, zr (some 72)), (1, zi a1)] [])
  refine z_aload_n C 0 rfl d_M_sumOf_0 rfl ?_
  refine z_iload_n C 1 rfl d_M_sumOf_1 rfl ?_
  obtain ⟨r2, S3, h1, h⟩ := zb2_some h
  refine z_cV C 11 (by decide) (hc_M_termOf a1 S _ _ h1) mf_M_termOf lk_11_281 in_M_termOf se_M_termOf rfl zo_72 zk_72 ⟨rfl, rfl⟩ ⟨rm_le_M_sumOf_M_termOf.1, rm_le_M_sumOf_M_termOf.2⟩ ⟨Nat.zero_le _, Nat.zero_le _⟩ rfl _ [] rfl (Nat.le_of_ble_eq_true rfl) d_M_sumOf_2 ?_
  refine z_lstore_n C [(2, zl r2), (0, zr (some 72)), (1, zi a1)] d_M_sumOf_5 rfl (by decide) rfl ?_
  refine zq_lsub [1, 2, 0] [(0, zr (some 72)), (1, zi a1), (2, zl r2)] rfl ?_
  exact c_M_sumOf_6 C hret hc_M_termOf fu  a1 r2 S3 h
def zgr_1 (fu : Nat) : Nat → (Int32 → zSt → Option (Int64 × zSt)) × (Int32 → zSt → Option (Int64 × zSt)) × (Int32 → zSt → Option (Int64 × zSt))
  | 0 => (fun _ _ => none, fun _ _ => none, fun _ _ => none)
  | d + 1 => (f_M_partOf_o ((zgr_1 fu d).2.1) fu, f_M_sumOf_o ((zgr_1 fu d).2.2) fu, f_M_termOf_o ((zgr_1 fu d).1) fu)
def f_M_partOf (fu d : Nat) : Int32 → zSt → Option (Int64 × zSt) := (zgr_1 fu d).1
def f_M_sumOf (fu d : Nat) : Int32 → zSt → Option (Int64 × zSt) := (zgr_1 fu d).2.1
def f_M_termOf (fu d : Nat) : Int32 → zSt → Option (Int64 × zSt) := (zgr_1 fu d).2.2
set_option maxRecDepth 100000 in
set_option maxHeartbeats 4000000 in
theorem zgm_1 (l : Launch) (fu : Nat) : ∀ dp : Nat, (∀ (a1 : Int32) (S : zSt) (r : Int64) (S1 : zSt), f_M_partOf fu dp a1 S = some (r, S1) → zPM l y_M_partOf b_M_partOf 4 (some .long) (rm_g1 dp) true true [zr (some 72), zi a1] S (some (zl r)) S1) ∧ (∀ (a1 : Int32) (S : zSt) (r : Int64) (S1 : zSt), f_M_sumOf fu dp a1 S = some (r, S1) → zPM l y_M_sumOf b_M_sumOf 7 (some .long) (rm_g1 dp) true true [zr (some 72), zi a1] S (some (zl r)) S1) ∧ (∀ (a1 : Int32) (S : zSt) (r : Int64) (S1 : zSt), f_M_termOf fu dp a1 S = some (r, S1) → zPM l y_M_termOf b_M_termOf 7 (some .long) (rm_g1 dp) true true [zr (some 72), zi a1] S (some (zl r)) S1) := by
  intro dp
  induction dp with
  | zero => exact ⟨(fun _ _ _ _ h => by have h : (none : Option _) = some _ := h; cases h), (fun _ _ _ _ h => by have h : (none : Option _) = some _ := h; cases h), (fun _ _ _ _ h => by have h : (none : Option _) = some _ := h; cases h)⟩
  | succ dp ih =>
    obtain ⟨ih_M_partOf, ih_M_sumOf, ih_M_termOf⟩ := ih
    exact ⟨fun _ _ _ _ h => m_M_partOf_o l ih_M_sumOf h, fun _ _ _ _ h => m_M_sumOf_o l ih_M_termOf h, fun _ _ _ _ h => m_M_termOf_o l ih_M_partOf h⟩
theorem m_M_partOf (l : Launch) {fu : Nat} {a1 : Int32} {S : zSt} {r : Int64} {S1 : zSt} (h : f_M_partOf fu 64 a1 S = some (r, S1)) : zPM l y_M_partOf b_M_partOf 4 (some .long) (rm_g1 64) true true [zr (some 72), zi a1] S (some (zl r)) S1 := (zgm_1 l fu 64).1 _ _ _ _ h
theorem m_M_sumOf (l : Launch) {fu : Nat} {a1 : Int32} {S : zSt} {r : Int64} {S1 : zSt} (h : f_M_sumOf fu 64 a1 S = some (r, S1)) : zPM l y_M_sumOf b_M_sumOf 7 (some .long) (rm_g1 64) true true [zr (some 72), zi a1] S (some (zl r)) S1 := (zgm_1 l fu 64).2.1 _ _ _ _ h
theorem m_M_termOf (l : Launch) {fu : Nat} {a1 : Int32} {S : zSt} {r : Int64} {S1 : zSt} (h : f_M_termOf fu 64 a1 S = some (r, S1)) : zPM l y_M_termOf b_M_termOf 7 (some .long) (rm_g1 64) true true [zr (some 72), zi a1] S (some (zl r)) S1 := (zgm_1 l fu 64).2.2 _ _ _ _ h
def f_M_positiveOf_o (c_M_testOf : Int32 → zSt → Option (Int32 × zSt)) (fu : Nat) (a1 : Int32) (S : zSt) : Option (Int32 × zSt) := zb1 (f_M_sign (40 : Int32)) (fun r2 => zb2 (f_M_passes0 r2 S) (fun r4 S5 => if r4 = 0 then zb2 (f_M_sumOf fu 64 a1 S5) (fun r8 S9 => zb1 (f_M_codeAt (zI S9 72 22) S9) (fun r11 => zb2 (f_M_sumOf fu 64 a1 (zwI S9 72 22 ((zI S9 72 22) + (1 : Int32)))) (fun r13 S14 => if a1 = 0 then some ((0 : Int32), S14) else if (zI S14 72 24) = 0 then zb1 (f_M_sign (60 : Int32)) (fun r18 => if r11 = r18 then if 0 ≤ (lg_cmp r8 r13) then some ((0 : Int32), S14) else some ((1 : Int32), S14) else zb1 (f_M_sign (62 : Int32)) (fun r21 => if r11 = r21 then if (lg_cmp r8 r13) ≤ 0 then some ((0 : Int32), S14) else some ((1 : Int32), S14) else if (lg_cmp r8 r13) = 0 then some ((1 : Int32), S14) else some ((0 : Int32), S14))) else some ((0 : Int32), S14)))) else zb2 (c_M_testOf a1 S5) (fun r27 S28 => zgd (r27 = 0 ∨ r27 = 1) (some (r27, zwI S28 72 22 ((zI S28 72 22) + (1 : Int32)))))))
set_option maxRecDepth 100000 in
set_option maxHeartbeats 4000000 in
theorem m_M_positiveOf_o (l : Launch) {c_M_testOf : Int32 → zSt → Option (Int32 × zSt)} {dp : Nat} {fu : Nat} {a1 : Int32} {S : zSt} {r : Int32} {S1 : zSt} (hc_M_testOf : ∀ (a1 : Int32) (S : zSt) (r : Int32) (S1 : zSt), c_M_testOf a1 S = some (r, S1) → zPM l y_M_testOf b_M_testOf 4 (some .boolean) (rm_g2 dp) true true [zr (some 72), zi a1] S (some (zi r)) S1) (h : f_M_positiveOf_o c_M_testOf fu a1 S = some (r, S1)) : zPM l y_M_positiveOf b_M_positiveOf 7 (some .boolean) (rm_g2 (dp + 1)) true true [zr (some 72), zi a1] S (some (zi r)) S1 := by
  refine zPM_of (by decide) (Nat.le_of_ble_eq_true rfl) (fun p e s m args below meth c G C hret hname => ?_)
  unfold f_M_positiveOf_o at h
  refine (?_ : zJ p l e (rm_g2 (dp + 1)) s m args below meth c G true 7 0 0 (zQm below G args s (rm_g2 (dp + 1)) true (some (zi r)) S1) S 0 [(0, zr (some 72)), (1, zi a1)] [])
  refine z_aload_n C 0 rfl d_M_positiveOf_0 rfl ?_
  refine z_bipush C (40 : Int32) (by decide) d_M_positiveOf_1 ?_
  obtain ⟨r2, h1, h⟩ := zb1_some h
  refine z_cS C (m_M_sign l h1) mf_M_sign lk_11_227 st_M_sign ⟨rfl, rfl⟩ ⟨rm_le_M_positiveOf_M_sign.1, rm_le_M_positiveOf_M_sign.2⟩ ⟨Nat.zero_le _, Nat.zero_le _⟩ rfl _ [zr (some 72)] rfl (Nat.le_of_ble_eq_true rfl) d_M_positiveOf_3 ?_
  obtain ⟨r4, S5, h3, h⟩ := zb2_some h
  refine z_cV C 11 (by decide) (m_M_passes0 l h3) mf_M_passes0 lk_11_292 in_M_passes0 se_M_passes0 rfl zo_72 zk_72 ⟨rfl, rfl⟩ ⟨rm_le_M_positiveOf_M_passes0.1, rm_le_M_positiveOf_M_passes0.2⟩ ⟨Nat.zero_le _, Nat.zero_le _⟩ rfl _ [] rfl (Nat.le_of_ble_eq_true rfl) d_M_positiveOf_6 ?_
  rcases zite h with ⟨c6, h⟩ | ⟨c6, h⟩
  · refine z_if_eqt C 30 c6 d_M_positiveOf_9 (by decide) ?_
    refine z_aload_n C 0 rfl d_M_positiveOf_30 rfl ?_
    refine z_iload_n C 1 rfl d_M_positiveOf_31 rfl ?_
    obtain ⟨r8, S9, h7, h⟩ := zb2_some h
    refine z_cV C 11 (by decide) (m_M_sumOf l h7) mf_M_sumOf lk_11_295 in_M_sumOf se_M_sumOf rfl zo_72 zk_72 ⟨rfl, rfl⟩ ⟨rm_le_M_positiveOf_M_sumOf.1, rm_le_M_positiveOf_M_sumOf.2⟩ ⟨Nat.zero_le _, Nat.zero_le _⟩ rfl _ [] rfl (Nat.le_of_ble_eq_true rfl) d_M_positiveOf_32 ?_
    refine z_lstore_n C [(2, zl r8), (0, zr (some 72)), (1, zi a1)] d_M_positiveOf_35 rfl (by decide) rfl ?_
    refine z_aload_n C 1 rfl d_M_positiveOf_36 rfl ?_
    refine z_aload_n C 1 rfl d_M_positiveOf_37 rfl ?_
    refine z_getI C 11 (by decide) 22 (by decide) rfl zo_72 zk_72 zfl_11_268 d_M_positiveOf_38 ?_
    obtain ⟨r11, h10, h⟩ := zb1_some h
    refine z_cV C 11 (by decide) (m_M_codeAt l h10) mf_M_codeAt lk_11_271 in_M_codeAt se_M_codeAt rfl zo_72 zk_72 ⟨rfl, rfl⟩ ⟨rm_le_M_positiveOf_M_codeAt.1, rm_le_M_positiveOf_M_codeAt.2⟩ ⟨Nat.zero_le _, Nat.zero_le _⟩ rfl _ [] rfl (Nat.le_of_ble_eq_true rfl) d_M_positiveOf_41 ?_
    refine z_istore C [(4, zi r11), (2, zl r8), (0, zr (some 72)), (1, zi a1)] d_M_positiveOf_44 (by decide) rfl ?_
    refine z_aload_n C 2 rfl d_M_positiveOf_46 rfl ?_
    refine z_dup C rfl d_M_positiveOf_47 ?_
    refine z_getI C 11 (by decide) 22 (by decide) rfl zo_72 zk_72 zfl_11_268 d_M_positiveOf_48 ?_
    refine z_iconst C (1 : Int32) (by decide) d_M_positiveOf_51 ?_
    refine z_iadd C d_M_positiveOf_52 ?_
    refine z_putI C 11 (by decide) 22 (by decide) rfl (Or.inl rfl) zo_72 zk_72 zfl_11_268 (Or.inl rfl) d_M_positiveOf_53 ?_
    refine z_aload_n C 2 rfl d_M_positiveOf_56 rfl ?_
    refine z_iload_n C 3 rfl d_M_positiveOf_57 rfl ?_
    obtain ⟨r13, S14, h12, h⟩ := zb2_some h
    refine z_cV C 11 (by decide) (m_M_sumOf l h12) mf_M_sumOf lk_11_295 in_M_sumOf se_M_sumOf rfl zo_72 zk_72 ⟨rfl, rfl⟩ ⟨rm_le_M_positiveOf_M_sumOf.1, rm_le_M_positiveOf_M_sumOf.2⟩ ⟨Nat.zero_le _, Nat.zero_le _⟩ rfl _ [] rfl (Nat.le_of_ble_eq_true rfl) d_M_positiveOf_58 ?_
    refine z_lstore C [(5, zl r13), (4, zi r11), (2, zl r8), (0, zr (some 72)), (1, zi a1)] d_M_positiveOf_61 (by decide) rfl ?_
    refine z_iload_n C 4 rfl d_M_positiveOf_63 rfl ?_
    rcases zite h with ⟨c15, h⟩ | ⟨c15, h⟩
    · refine z_if_eqt C 125 c15 d_M_positiveOf_64 (by decide) ?_
      refine z_iconst C (0 : Int32) (by decide) d_M_positiveOf_125 ?_
      cases h
      exact z_iret C .boolean hret rfl ⟨Nat.zero_le _, Nat.zero_le _⟩ d_M_positiveOf_126
    · refine z_if_eqf C 125 c15 d_M_positiveOf_64 (by decide) ?_
      refine z_aload_n C 3 rfl d_M_positiveOf_67 rfl ?_
      refine z_getI C 11 (by decide) 24 (by decide) rfl zo_72 zk_72 zfl_11_278 d_M_positiveOf_68 ?_
      rcases zite h with ⟨c16, h⟩ | ⟨c16, h⟩
      · refine z_if_nef C 125 c16 d_M_positiveOf_71 (by decide) ?_
        refine z_iload C 1 rfl d_M_positiveOf_74 ?_
        refine z_bipush C (60 : Int32) (by decide) d_M_positiveOf_76 ?_
        obtain ⟨r18, h17, h⟩ := zb1_some h
        refine z_cS C (m_M_sign l h17) mf_M_sign lk_11_227 st_M_sign ⟨rfl, rfl⟩ ⟨rm_le_M_positiveOf_M_sign.1, rm_le_M_positiveOf_M_sign.2⟩ ⟨Nat.zero_le _, Nat.zero_le _⟩ rfl _ [zi r11] rfl (Nat.le_of_ble_eq_true rfl) d_M_positiveOf_78 ?_
        rcases zite h with ⟨c19, h⟩ | ⟨c19, h⟩
        · refine z_icmp_nef C 94 c19 d_M_positiveOf_81 (by decide) ?_
          refine z_lload_n C 2 rfl d_M_positiveOf_84 rfl ?_
          refine z_lload C 0 rfl d_M_positiveOf_85 ?_
          refine z_lcmp C d_M_positiveOf_87 ?_
          rcases zite h with ⟨c25, h⟩ | ⟨c25, h⟩
          · refine z_if_get C 125 c25 d_M_positiveOf_88 (by decide) ?_
            refine z_iconst C (0 : Int32) (by decide) d_M_positiveOf_125 ?_
            cases h
            exact z_iret C .boolean hret rfl ⟨Nat.zero_le _, Nat.zero_le _⟩ d_M_positiveOf_126
          · refine z_if_gef C 125 c25 d_M_positiveOf_88 (by decide) ?_
            refine z_goto C 121 d_M_positiveOf_91 (by decide) ?_
            refine z_iconst C (1 : Int32) (by decide) d_M_positiveOf_121 ?_
            refine z_goto C 126 d_M_positiveOf_122 (by decide) ?_
            cases h
            exact z_iret C .boolean hret rfl ⟨Nat.zero_le _, Nat.zero_le _⟩ d_M_positiveOf_126
        · refine z_icmp_net C 94 c19 d_M_positiveOf_81 (by decide) ?_
          refine z_iload C 1 rfl d_M_positiveOf_94 ?_
          refine z_bipush C (62 : Int32) (by decide) d_M_positiveOf_96 ?_
          obtain ⟨r21, h20, h⟩ := zb1_some h
          refine z_cS C (m_M_sign l h20) mf_M_sign lk_11_227 st_M_sign ⟨rfl, rfl⟩ ⟨rm_le_M_positiveOf_M_sign.1, rm_le_M_positiveOf_M_sign.2⟩ ⟨Nat.zero_le _, Nat.zero_le _⟩ rfl _ [zi r11] rfl (Nat.le_of_ble_eq_true rfl) d_M_positiveOf_98 ?_
          rcases zite h with ⟨c22, h⟩ | ⟨c22, h⟩
          · refine z_icmp_nef C 114 c22 d_M_positiveOf_101 (by decide) ?_
            refine z_lload_n C 2 rfl d_M_positiveOf_104 rfl ?_
            refine z_lload C 0 rfl d_M_positiveOf_105 ?_
            refine z_lcmp C d_M_positiveOf_107 ?_
            rcases zite h with ⟨c24, h⟩ | ⟨c24, h⟩
            · refine z_if_let C 125 c24 d_M_positiveOf_108 (by decide) ?_
              refine z_iconst C (0 : Int32) (by decide) d_M_positiveOf_125 ?_
              cases h
              exact z_iret C .boolean hret rfl ⟨Nat.zero_le _, Nat.zero_le _⟩ d_M_positiveOf_126
            · refine z_if_lef C 125 c24 d_M_positiveOf_108 (by decide) ?_
              refine z_goto C 121 d_M_positiveOf_111 (by decide) ?_
              refine z_iconst C (1 : Int32) (by decide) d_M_positiveOf_121 ?_
              refine z_goto C 126 d_M_positiveOf_122 (by decide) ?_
              cases h
              exact z_iret C .boolean hret rfl ⟨Nat.zero_le _, Nat.zero_le _⟩ d_M_positiveOf_126
          · refine z_icmp_net C 114 c22 d_M_positiveOf_101 (by decide) ?_
            refine z_lload_n C 2 rfl d_M_positiveOf_114 rfl ?_
            refine z_lload C 0 rfl d_M_positiveOf_115 ?_
            refine z_lcmp C d_M_positiveOf_117 ?_
            rcases zite h with ⟨c23, h⟩ | ⟨c23, h⟩
            · refine z_if_nef C 125 c23 d_M_positiveOf_118 (by decide) ?_
              refine z_iconst C (1 : Int32) (by decide) d_M_positiveOf_121 ?_
              refine z_goto C 126 d_M_positiveOf_122 (by decide) ?_
              cases h
              exact z_iret C .boolean hret rfl ⟨Nat.zero_le _, Nat.zero_le _⟩ d_M_positiveOf_126
            · refine z_if_net C 125 c23 d_M_positiveOf_118 (by decide) ?_
              refine z_iconst C (0 : Int32) (by decide) d_M_positiveOf_125 ?_
              cases h
              exact z_iret C .boolean hret rfl ⟨Nat.zero_le _, Nat.zero_le _⟩ d_M_positiveOf_126
      · refine z_if_net C 125 c16 d_M_positiveOf_71 (by decide) ?_
        refine z_iconst C (0 : Int32) (by decide) d_M_positiveOf_125 ?_
        cases h
        exact z_iret C .boolean hret rfl ⟨Nat.zero_le _, Nat.zero_le _⟩ d_M_positiveOf_126
  · refine z_if_eqf C 30 c6 d_M_positiveOf_9 (by decide) ?_
    refine z_aload_n C 0 rfl d_M_positiveOf_12 rfl ?_
    refine z_iload_n C 1 rfl d_M_positiveOf_13 rfl ?_
    obtain ⟨r27, S28, h26, h⟩ := zb2_some h
    refine z_cV C 11 (by decide) (hc_M_testOf a1 S5 _ _ h26) mf_M_testOf lk_11_322 in_M_testOf se_M_testOf rfl zo_72 zk_72 ⟨rfl, rfl⟩ ⟨rm_le_M_positiveOf_M_testOf.1, rm_le_M_positiveOf_M_testOf.2⟩ ⟨Nat.zero_le _, Nat.zero_le _⟩ rfl _ [] rfl (Nat.le_of_ble_eq_true rfl) d_M_positiveOf_14 ?_
    refine z_istore_n C [(2, zi r27), (0, zr (some 72)), (1, zi a1)] d_M_positiveOf_17 rfl (by decide) rfl ?_
    refine z_aload_n C 1 rfl d_M_positiveOf_18 rfl ?_
    refine z_dup C rfl d_M_positiveOf_19 ?_
    refine z_getI C 11 (by decide) 22 (by decide) rfl zo_72 zk_72 zfl_11_268 d_M_positiveOf_20 ?_
    refine z_iconst C (1 : Int32) (by decide) d_M_positiveOf_23 ?_
    refine z_iadd C d_M_positiveOf_24 ?_
    refine z_putI C 11 (by decide) 22 (by decide) rfl (Or.inl rfl) zo_72 zk_72 zfl_11_268 (Or.inl rfl) d_M_positiveOf_25 ?_
    refine z_iload_n C 0 rfl d_M_positiveOf_28 rfl ?_
    obtain ⟨g29, h⟩ := zgd_some h
    cases h
    exact z_iret C .boolean hret (by rcases g29 with e | e <;> rw [e] <;> rfl) ⟨Nat.zero_le _, Nat.zero_le _⟩ d_M_positiveOf_29
def f_M_plainOf_24 (c_M_positiveOf : Int32 → zSt → Option (Int32 × zSt)) (fu : Nat) (a1 : Int32) (a2 : Int32) (S : zSt) : Option (Int32 × zSt) := zb2 (c_M_positiveOf a1 S) (fun r2 S3 => if r2 = a2 then some ((0 : Int32), S3) else some ((1 : Int32), S3))
def f_M_plainOf_2 (c_M_positiveOf : Int32 → zSt → Option (Int32 × zSt)) (fu : Nat) : Nat → Int32 → Int32 → zSt → Option (Int32 × zSt)
  | 0, _, _, _ => none
  | n + 1, a1, a2, S => zb2 (f_M_passes0 (8 : Int32) S) (fun r2 S3 => if r2 = 0 then f_M_plainOf_24 c_M_positiveOf fu a1 a2 S3 else if a2 = 0 then f_M_plainOf_2 c_M_positiveOf fu n a1 (1 : Int32) S3 else f_M_plainOf_2 c_M_positiveOf fu n a1 (0 : Int32) S3)
def f_M_plainOf_o (c_M_positiveOf : Int32 → zSt → Option (Int32 × zSt)) (fu : Nat) (a1 : Int32) (S : zSt) : Option (Int32 × zSt) := f_M_plainOf_2 c_M_positiveOf fu fu a1 (0 : Int32) S
set_option maxRecDepth 100000 in
set_option maxHeartbeats 4000000 in
theorem c_M_plainOf_24 {p : Program} {l : Launch} {e : Env} {s : State} {m : MethodId} {args : Array Value} {below : List Frame} {meth : Method} {c : Code} {G : zG} (C : zC p s m args meth c G b_M_plainOf 3 y_M_plainOf.cls) (hret : meth.sig.returnType = (some .boolean)) {c_M_positiveOf : Int32 → zSt → Option (Int32 × zSt)} {dp : Nat} {fu : Nat} {r : Int32} {S1 : zSt} (hc_M_positiveOf : ∀ (a1 : Int32) (S : zSt) (r : Int32) (S1 : zSt), c_M_positiveOf a1 S = some (r, S1) → zPM l y_M_positiveOf b_M_positiveOf 7 (some .boolean) (rm_g2 dp) true true [zr (some 72), zi a1] S (some (zi r)) S1) : ∀ (a1 : Int32) (a2 : Int32) (S : zSt) , f_M_plainOf_24 c_M_positiveOf fu a1 a2 S = some (r, S1) → zJ p l e (rm_g2 (dp + 1)) s m args below meth c G true 3 0 0 (zQm below G args s (rm_g2 (dp + 1)) true (some (zi r)) S1) S 24 [(0, zr (some 72)), (1, zi a1), (2, zi a2)] [] := by
  intro a1 a2 S h
  unfold f_M_plainOf_24 at h
  refine z_aload_n C 0 rfl d_M_plainOf_24 rfl ?_
  refine z_iload_n C 1 rfl d_M_plainOf_25 rfl ?_
  obtain ⟨r2, S3, h1, h⟩ := zb2_some h
  refine z_cV C 11 (by decide) (hc_M_positiveOf a1 S _ _ h1) mf_M_positiveOf lk_11_319 in_M_positiveOf se_M_positiveOf rfl zo_72 zk_72 ⟨rfl, rfl⟩ ⟨rm_le_M_plainOf_M_positiveOf.1, rm_le_M_plainOf_M_positiveOf.2⟩ ⟨Nat.zero_le _, Nat.zero_le _⟩ rfl _ [] rfl (Nat.le_of_ble_eq_true rfl) d_M_plainOf_26 ?_
  refine z_iload_n C 2 rfl d_M_plainOf_29 rfl ?_
  rcases zite h with ⟨c4, h⟩ | ⟨c4, h⟩
  · refine z_icmp_eqt C 37 c4 d_M_plainOf_30 (by decide) ?_
    refine z_iconst C (0 : Int32) (by decide) d_M_plainOf_37 ?_
    cases h
    exact z_iret C .boolean hret rfl ⟨Nat.zero_le _, Nat.zero_le _⟩ d_M_plainOf_38
  · refine z_icmp_eqf C 37 c4 d_M_plainOf_30 (by decide) ?_
    refine z_iconst C (1 : Int32) (by decide) d_M_plainOf_33 ?_
    refine z_goto C 38 d_M_plainOf_34 (by decide) ?_
    cases h
    exact z_iret C .boolean hret rfl ⟨Nat.zero_le _, Nat.zero_le _⟩ d_M_plainOf_38
set_option maxRecDepth 100000 in
set_option maxHeartbeats 4000000 in
theorem c_M_plainOf_2 {p : Program} {l : Launch} {e : Env} {s : State} {m : MethodId} {args : Array Value} {below : List Frame} {meth : Method} {c : Code} {G : zG} (C : zC p s m args meth c G b_M_plainOf 3 y_M_plainOf.cls) (hret : meth.sig.returnType = (some .boolean)) {c_M_positiveOf : Int32 → zSt → Option (Int32 × zSt)} {dp : Nat} {fu : Nat} {r : Int32} {S1 : zSt} (hc_M_positiveOf : ∀ (a1 : Int32) (S : zSt) (r : Int32) (S1 : zSt), c_M_positiveOf a1 S = some (r, S1) → zPM l y_M_positiveOf b_M_positiveOf 7 (some .boolean) (rm_g2 dp) true true [zr (some 72), zi a1] S (some (zi r)) S1) : ∀ (n : Nat) (a1 : Int32) (a2 : Int32) (S : zSt) , f_M_plainOf_2 c_M_positiveOf fu n a1 a2 S = some (r, S1) → zJ p l e (rm_g2 (dp + 1)) s m args below meth c G true 3 0 0 (zQm below G args s (rm_g2 (dp + 1)) true (some (zi r)) S1) S 2 [(0, zr (some 72)), (1, zi a1), (2, zi a2)] [] := by
  intro n
  induction n with
  | zero =>
    intro a1 a2 S h
    cases h
  | succ n ih =>
    intro a1 a2 S h
    rw [f_M_plainOf_2] at h
    refine z_aload_n C 0 rfl d_M_plainOf_2 rfl ?_
    refine z_bipush C (8 : Int32) (by decide) d_M_plainOf_3 ?_
    obtain ⟨r2, S3, h1, h⟩ := zb2_some h
    refine z_cV C 11 (by decide) (m_M_passes0 l h1) mf_M_passes0 lk_11_292 in_M_passes0 se_M_passes0 rfl zo_72 zk_72 ⟨rfl, rfl⟩ ⟨rm_le_M_plainOf_M_passes0.1, rm_le_M_plainOf_M_passes0.2⟩ ⟨Nat.zero_le _, Nat.zero_le _⟩ rfl _ [] rfl (Nat.le_of_ble_eq_true rfl) d_M_plainOf_5 ?_
    rcases zite h with ⟨c4, h⟩ | ⟨c4, h⟩
    · refine z_if_eqt C 24 c4 d_M_plainOf_8 (by decide) ?_
      refine zq_lsub [0, 1, 2] [(0, zr (some 72)), (1, zi a1), (2, zi a2)] rfl ?_
      exact c_M_plainOf_24 C hret hc_M_positiveOf  a1 a2 S3 h
    · refine z_if_eqf C 24 c4 d_M_plainOf_8 (by decide) ?_
      refine z_iload_n C 2 rfl d_M_plainOf_11 rfl ?_
      rcases zite h with ⟨c5, h⟩ | ⟨c5, h⟩
      · refine z_if_nef C 19 c5 d_M_plainOf_12 (by decide) ?_
        refine z_iconst C (1 : Int32) (by decide) d_M_plainOf_15 ?_
        refine z_goto C 20 d_M_plainOf_16 (by decide) ?_
        refine z_istore_n C [(2, zi (1 : Int32)), (0, zr (some 72)), (1, zi a1)] d_M_plainOf_20 rfl (by decide) rfl ?_
        refine z_goto C 2 d_M_plainOf_21 (by decide) ?_
        refine zq_lsub [1, 2, 0] [(0, zr (some 72)), (1, zi a1), (2, zi (1 : Int32))] rfl ?_
        exact ih a1 (1 : Int32) S3 h
      · refine z_if_net C 19 c5 d_M_plainOf_12 (by decide) ?_
        refine z_iconst C (0 : Int32) (by decide) d_M_plainOf_19 ?_
        refine z_istore_n C [(2, zi (0 : Int32)), (0, zr (some 72)), (1, zi a1)] d_M_plainOf_20 rfl (by decide) rfl ?_
        refine z_goto C 2 d_M_plainOf_21 (by decide) ?_
        refine zq_lsub [1, 2, 0] [(0, zr (some 72)), (1, zi a1), (2, zi (0 : Int32))] rfl ?_
        exact ih a1 (0 : Int32) S3 h
set_option maxRecDepth 100000 in
set_option maxHeartbeats 4000000 in
theorem m_M_plainOf_o (l : Launch) {c_M_positiveOf : Int32 → zSt → Option (Int32 × zSt)} {dp : Nat} {fu : Nat} {a1 : Int32} {S : zSt} {r : Int32} {S1 : zSt} (hc_M_positiveOf : ∀ (a1 : Int32) (S : zSt) (r : Int32) (S1 : zSt), c_M_positiveOf a1 S = some (r, S1) → zPM l y_M_positiveOf b_M_positiveOf 7 (some .boolean) (rm_g2 dp) true true [zr (some 72), zi a1] S (some (zi r)) S1) (h : f_M_plainOf_o c_M_positiveOf fu a1 S = some (r, S1)) : zPM l y_M_plainOf b_M_plainOf 3 (some .boolean) (rm_g2 (dp + 1)) true true [zr (some 72), zi a1] S (some (zi r)) S1 := by
  refine zPM_of (by decide) (Nat.le_of_ble_eq_true rfl) (fun p e s m args below meth c G C hret hname => ?_)
  unfold f_M_plainOf_o at h
  refine (?_ : zJ p l e (rm_g2 (dp + 1)) s m args below meth c G true 3 0 0 (zQm below G args s (rm_g2 (dp + 1)) true (some (zi r)) S1) S 0 [(0, zr (some 72)), (1, zi a1)] [])
  refine z_iconst C (0 : Int32) (by decide) d_M_plainOf_0 ?_
  refine z_istore_n C [(2, zi (0 : Int32)), (0, zr (some 72)), (1, zi a1)] d_M_plainOf_1 rfl (by decide) rfl ?_
  refine zq_lsub [1, 2, 0] [(0, zr (some 72)), (1, zi a1), (2, zi (0 : Int32))] rfl ?_
  exact c_M_plainOf_2 C hret hc_M_positiveOf fu  a1 (0 : Int32) S h
def f_M_bothOf_29 (c_M_plainOf : Int32 → zSt → Option (Int32 × zSt)) (fu : Nat) (k6 : Int32 → Int32 → zSt → Option (Int32 × zSt)) (a1 : Int32) (a2 : Int32) (k0 : Int32) (S : zSt) : Option (Int32 × zSt) := zb2 (c_M_plainOf k0 S) (fun r2 S3 => if a2 = 0 then k6 a1 (0 : Int32) S3 else if r2 = 0 then k6 a1 (0 : Int32) S3 else k6 a1 (1 : Int32) S3)
def f_M_bothOf_6 (c_M_plainOf : Int32 → zSt → Option (Int32 × zSt)) (fu : Nat) : Nat → Int32 → Int32 → zSt → Option (Int32 × zSt)
  | 0, _, _, _ => none
  | n + 1, a1, a2, S => zb2 (f_M_passes0 (7 : Int32) S) (fun r2 S3 => if r2 = 0 then zgd (a2 = 0 ∨ a2 = 1) (some (a2, S3)) else if a1 = 0 then f_M_bothOf_29 c_M_plainOf fu (f_M_bothOf_6 c_M_plainOf fu n) a1 a2 (0 : Int32) S3 else if a2 = 0 then f_M_bothOf_29 c_M_plainOf fu (f_M_bothOf_6 c_M_plainOf fu n) a1 a2 (0 : Int32) S3 else f_M_bothOf_29 c_M_plainOf fu (f_M_bothOf_6 c_M_plainOf fu n) a1 a2 (1 : Int32) S3)
def f_M_bothOf_o (c_M_plainOf : Int32 → zSt → Option (Int32 × zSt)) (fu : Nat) (a1 : Int32) (S : zSt) : Option (Int32 × zSt) := zb2 (c_M_plainOf a1 S) (fun r2 S3 => f_M_bothOf_6 c_M_plainOf fu fu a1 r2 S3)
set_option maxRecDepth 100000 in
set_option maxHeartbeats 4000000 in
theorem c_M_bothOf_29 {p : Program} {l : Launch} {e : Env} {s : State} {m : MethodId} {args : Array Value} {below : List Frame} {meth : Method} {c : Code} {G : zG} (C : zC p s m args meth c G b_M_bothOf 4 y_M_bothOf.cls) (hret : meth.sig.returnType = (some .boolean)) {c_M_plainOf : Int32 → zSt → Option (Int32 × zSt)} {dp : Nat} {fu : Nat} {r : Int32} {S1 : zSt} (hc_M_plainOf : ∀ (a1 : Int32) (S : zSt) (r : Int32) (S1 : zSt), c_M_plainOf a1 S = some (r, S1) → zPM l y_M_plainOf b_M_plainOf 3 (some .boolean) (rm_g2 dp) true true [zr (some 72), zi a1] S (some (zi r)) S1) {k6 : Int32 → Int32 → zSt → Option (Int32 × zSt)} (hk6 : ∀ (a1 : Int32) (a2 : Int32) (S : zSt) , k6 a1 a2 S = some (r, S1) → zJ p l e (rm_g2 (dp + 1)) s m args below meth c G true 4 0 0 (zQm below G args s (rm_g2 (dp + 1)) true (some (zi r)) S1) S 6 [(0, zr (some 72)), (1, zi a1), (2, zi a2)] []) : ∀ (a1 : Int32) (a2 : Int32) (k0 : Int32) (S : zSt) , f_M_bothOf_29 c_M_plainOf fu k6 a1 a2 k0 S = some (r, S1) → zJ p l e (rm_g2 (dp + 1)) s m args below meth c G true 4 0 0 (zQm below G args s (rm_g2 (dp + 1)) true (some (zi r)) S1) S 29 [(0, zr (some 72)), (1, zi a1), (2, zi a2)] [zi k0, zr (some 72)] := by
  intro a1 a2 k0 S h
  unfold f_M_bothOf_29 at h
  obtain ⟨r2, S3, h1, h⟩ := zb2_some h
  refine z_cV C 11 (by decide) (hc_M_plainOf k0 S _ _ h1) mf_M_plainOf lk_11_316 in_M_plainOf se_M_plainOf rfl zo_72 zk_72 ⟨rfl, rfl⟩ ⟨rm_le_M_bothOf_M_plainOf.1, rm_le_M_bothOf_M_plainOf.2⟩ ⟨Nat.zero_le _, Nat.zero_le _⟩ rfl _ [] rfl (Nat.le_of_ble_eq_true rfl) d_M_bothOf_29 ?_
  refine z_istore_n C [(3, zi r2), (0, zr (some 72)), (1, zi a1), (2, zi a2)] d_M_bothOf_32 rfl (by decide) rfl ?_
  refine z_iload_n C 3 rfl d_M_bothOf_33 rfl ?_
  rcases zite h with ⟨c4, h⟩ | ⟨c4, h⟩
  · refine z_if_eqt C 45 c4 d_M_bothOf_34 (by decide) ?_
    refine z_iconst C (0 : Int32) (by decide) d_M_bothOf_45 ?_
    refine z_istore_n C [(2, zi (0 : Int32)), (3, zi r2), (0, zr (some 72)), (1, zi a1)] d_M_bothOf_46 rfl (by decide) rfl ?_
    refine z_goto C 6 d_M_bothOf_47 (by decide) ?_
    refine zq_lsub [2, 3, 0] [(0, zr (some 72)), (1, zi a1), (2, zi (0 : Int32))] rfl ?_
    exact hk6 a1 (0 : Int32) S3 h
  · refine z_if_eqf C 45 c4 d_M_bothOf_34 (by decide) ?_
    refine z_iload_n C 0 rfl d_M_bothOf_37 rfl ?_
    rcases zite h with ⟨c5, h⟩ | ⟨c5, h⟩
    · refine z_if_eqt C 45 c5 d_M_bothOf_38 (by decide) ?_
      refine z_iconst C (0 : Int32) (by decide) d_M_bothOf_45 ?_
      refine z_istore_n C [(2, zi (0 : Int32)), (3, zi r2), (0, zr (some 72)), (1, zi a1)] d_M_bothOf_46 rfl (by decide) rfl ?_
      refine z_goto C 6 d_M_bothOf_47 (by decide) ?_
      refine zq_lsub [2, 3, 0] [(0, zr (some 72)), (1, zi a1), (2, zi (0 : Int32))] rfl ?_
      exact hk6 a1 (0 : Int32) S3 h
    · refine z_if_eqf C 45 c5 d_M_bothOf_38 (by decide) ?_
      refine z_iconst C (1 : Int32) (by decide) d_M_bothOf_41 ?_
      refine z_goto C 46 d_M_bothOf_42 (by decide) ?_
      refine z_istore_n C [(2, zi (1 : Int32)), (3, zi r2), (0, zr (some 72)), (1, zi a1)] d_M_bothOf_46 rfl (by decide) rfl ?_
      refine z_goto C 6 d_M_bothOf_47 (by decide) ?_
      refine zq_lsub [2, 3, 0] [(0, zr (some 72)), (1, zi a1), (2, zi (1 : Int32))] rfl ?_
      exact hk6 a1 (1 : Int32) S3 h
set_option maxRecDepth 100000 in
set_option maxHeartbeats 4000000 in
theorem c_M_bothOf_6 {p : Program} {l : Launch} {e : Env} {s : State} {m : MethodId} {args : Array Value} {below : List Frame} {meth : Method} {c : Code} {G : zG} (C : zC p s m args meth c G b_M_bothOf 4 y_M_bothOf.cls) (hret : meth.sig.returnType = (some .boolean)) {c_M_plainOf : Int32 → zSt → Option (Int32 × zSt)} {dp : Nat} {fu : Nat} {r : Int32} {S1 : zSt} (hc_M_plainOf : ∀ (a1 : Int32) (S : zSt) (r : Int32) (S1 : zSt), c_M_plainOf a1 S = some (r, S1) → zPM l y_M_plainOf b_M_plainOf 3 (some .boolean) (rm_g2 dp) true true [zr (some 72), zi a1] S (some (zi r)) S1) : ∀ (n : Nat) (a1 : Int32) (a2 : Int32) (S : zSt) , f_M_bothOf_6 c_M_plainOf fu n a1 a2 S = some (r, S1) → zJ p l e (rm_g2 (dp + 1)) s m args below meth c G true 4 0 0 (zQm below G args s (rm_g2 (dp + 1)) true (some (zi r)) S1) S 6 [(0, zr (some 72)), (1, zi a1), (2, zi a2)] [] := by
  intro n
  induction n with
  | zero =>
    intro a1 a2 S h
    cases h
  | succ n ih =>
    intro a1 a2 S h
    rw [f_M_bothOf_6] at h
    refine z_aload_n C 0 rfl d_M_bothOf_6 rfl ?_
    refine z_bipush C (7 : Int32) (by decide) d_M_bothOf_7 ?_
    obtain ⟨r2, S3, h1, h⟩ := zb2_some h
    refine z_cV C 11 (by decide) (m_M_passes0 l h1) mf_M_passes0 lk_11_292 in_M_passes0 se_M_passes0 rfl zo_72 zk_72 ⟨rfl, rfl⟩ ⟨rm_le_M_bothOf_M_passes0.1, rm_le_M_bothOf_M_passes0.2⟩ ⟨Nat.zero_le _, Nat.zero_le _⟩ rfl _ [] rfl (Nat.le_of_ble_eq_true rfl) d_M_bothOf_9 ?_
    rcases zite h with ⟨c4, h⟩ | ⟨c4, h⟩
    · refine z_if_eqt C 50 c4 d_M_bothOf_12 (by decide) ?_
      refine z_iload_n C 2 rfl d_M_bothOf_50 rfl ?_
      obtain ⟨g5, h⟩ := zgd_some h
      cases h
      exact z_iret C .boolean hret (by rcases g5 with e | e <;> rw [e] <;> rfl) ⟨Nat.zero_le _, Nat.zero_le _⟩ d_M_bothOf_51
    · refine z_if_eqf C 50 c4 d_M_bothOf_12 (by decide) ?_
      refine z_aload_n C 0 rfl d_M_bothOf_15 rfl ?_
      refine z_iload_n C 1 rfl d_M_bothOf_16 rfl ?_
      rcases zite h with ⟨c6, h⟩ | ⟨c6, h⟩
      · refine z_if_eqt C 28 c6 d_M_bothOf_17 (by decide) ?_
        refine z_iconst C (0 : Int32) (by decide) d_M_bothOf_28 ?_
        refine zq_lsub [0, 1, 2] [(0, zr (some 72)), (1, zi a1), (2, zi a2)] rfl ?_
        exact c_M_bothOf_29 C hret hc_M_plainOf (fun z0 z1 zS zh => ih z0 z1 zS zh)  a1 a2 (0 : Int32) S3 h
      · refine z_if_eqf C 28 c6 d_M_bothOf_17 (by decide) ?_
        refine z_iload_n C 2 rfl d_M_bothOf_20 rfl ?_
        rcases zite h with ⟨c7, h⟩ | ⟨c7, h⟩
        · refine z_if_eqt C 28 c7 d_M_bothOf_21 (by decide) ?_
          refine z_iconst C (0 : Int32) (by decide) d_M_bothOf_28 ?_
          refine zq_lsub [0, 1, 2] [(0, zr (some 72)), (1, zi a1), (2, zi a2)] rfl ?_
          exact c_M_bothOf_29 C hret hc_M_plainOf (fun z0 z1 zS zh => ih z0 z1 zS zh)  a1 a2 (0 : Int32) S3 h
        · refine z_if_eqf C 28 c7 d_M_bothOf_21 (by decide) ?_
          refine z_iconst C (1 : Int32) (by decide) d_M_bothOf_24 ?_
          refine z_goto C 29 d_M_bothOf_25 (by decide) ?_
          refine zq_lsub [0, 1, 2] [(0, zr (some 72)), (1, zi a1), (2, zi a2)] rfl ?_
          exact c_M_bothOf_29 C hret hc_M_plainOf (fun z0 z1 zS zh => ih z0 z1 zS zh)  a1 a2 (1 : Int32) S3 h
set_option maxRecDepth 100000 in
set_option maxHeartbeats 4000000 in
theorem m_M_bothOf_o (l : Launch) {c_M_plainOf : Int32 → zSt → Option (Int32 × zSt)} {dp : Nat} {fu : Nat} {a1 : Int32} {S : zSt} {r : Int32} {S1 : zSt} (hc_M_plainOf : ∀ (a1 : Int32) (S : zSt) (r : Int32) (S1 : zSt), c_M_plainOf a1 S = some (r, S1) → zPM l y_M_plainOf b_M_plainOf 3 (some .boolean) (rm_g2 dp) true true [zr (some 72), zi a1] S (some (zi r)) S1) (h : f_M_bothOf_o c_M_plainOf fu a1 S = some (r, S1)) : zPM l y_M_bothOf b_M_bothOf 4 (some .boolean) (rm_g2 (dp + 1)) true true [zr (some 72), zi a1] S (some (zi r)) S1 := by
  refine zPM_of (by decide) (Nat.le_of_ble_eq_true rfl) (fun p e s m args below meth c G C hret hname => ?_)
  unfold f_M_bothOf_o at h
  refine (?_ : zJ p l e (rm_g2 (dp + 1)) s m args below meth c G true 4 0 0 (zQm below G args s (rm_g2 (dp + 1)) true (some (zi r)) S1) S 0 [(0, zr (some 72)), (1, zi a1)] [])
  refine z_aload_n C 0 rfl d_M_bothOf_0 rfl ?_
  refine z_iload_n C 1 rfl d_M_bothOf_1 rfl ?_
  obtain ⟨r2, S3, h1, h⟩ := zb2_some h
  refine z_cV C 11 (by decide) (hc_M_plainOf a1 S _ _ h1) mf_M_plainOf lk_11_316 in_M_plainOf se_M_plainOf rfl zo_72 zk_72 ⟨rfl, rfl⟩ ⟨rm_le_M_bothOf_M_plainOf.1, rm_le_M_bothOf_M_plainOf.2⟩ ⟨Nat.zero_le _, Nat.zero_le _⟩ rfl _ [] rfl (Nat.le_of_ble_eq_true rfl) d_M_bothOf_2 ?_
  refine z_istore_n C [(2, zi r2), (0, zr (some 72)), (1, zi a1)] d_M_bothOf_5 rfl (by decide) rfl ?_
  refine zq_lsub [1, 2, 0] [(0, zr (some 72)), (1, zi a1), (2, zi r2)] rfl ?_
  exact c_M_bothOf_6 C hret hc_M_plainOf fu  a1 r2 S3 h
def f_M_testOf_29 (c_M_bothOf : Int32 → zSt → Option (Int32 × zSt)) (fu : Nat) (k6 : Int32 → Int32 → zSt → Option (Int32 × zSt)) (a1 : Int32) (a2 : Int32) (k0 : Int32) (S : zSt) : Option (Int32 × zSt) := zb2 (c_M_bothOf k0 S) (fun r2 S3 => if a2 = 0 then if r2 = 0 then k6 a1 (0 : Int32) S3 else k6 a1 (1 : Int32) S3 else k6 a1 (1 : Int32) S3)
def f_M_testOf_6 (c_M_bothOf : Int32 → zSt → Option (Int32 × zSt)) (fu : Nat) : Nat → Int32 → Int32 → zSt → Option (Int32 × zSt)
  | 0, _, _, _ => none
  | n + 1, a1, a2, S => zb2 (f_M_passes0 (6 : Int32) S) (fun r2 S3 => if r2 = 0 then zgd (a2 = 0 ∨ a2 = 1) (some (a2, S3)) else if a1 = 0 then f_M_testOf_29 c_M_bothOf fu (f_M_testOf_6 c_M_bothOf fu n) a1 a2 (0 : Int32) S3 else if a2 = 0 then f_M_testOf_29 c_M_bothOf fu (f_M_testOf_6 c_M_bothOf fu n) a1 a2 (1 : Int32) S3 else f_M_testOf_29 c_M_bothOf fu (f_M_testOf_6 c_M_bothOf fu n) a1 a2 (0 : Int32) S3)
def f_M_testOf_o (c_M_bothOf : Int32 → zSt → Option (Int32 × zSt)) (fu : Nat) (a1 : Int32) (S : zSt) : Option (Int32 × zSt) := zb2 (c_M_bothOf a1 S) (fun r2 S3 => f_M_testOf_6 c_M_bothOf fu fu a1 r2 S3)
set_option maxRecDepth 100000 in
set_option maxHeartbeats 4000000 in
theorem c_M_testOf_29 {p : Program} {l : Launch} {e : Env} {s : State} {m : MethodId} {args : Array Value} {below : List Frame} {meth : Method} {c : Code} {G : zG} (C : zC p s m args meth c G b_M_testOf 4 y_M_testOf.cls) (hret : meth.sig.returnType = (some .boolean)) {c_M_bothOf : Int32 → zSt → Option (Int32 × zSt)} {dp : Nat} {fu : Nat} {r : Int32} {S1 : zSt} (hc_M_bothOf : ∀ (a1 : Int32) (S : zSt) (r : Int32) (S1 : zSt), c_M_bothOf a1 S = some (r, S1) → zPM l y_M_bothOf b_M_bothOf 4 (some .boolean) (rm_g2 dp) true true [zr (some 72), zi a1] S (some (zi r)) S1) {k6 : Int32 → Int32 → zSt → Option (Int32 × zSt)} (hk6 : ∀ (a1 : Int32) (a2 : Int32) (S : zSt) , k6 a1 a2 S = some (r, S1) → zJ p l e (rm_g2 (dp + 1)) s m args below meth c G true 4 0 0 (zQm below G args s (rm_g2 (dp + 1)) true (some (zi r)) S1) S 6 [(0, zr (some 72)), (1, zi a1), (2, zi a2)] []) : ∀ (a1 : Int32) (a2 : Int32) (k0 : Int32) (S : zSt) , f_M_testOf_29 c_M_bothOf fu k6 a1 a2 k0 S = some (r, S1) → zJ p l e (rm_g2 (dp + 1)) s m args below meth c G true 4 0 0 (zQm below G args s (rm_g2 (dp + 1)) true (some (zi r)) S1) S 29 [(0, zr (some 72)), (1, zi a1), (2, zi a2)] [zi k0, zr (some 72)] := by
  intro a1 a2 k0 S h
  unfold f_M_testOf_29 at h
  obtain ⟨r2, S3, h1, h⟩ := zb2_some h
  refine z_cV C 11 (by decide) (hc_M_bothOf k0 S _ _ h1) mf_M_bothOf lk_11_313 in_M_bothOf se_M_bothOf rfl zo_72 zk_72 ⟨rfl, rfl⟩ ⟨rm_le_M_testOf_M_bothOf.1, rm_le_M_testOf_M_bothOf.2⟩ ⟨Nat.zero_le _, Nat.zero_le _⟩ rfl _ [] rfl (Nat.le_of_ble_eq_true rfl) d_M_testOf_29 ?_
  refine z_istore_n C [(3, zi r2), (0, zr (some 72)), (1, zi a1), (2, zi a2)] d_M_testOf_32 rfl (by decide) rfl ?_
  refine z_iload_n C 3 rfl d_M_testOf_33 rfl ?_
  rcases zite h with ⟨c4, h⟩ | ⟨c4, h⟩
  · refine z_if_nef C 41 c4 d_M_testOf_34 (by decide) ?_
    refine z_iload_n C 0 rfl d_M_testOf_37 rfl ?_
    rcases zite h with ⟨c5, h⟩ | ⟨c5, h⟩
    · refine z_if_eqt C 45 c5 d_M_testOf_38 (by decide) ?_
      refine z_iconst C (0 : Int32) (by decide) d_M_testOf_45 ?_
      refine z_istore_n C [(2, zi (0 : Int32)), (3, zi r2), (0, zr (some 72)), (1, zi a1)] d_M_testOf_46 rfl (by decide) rfl ?_
      refine z_goto C 6 d_M_testOf_47 (by decide) ?_
      refine zq_lsub [2, 3, 0] [(0, zr (some 72)), (1, zi a1), (2, zi (0 : Int32))] rfl ?_
      exact hk6 a1 (0 : Int32) S3 h
    · refine z_if_eqf C 45 c5 d_M_testOf_38 (by decide) ?_
      refine z_iconst C (1 : Int32) (by decide) d_M_testOf_41 ?_
      refine z_goto C 46 d_M_testOf_42 (by decide) ?_
      refine z_istore_n C [(2, zi (1 : Int32)), (3, zi r2), (0, zr (some 72)), (1, zi a1)] d_M_testOf_46 rfl (by decide) rfl ?_
      refine z_goto C 6 d_M_testOf_47 (by decide) ?_
      refine zq_lsub [2, 3, 0] [(0, zr (some 72)), (1, zi a1), (2, zi (1 : Int32))] rfl ?_
      exact hk6 a1 (1 : Int32) S3 h
  · refine z_if_net C 41 c4 d_M_testOf_34 (by decide) ?_
    refine z_iconst C (1 : Int32) (by decide) d_M_testOf_41 ?_
    refine z_goto C 46 d_M_testOf_42 (by decide) ?_
    refine z_istore_n C [(2, zi (1 : Int32)), (3, zi r2), (0, zr (some 72)), (1, zi a1)] d_M_testOf_46 rfl (by decide) rfl ?_
    refine z_goto C 6 d_M_testOf_47 (by decide) ?_
    refine zq_lsub [2, 3, 0] [(0, zr (some 72)), (1, zi a1), (2, zi (1 : Int32))] rfl ?_
    exact hk6 a1 (1 : Int32) S3 h
set_option maxRecDepth 100000 in
set_option maxHeartbeats 4000000 in
theorem c_M_testOf_6 {p : Program} {l : Launch} {e : Env} {s : State} {m : MethodId} {args : Array Value} {below : List Frame} {meth : Method} {c : Code} {G : zG} (C : zC p s m args meth c G b_M_testOf 4 y_M_testOf.cls) (hret : meth.sig.returnType = (some .boolean)) {c_M_bothOf : Int32 → zSt → Option (Int32 × zSt)} {dp : Nat} {fu : Nat} {r : Int32} {S1 : zSt} (hc_M_bothOf : ∀ (a1 : Int32) (S : zSt) (r : Int32) (S1 : zSt), c_M_bothOf a1 S = some (r, S1) → zPM l y_M_bothOf b_M_bothOf 4 (some .boolean) (rm_g2 dp) true true [zr (some 72), zi a1] S (some (zi r)) S1) : ∀ (n : Nat) (a1 : Int32) (a2 : Int32) (S : zSt) , f_M_testOf_6 c_M_bothOf fu n a1 a2 S = some (r, S1) → zJ p l e (rm_g2 (dp + 1)) s m args below meth c G true 4 0 0 (zQm below G args s (rm_g2 (dp + 1)) true (some (zi r)) S1) S 6 [(0, zr (some 72)), (1, zi a1), (2, zi a2)] [] := by
  intro n
  induction n with
  | zero =>
    intro a1 a2 S h
    cases h
  | succ n ih =>
    intro a1 a2 S h
    rw [f_M_testOf_6] at h
    refine z_aload_n C 0 rfl d_M_testOf_6 rfl ?_
    refine z_bipush C (6 : Int32) (by decide) d_M_testOf_7 ?_
    obtain ⟨r2, S3, h1, h⟩ := zb2_some h
    refine z_cV C 11 (by decide) (m_M_passes0 l h1) mf_M_passes0 lk_11_292 in_M_passes0 se_M_passes0 rfl zo_72 zk_72 ⟨rfl, rfl⟩ ⟨rm_le_M_testOf_M_passes0.1, rm_le_M_testOf_M_passes0.2⟩ ⟨Nat.zero_le _, Nat.zero_le _⟩ rfl _ [] rfl (Nat.le_of_ble_eq_true rfl) d_M_testOf_9 ?_
    rcases zite h with ⟨c4, h⟩ | ⟨c4, h⟩
    · refine z_if_eqt C 50 c4 d_M_testOf_12 (by decide) ?_
      refine z_iload_n C 2 rfl d_M_testOf_50 rfl ?_
      obtain ⟨g5, h⟩ := zgd_some h
      cases h
      exact z_iret C .boolean hret (by rcases g5 with e | e <;> rw [e] <;> rfl) ⟨Nat.zero_le _, Nat.zero_le _⟩ d_M_testOf_51
    · refine z_if_eqf C 50 c4 d_M_testOf_12 (by decide) ?_
      refine z_aload_n C 0 rfl d_M_testOf_15 rfl ?_
      refine z_iload_n C 1 rfl d_M_testOf_16 rfl ?_
      rcases zite h with ⟨c6, h⟩ | ⟨c6, h⟩
      · refine z_if_eqt C 28 c6 d_M_testOf_17 (by decide) ?_
        refine z_iconst C (0 : Int32) (by decide) d_M_testOf_28 ?_
        refine zq_lsub [0, 1, 2] [(0, zr (some 72)), (1, zi a1), (2, zi a2)] rfl ?_
        exact c_M_testOf_29 C hret hc_M_bothOf (fun z0 z1 zS zh => ih z0 z1 zS zh)  a1 a2 (0 : Int32) S3 h
      · refine z_if_eqf C 28 c6 d_M_testOf_17 (by decide) ?_
        refine z_iload_n C 2 rfl d_M_testOf_20 rfl ?_
        rcases zite h with ⟨c7, h⟩ | ⟨c7, h⟩
        · refine z_if_nef C 28 c7 d_M_testOf_21 (by decide) ?_
          refine z_iconst C (1 : Int32) (by decide) d_M_testOf_24 ?_
          refine z_goto C 29 d_M_testOf_25 (by decide) ?_
          refine zq_lsub [0, 1, 2] [(0, zr (some 72)), (1, zi a1), (2, zi a2)] rfl ?_
          exact c_M_testOf_29 C hret hc_M_bothOf (fun z0 z1 zS zh => ih z0 z1 zS zh)  a1 a2 (1 : Int32) S3 h
        · refine z_if_net C 28 c7 d_M_testOf_21 (by decide) ?_
          refine z_iconst C (0 : Int32) (by decide) d_M_testOf_28 ?_
          refine zq_lsub [0, 1, 2] [(0, zr (some 72)), (1, zi a1), (2, zi a2)] rfl ?_
          exact c_M_testOf_29 C hret hc_M_bothOf (fun z0 z1 zS zh => ih z0 z1 zS zh)  a1 a2 (0 : Int32) S3 h
set_option maxRecDepth 100000 in
set_option maxHeartbeats 4000000 in
theorem m_M_testOf_o (l : Launch) {c_M_bothOf : Int32 → zSt → Option (Int32 × zSt)} {dp : Nat} {fu : Nat} {a1 : Int32} {S : zSt} {r : Int32} {S1 : zSt} (hc_M_bothOf : ∀ (a1 : Int32) (S : zSt) (r : Int32) (S1 : zSt), c_M_bothOf a1 S = some (r, S1) → zPM l y_M_bothOf b_M_bothOf 4 (some .boolean) (rm_g2 dp) true true [zr (some 72), zi a1] S (some (zi r)) S1) (h : f_M_testOf_o c_M_bothOf fu a1 S = some (r, S1)) : zPM l y_M_testOf b_M_testOf 4 (some .boolean) (rm_g2 (dp + 1)) true true [zr (some 72), zi a1] S (some (zi r)) S1 := by
  refine zPM_of (by decide) (Nat.le_of_ble_eq_true rfl) (fun p e s m args below meth c G C hret hname => ?_)
  unfold f_M_testOf_o at h
  refine (?_ : zJ p l e (rm_g2 (dp + 1)) s m args below meth c G true 4 0 0 (zQm below G args s (rm_g2 (dp + 1)) true (some (zi r)) S1) S 0 [(0, zr (some 72)), (1, zi a1)] [])
  refine z_aload_n C 0 rfl d_M_testOf_0 rfl ?_
  refine z_iload_n C 1 rfl d_M_testOf_1 rfl ?_
  obtain ⟨r2, S3, h1, h⟩ := zb2_some h
  refine z_cV C 11 (by decide) (hc_M_bothOf a1 S _ _ h1) mf_M_bothOf lk_11_313 in_M_bothOf se_M_bothOf rfl zo_72 zk_72 ⟨rfl, rfl⟩ ⟨rm_le_M_testOf_M_bothOf.1, rm_le_M_testOf_M_bothOf.2⟩ ⟨Nat.zero_le _, Nat.zero_le _⟩ rfl _ [] rfl (Nat.le_of_ble_eq_true rfl) d_M_testOf_2 ?_
  refine z_istore_n C [(2, zi r2), (0, zr (some 72)), (1, zi a1)] d_M_testOf_5 rfl (by decide) rfl ?_
  refine zq_lsub [1, 2, 0] [(0, zr (some 72)), (1, zi a1), (2, zi r2)] rfl ?_
  exact c_M_testOf_6 C hret hc_M_bothOf fu  a1 r2 S3 h
def zgr_2 (fu : Nat) : Nat → (Int32 → zSt → Option (Int32 × zSt)) × (Int32 → zSt → Option (Int32 × zSt)) × (Int32 → zSt → Option (Int32 × zSt)) × (Int32 → zSt → Option (Int32 × zSt))
  | 0 => (fun _ _ => none, fun _ _ => none, fun _ _ => none, fun _ _ => none)
  | d + 1 => (f_M_bothOf_o ((zgr_2 fu d).2.1) fu, f_M_plainOf_o ((zgr_2 fu d).2.2.1) fu, f_M_positiveOf_o ((zgr_2 fu d).2.2.2) fu, f_M_testOf_o ((zgr_2 fu d).1) fu)
def f_M_bothOf (fu d : Nat) : Int32 → zSt → Option (Int32 × zSt) := (zgr_2 fu d).1
def f_M_plainOf (fu d : Nat) : Int32 → zSt → Option (Int32 × zSt) := (zgr_2 fu d).2.1
def f_M_positiveOf (fu d : Nat) : Int32 → zSt → Option (Int32 × zSt) := (zgr_2 fu d).2.2.1
def f_M_testOf (fu d : Nat) : Int32 → zSt → Option (Int32 × zSt) := (zgr_2 fu d).2.2.2
set_option maxRecDepth 100000 in
set_option maxHeartbeats 4000000 in
theorem zgm_2 (l : Launch) (fu : Nat) : ∀ dp : Nat, (∀ (a1 : Int32) (S : zSt) (r : Int32) (S1 : zSt), f_M_bothOf fu dp a1 S = some (r, S1) → zPM l y_M_bothOf b_M_bothOf 4 (some .boolean) (rm_g2 dp) true true [zr (some 72), zi a1] S (some (zi r)) S1) ∧ (∀ (a1 : Int32) (S : zSt) (r : Int32) (S1 : zSt), f_M_plainOf fu dp a1 S = some (r, S1) → zPM l y_M_plainOf b_M_plainOf 3 (some .boolean) (rm_g2 dp) true true [zr (some 72), zi a1] S (some (zi r)) S1) ∧ (∀ (a1 : Int32) (S : zSt) (r : Int32) (S1 : zSt), f_M_positiveOf fu dp a1 S = some (r, S1) → zPM l y_M_positiveOf b_M_positiveOf 7 (some .boolean) (rm_g2 dp) true true [zr (some 72), zi a1] S (some (zi r)) S1) ∧ (∀ (a1 : Int32) (S : zSt) (r : Int32) (S1 : zSt), f_M_testOf fu dp a1 S = some (r, S1) → zPM l y_M_testOf b_M_testOf 4 (some .boolean) (rm_g2 dp) true true [zr (some 72), zi a1] S (some (zi r)) S1) := by
  intro dp
  induction dp with
  | zero => exact ⟨(fun _ _ _ _ h => by have h : (none : Option _) = some _ := h; cases h), (fun _ _ _ _ h => by have h : (none : Option _) = some _ := h; cases h), (fun _ _ _ _ h => by have h : (none : Option _) = some _ := h; cases h), (fun _ _ _ _ h => by have h : (none : Option _) = some _ := h; cases h)⟩
  | succ dp ih =>
    obtain ⟨ih_M_bothOf, ih_M_plainOf, ih_M_positiveOf, ih_M_testOf⟩ := ih
    exact ⟨fun _ _ _ _ h => m_M_bothOf_o l ih_M_plainOf h, fun _ _ _ _ h => m_M_plainOf_o l ih_M_positiveOf h, fun _ _ _ _ h => m_M_positiveOf_o l ih_M_testOf h, fun _ _ _ _ h => m_M_testOf_o l ih_M_bothOf h⟩
theorem m_M_bothOf (l : Launch) {fu : Nat} {a1 : Int32} {S : zSt} {r : Int32} {S1 : zSt} (h : f_M_bothOf fu 64 a1 S = some (r, S1)) : zPM l y_M_bothOf b_M_bothOf 4 (some .boolean) (rm_g2 64) true true [zr (some 72), zi a1] S (some (zi r)) S1 := (zgm_2 l fu 64).1 _ _ _ _ h
theorem m_M_plainOf (l : Launch) {fu : Nat} {a1 : Int32} {S : zSt} {r : Int32} {S1 : zSt} (h : f_M_plainOf fu 64 a1 S = some (r, S1)) : zPM l y_M_plainOf b_M_plainOf 3 (some .boolean) (rm_g2 64) true true [zr (some 72), zi a1] S (some (zi r)) S1 := (zgm_2 l fu 64).2.1 _ _ _ _ h
theorem m_M_positiveOf (l : Launch) {fu : Nat} {a1 : Int32} {S : zSt} {r : Int32} {S1 : zSt} (h : f_M_positiveOf fu 64 a1 S = some (r, S1)) : zPM l y_M_positiveOf b_M_positiveOf 7 (some .boolean) (rm_g2 64) true true [zr (some 72), zi a1] S (some (zi r)) S1 := (zgm_2 l fu 64).2.2.1 _ _ _ _ h
theorem m_M_testOf (l : Launch) {fu : Nat} {a1 : Int32} {S : zSt} {r : Int32} {S1 : zSt} (h : f_M_testOf fu 64 a1 S = some (r, S1)) : zPM l y_M_testOf b_M_testOf 4 (some .boolean) (rm_g2 64) true true [zr (some 72), zi a1] S (some (zi r)) S1 := (zgm_2 l fu 64).2.2.2 _ _ _ _ h
def f_M_tells_152 (fu : Nat) (k67 : Int32 → Int32 → Int32 → Int64 → zSt → Option (Int32 × zSt)) (a1 : Int32) (a2 : Int32) (a3 : Int32) (a5 : Int64) (a7 : Int32) (a8 : Int64) (a10 : Int32) (k0 : Int32) (S : zSt) : Option (Int32 × zSt) := if a7 = a1 then if k0 = 0 then k67 a1 a2 a3 a5 (zwI S 72 22 ((zI S 72 22) + (1 : Int32))) else if (zI S 72 24) = 0 then if a10 = 0 then if 0 ≤ (lg_cmp a8 a2.toInt64) then if (lg_cmp a8 a3.toInt64) ≤ 0 then k67 a1 a2 a3 a8 (zwI S 72 22 ((zI S 72 22) + (1 : Int32))) else k67 a1 a2 a3 a3.toInt64 (zwI S 72 22 ((zI S 72 22) + (1 : Int32))) else k67 a1 a2 a3 a2.toInt64 (zwI S 72 22 ((zI S 72 22) + (1 : Int32))) else k67 a1 a2 a3 a5 (zwI S 72 22 ((zI S 72 22) + (1 : Int32))) else k67 a1 a2 a3 a5 (zwI S 72 22 ((zI S 72 22) + (1 : Int32))) else k67 a1 a2 a3 a5 (zwI S 72 22 ((zI S 72 22) + (1 : Int32)))
def f_M_tells_118 (fu : Nat) (k67 : Int32 → Int32 → Int32 → Int64 → zSt → Option (Int32 × zSt)) (a1 : Int32) (a2 : Int32) (a3 : Int32) (a5 : Int64) (a7 : Int32) (k0 : Int64) (S : zSt) : Option (Int32 × zSt) := zb2 (f_M_passes0 (5 : Int32) (zwI S 72 24 (0 : Int32))) (fun r2 S3 => if r2 = 0 then f_M_tells_152 fu k67 a1 a2 a3 a5 a7 k0 (zI S 72 24) (1 : Int32) S3 else zb2 (f_M_testOf fu 64 (1 : Int32) S3) (fun r6 S7 => if r6 = 0 then f_M_tells_152 fu k67 a1 a2 a3 a5 a7 k0 (zI S 72 24) (0 : Int32) S7 else f_M_tells_152 fu k67 a1 a2 a3 a5 a7 k0 (zI S 72 24) (1 : Int32) S7))
def f_M_tells_67 (fu : Nat) : Nat → Int32 → Int32 → Int32 → Int64 → zSt → Option (Int32 × zSt)
  | 0, _, _, _, _, _ => none
  | n + 1, a1, a2, a3, a5, S => if (zI S 72 23) ≤ (zI S 72 22) then some (a5.toInt32, S) else zb1 (f_M_codeAt (zI S 72 22) S) (fun r3 => if r3 = (4 : Int32) then f_M_tells_118 fu (f_M_tells_67 fu n) a1 a2 a3 a5 r3 (1 : Int64) (zwI (zwI S 72 24 (0 : Int32)) 72 22 ((zI (zwI S 72 24 (0 : Int32)) 72 22) + (1 : Int32))) else zb2 (f_M_sumOf fu 64 (1 : Int32) (zwI (zwI S 72 24 (0 : Int32)) 72 22 ((zI (zwI S 72 24 (0 : Int32)) 72 22) + (1 : Int32)))) (fun r6 S7 => f_M_tells_118 fu (f_M_tells_67 fu n) a1 a2 a3 a5 r3 r6 S7))
def f_M_tells (fu : Nat) (a1 : Int32) (a2 : Int32) (a3 : Int32) (a4 : Int32) (S : zSt) : Option (Int32 × zSt) := if (zI S 74 (199 : Int32).toNatClampNeg) = (-1 : Int32) then some (a4, S) else zgd (0 ≤ ((200 : Int32) + (zI (zwI (zwI S 72 25 (0 : Int32)) 72 22 ((400 : Int32) * (zI (zwI S 72 25 (0 : Int32)) 74 (199 : Int32).toNatClampNeg))) 74 (199 : Int32).toNatClampNeg)) ∧ ((200 : Int32) + (zI (zwI (zwI S 72 25 (0 : Int32)) 72 22 ((400 : Int32) * (zI (zwI S 72 25 (0 : Int32)) 74 (199 : Int32).toNatClampNeg))) 74 (199 : Int32).toNatClampNeg)).toNatClampNeg < 5807) (f_M_tells_67 fu fu a1 a2 a3 a4.toInt64 (zwI (zwI (zwI S 72 25 (0 : Int32)) 72 22 ((400 : Int32) * (zI (zwI S 72 25 (0 : Int32)) 74 (199 : Int32).toNatClampNeg))) 72 23 ((zI (zwI (zwI S 72 25 (0 : Int32)) 72 22 ((400 : Int32) * (zI (zwI S 72 25 (0 : Int32)) 74 (199 : Int32).toNatClampNeg))) 72 22) + (zI (zwI (zwI S 72 25 (0 : Int32)) 72 22 ((400 : Int32) * (zI (zwI S 72 25 (0 : Int32)) 74 (199 : Int32).toNatClampNeg))) 74 ((200 : Int32) + (zI (zwI (zwI S 72 25 (0 : Int32)) 72 22 ((400 : Int32) * (zI (zwI S 72 25 (0 : Int32)) 74 (199 : Int32).toNatClampNeg))) 74 (199 : Int32).toNatClampNeg)).toNatClampNeg))))
set_option maxRecDepth 100000 in
set_option maxHeartbeats 4000000 in
theorem c_M_tells_152 {p : Program} {l : Launch} {e : Env} {s : State} {m : MethodId} {args : Array Value} {below : List Frame} {meth : Method} {c : Code} {G : zG} (C : zC p s m args meth c G b_M_tells 12 y_M_tells.cls) (hret : meth.sig.returnType = (some .int)) {fu : Nat} {r : Int32} {S1 : zSt} {k67 : Int32 → Int32 → Int32 → Int64 → zSt → Option (Int32 × zSt)} (hk67 : ∀ (a1 : Int32) (a2 : Int32) (a3 : Int32) (a5 : Int64) (S : zSt) , k67 a1 a2 a3 a5 S = some (r, S1) → zJ p l e rm_M_tells s m args below meth c G true 12 0 0 (zQm below G args s rm_M_tells true (some (zi r)) S1) S 67 [(0, zr (some 72)), (1, zi a1), (2, zi a2), (3, zi a3), (5, zl a5)] []) : ∀ (a1 : Int32) (a2 : Int32) (a3 : Int32) (a5 : Int64) (a7 : Int32) (a8 : Int64) (a10 : Int32) (k0 : Int32) (S : zSt) , f_M_tells_152 fu k67 a1 a2 a3 a5 a7 a8 a10 k0 S = some (r, S1) → zJ p l e rm_M_tells s m args below meth c G true 12 0 0 (zQm below G args s rm_M_tells true (some (zi r)) S1) S 152 [(0, zr (some 72)), (1, zi a1), (2, zi a2), (3, zi a3), (5, zl a5), (7, zi a7), (8, zl a8), (10, zi a10)] [zi k0] := by
  intro a1 a2 a3 a5 a7 a8 a10 k0 S h
  unfold f_M_tells_152 at h
  refine z_istore C [(11, zi k0), (0, zr (some 72)), (1, zi a1), (2, zi a2), (3, zi a3), (5, zl a5), (7, zi a7), (8, zl a8), (10, zi a10)] d_M_tells_152 (by decide) rfl ?_
  refine z_iload C 6 rfl d_M_tells_154 ?_
  refine z_iload_n C 2 rfl d_M_tells_156 rfl ?_
  rcases zite h with ⟨c1, h⟩ | ⟨c1, h⟩
  · refine z_icmp_nef C 207 c1 d_M_tells_157 (by decide) ?_
    refine z_iload C 0 rfl d_M_tells_160 ?_
    rcases zite h with ⟨c2, h⟩ | ⟨c2, h⟩
    · refine z_if_eqt C 207 c2 d_M_tells_162 (by decide) ?_
      refine z_aload_n C 1 rfl d_M_tells_207 rfl ?_
      refine z_dup C rfl d_M_tells_208 ?_
      refine z_getI C 11 (by decide) 22 (by decide) rfl zo_72 zk_72 zfl_11_268 d_M_tells_209 ?_
      refine z_iconst C (1 : Int32) (by decide) d_M_tells_212 ?_
      refine z_iadd C d_M_tells_213 ?_
      refine z_putI C 11 (by decide) 22 (by decide) rfl (Or.inl rfl) zo_72 zk_72 zfl_11_268 (Or.inl rfl) d_M_tells_214 ?_
      refine z_goto C 67 d_M_tells_217 (by decide) ?_
      refine zq_lsub [1, 2, 3, 4, 5] [(0, zr (some 72)), (1, zi a1), (2, zi a2), (3, zi a3), (5, zl a5)] rfl ?_
      exact hk67 a1 a2 a3 a5 (zwI S 72 22 ((zI S 72 22) + (1 : Int32))) h
    · refine z_if_eqf C 207 c2 d_M_tells_162 (by decide) ?_
      refine z_aload_n C 1 rfl d_M_tells_165 rfl ?_
      refine z_getI C 11 (by decide) 24 (by decide) rfl zo_72 zk_72 zfl_11_278 d_M_tells_166 ?_
      rcases zite h with ⟨c3, h⟩ | ⟨c3, h⟩
      · refine z_if_nef C 207 c3 d_M_tells_169 (by decide) ?_
        refine z_iload C 8 rfl d_M_tells_172 ?_
        rcases zite h with ⟨c4, h⟩ | ⟨c4, h⟩
        · refine z_if_nef C 207 c4 d_M_tells_174 (by decide) ?_
          refine z_lload C 7 rfl d_M_tells_177 ?_
          refine z_iload_n C 3 rfl d_M_tells_179 rfl ?_
          refine z_i2l C d_M_tells_180 ?_
          refine z_lcmp C d_M_tells_181 ?_
          rcases zite h with ⟨c5, h⟩ | ⟨c5, h⟩
          · refine z_if_get C 190 c5 d_M_tells_182 (by decide) ?_
            refine z_lload C 7 rfl d_M_tells_190 ?_
            refine z_iload_n C 4 rfl d_M_tells_192 rfl ?_
            refine z_i2l C d_M_tells_193 ?_
            refine z_lcmp C d_M_tells_194 ?_
            rcases zite h with ⟨c6, h⟩ | ⟨c6, h⟩
            · refine z_if_let C 203 c6 d_M_tells_195 (by decide) ?_
              refine z_lload C 7 rfl d_M_tells_203 ?_
              refine z_lstore C [(5, zl a8), (11, zi k0), (0, zr (some 72)), (1, zi a1), (2, zi a2), (3, zi a3), (7, zi a7), (8, zl a8), (10, zi a10)] d_M_tells_205 (by decide) rfl ?_
              refine z_aload_n C 2 rfl d_M_tells_207 rfl ?_
              refine z_dup C rfl d_M_tells_208 ?_
              refine z_getI C 11 (by decide) 22 (by decide) rfl zo_72 zk_72 zfl_11_268 d_M_tells_209 ?_
              refine z_iconst C (1 : Int32) (by decide) d_M_tells_212 ?_
              refine z_iadd C d_M_tells_213 ?_
              refine z_putI C 11 (by decide) 22 (by decide) rfl (Or.inl rfl) zo_72 zk_72 zfl_11_268 (Or.inl rfl) d_M_tells_214 ?_
              refine z_goto C 67 d_M_tells_217 (by decide) ?_
              refine zq_lsub [2, 3, 4, 5, 0] [(0, zr (some 72)), (1, zi a1), (2, zi a2), (3, zi a3), (5, zl a8)] rfl ?_
              exact hk67 a1 a2 a3 a8 (zwI S 72 22 ((zI S 72 22) + (1 : Int32))) h
            · refine z_if_lef C 203 c6 d_M_tells_195 (by decide) ?_
              refine z_iload_n C 4 rfl d_M_tells_198 rfl ?_
              refine z_i2l C d_M_tells_199 ?_
              refine z_goto C 205 d_M_tells_200 (by decide) ?_
              refine z_lstore C [(5, zl a3.toInt64), (11, zi k0), (0, zr (some 72)), (1, zi a1), (2, zi a2), (3, zi a3), (7, zi a7), (8, zl a8), (10, zi a10)] d_M_tells_205 (by decide) rfl ?_
              refine z_aload_n C 2 rfl d_M_tells_207 rfl ?_
              refine z_dup C rfl d_M_tells_208 ?_
              refine z_getI C 11 (by decide) 22 (by decide) rfl zo_72 zk_72 zfl_11_268 d_M_tells_209 ?_
              refine z_iconst C (1 : Int32) (by decide) d_M_tells_212 ?_
              refine z_iadd C d_M_tells_213 ?_
              refine z_putI C 11 (by decide) 22 (by decide) rfl (Or.inl rfl) zo_72 zk_72 zfl_11_268 (Or.inl rfl) d_M_tells_214 ?_
              refine z_goto C 67 d_M_tells_217 (by decide) ?_
              refine zq_lsub [2, 3, 4, 5, 0] [(0, zr (some 72)), (1, zi a1), (2, zi a2), (3, zi a3), (5, zl a3.toInt64)] rfl ?_
              exact hk67 a1 a2 a3 a3.toInt64 (zwI S 72 22 ((zI S 72 22) + (1 : Int32))) h
          · refine z_if_gef C 190 c5 d_M_tells_182 (by decide) ?_
            refine z_iload_n C 3 rfl d_M_tells_185 rfl ?_
            refine z_i2l C d_M_tells_186 ?_
            refine z_goto C 205 d_M_tells_187 (by decide) ?_
            refine z_lstore C [(5, zl a2.toInt64), (11, zi k0), (0, zr (some 72)), (1, zi a1), (2, zi a2), (3, zi a3), (7, zi a7), (8, zl a8), (10, zi a10)] d_M_tells_205 (by decide) rfl ?_
            refine z_aload_n C 2 rfl d_M_tells_207 rfl ?_
            refine z_dup C rfl d_M_tells_208 ?_
            refine z_getI C 11 (by decide) 22 (by decide) rfl zo_72 zk_72 zfl_11_268 d_M_tells_209 ?_
            refine z_iconst C (1 : Int32) (by decide) d_M_tells_212 ?_
            refine z_iadd C d_M_tells_213 ?_
            refine z_putI C 11 (by decide) 22 (by decide) rfl (Or.inl rfl) zo_72 zk_72 zfl_11_268 (Or.inl rfl) d_M_tells_214 ?_
            refine z_goto C 67 d_M_tells_217 (by decide) ?_
            refine zq_lsub [2, 3, 4, 5, 0] [(0, zr (some 72)), (1, zi a1), (2, zi a2), (3, zi a3), (5, zl a2.toInt64)] rfl ?_
            exact hk67 a1 a2 a3 a2.toInt64 (zwI S 72 22 ((zI S 72 22) + (1 : Int32))) h
        · refine z_if_net C 207 c4 d_M_tells_174 (by decide) ?_
          refine z_aload_n C 1 rfl d_M_tells_207 rfl ?_
          refine z_dup C rfl d_M_tells_208 ?_
          refine z_getI C 11 (by decide) 22 (by decide) rfl zo_72 zk_72 zfl_11_268 d_M_tells_209 ?_
          refine z_iconst C (1 : Int32) (by decide) d_M_tells_212 ?_
          refine z_iadd C d_M_tells_213 ?_
          refine z_putI C 11 (by decide) 22 (by decide) rfl (Or.inl rfl) zo_72 zk_72 zfl_11_268 (Or.inl rfl) d_M_tells_214 ?_
          refine z_goto C 67 d_M_tells_217 (by decide) ?_
          refine zq_lsub [1, 2, 3, 4, 5] [(0, zr (some 72)), (1, zi a1), (2, zi a2), (3, zi a3), (5, zl a5)] rfl ?_
          exact hk67 a1 a2 a3 a5 (zwI S 72 22 ((zI S 72 22) + (1 : Int32))) h
      · refine z_if_net C 207 c3 d_M_tells_169 (by decide) ?_
        refine z_aload_n C 1 rfl d_M_tells_207 rfl ?_
        refine z_dup C rfl d_M_tells_208 ?_
        refine z_getI C 11 (by decide) 22 (by decide) rfl zo_72 zk_72 zfl_11_268 d_M_tells_209 ?_
        refine z_iconst C (1 : Int32) (by decide) d_M_tells_212 ?_
        refine z_iadd C d_M_tells_213 ?_
        refine z_putI C 11 (by decide) 22 (by decide) rfl (Or.inl rfl) zo_72 zk_72 zfl_11_268 (Or.inl rfl) d_M_tells_214 ?_
        refine z_goto C 67 d_M_tells_217 (by decide) ?_
        refine zq_lsub [1, 2, 3, 4, 5] [(0, zr (some 72)), (1, zi a1), (2, zi a2), (3, zi a3), (5, zl a5)] rfl ?_
        exact hk67 a1 a2 a3 a5 (zwI S 72 22 ((zI S 72 22) + (1 : Int32))) h
  · refine z_icmp_net C 207 c1 d_M_tells_157 (by decide) ?_
    refine z_aload_n C 1 rfl d_M_tells_207 rfl ?_
    refine z_dup C rfl d_M_tells_208 ?_
    refine z_getI C 11 (by decide) 22 (by decide) rfl zo_72 zk_72 zfl_11_268 d_M_tells_209 ?_
    refine z_iconst C (1 : Int32) (by decide) d_M_tells_212 ?_
    refine z_iadd C d_M_tells_213 ?_
    refine z_putI C 11 (by decide) 22 (by decide) rfl (Or.inl rfl) zo_72 zk_72 zfl_11_268 (Or.inl rfl) d_M_tells_214 ?_
    refine z_goto C 67 d_M_tells_217 (by decide) ?_
    refine zq_lsub [1, 2, 3, 4, 5] [(0, zr (some 72)), (1, zi a1), (2, zi a2), (3, zi a3), (5, zl a5)] rfl ?_
    exact hk67 a1 a2 a3 a5 (zwI S 72 22 ((zI S 72 22) + (1 : Int32))) h
set_option maxRecDepth 100000 in
set_option maxHeartbeats 4000000 in
theorem c_M_tells_118 {p : Program} {l : Launch} {e : Env} {s : State} {m : MethodId} {args : Array Value} {below : List Frame} {meth : Method} {c : Code} {G : zG} (C : zC p s m args meth c G b_M_tells 12 y_M_tells.cls) (hret : meth.sig.returnType = (some .int)) {fu : Nat} {r : Int32} {S1 : zSt} {k67 : Int32 → Int32 → Int32 → Int64 → zSt → Option (Int32 × zSt)} (hk67 : ∀ (a1 : Int32) (a2 : Int32) (a3 : Int32) (a5 : Int64) (S : zSt) , k67 a1 a2 a3 a5 S = some (r, S1) → zJ p l e rm_M_tells s m args below meth c G true 12 0 0 (zQm below G args s rm_M_tells true (some (zi r)) S1) S 67 [(0, zr (some 72)), (1, zi a1), (2, zi a2), (3, zi a3), (5, zl a5)] []) : ∀ (a1 : Int32) (a2 : Int32) (a3 : Int32) (a5 : Int64) (a7 : Int32) (k0 : Int64) (S : zSt) , f_M_tells_118 fu k67 a1 a2 a3 a5 a7 k0 S = some (r, S1) → zJ p l e rm_M_tells s m args below meth c G true 12 0 0 (zQm below G args s rm_M_tells true (some (zi r)) S1) S 118 [(0, zr (some 72)), (1, zi a1), (2, zi a2), (3, zi a3), (5, zl a5), (7, zi a7)] [zl k0] := by
  intro a1 a2 a3 a5 a7 k0 S h
  unfold f_M_tells_118 at h
  refine z_lstore C [(8, zl k0), (0, zr (some 72)), (1, zi a1), (2, zi a2), (3, zi a3), (5, zl a5), (7, zi a7)] d_M_tells_118 (by decide) rfl ?_
  refine z_aload_n C 1 rfl d_M_tells_120 rfl ?_
  refine z_getI C 11 (by decide) 24 (by decide) rfl zo_72 zk_72 zfl_11_278 d_M_tells_121 ?_
  refine z_istore C [(10, zi (zI S 72 24)), (8, zl k0), (0, zr (some 72)), (1, zi a1), (2, zi a2), (3, zi a3), (5, zl a5), (7, zi a7)] d_M_tells_124 (by decide) rfl ?_
  refine z_aload_n C 2 rfl d_M_tells_126 rfl ?_
  refine z_iconst C (0 : Int32) (by decide) d_M_tells_127 ?_
  refine z_putI C 11 (by decide) 24 (by decide) rfl (Or.inr (Or.inl rfl)) zo_72 zk_72 zfl_11_278 (Or.inl rfl) d_M_tells_128 ?_
  refine z_aload_n C 2 rfl d_M_tells_131 rfl ?_
  refine z_iconst C (5 : Int32) (by decide) d_M_tells_132 ?_
  obtain ⟨r2, S3, h1, h⟩ := zb2_some h
  refine z_cV C 11 (by decide) (m_M_passes0 l h1) mf_M_passes0 lk_11_292 in_M_passes0 se_M_passes0 rfl zo_72 zk_72 ⟨rfl, rfl⟩ ⟨by decide, by decide⟩ ⟨Nat.zero_le _, Nat.zero_le _⟩ rfl _ [] rfl (Nat.le_of_ble_eq_true rfl) d_M_tells_133 ?_
  rcases zite h with ⟨c4, h⟩ | ⟨c4, h⟩
  · refine z_if_eqt C 147 c4 d_M_tells_136 (by decide) ?_
    refine z_iconst C (1 : Int32) (by decide) d_M_tells_147 ?_
    refine z_goto C 152 d_M_tells_148 (by decide) ?_
    refine zq_lsub [2, 3, 4, 5, 6, 7, 1, 0] [(0, zr (some 72)), (1, zi a1), (2, zi a2), (3, zi a3), (5, zl a5), (7, zi a7), (8, zl k0), (10, zi (zI S 72 24))] rfl ?_
    exact c_M_tells_152 C hret hk67  a1 a2 a3 a5 a7 k0 (zI S 72 24) (1 : Int32) S3 h
  · refine z_if_eqf C 147 c4 d_M_tells_136 (by decide) ?_
    refine z_aload_n C 2 rfl d_M_tells_139 rfl ?_
    refine z_iconst C (1 : Int32) (by decide) d_M_tells_140 ?_
    obtain ⟨r6, S7, h5, h⟩ := zb2_some h
    refine z_cV C 11 (by decide) (m_M_testOf l h5) mf_M_testOf lk_11_322 in_M_testOf se_M_testOf rfl zo_72 zk_72 ⟨rfl, rfl⟩ ⟨by decide, by decide⟩ ⟨Nat.zero_le _, Nat.zero_le _⟩ rfl _ [] rfl (Nat.le_of_ble_eq_true rfl) d_M_tells_141 ?_
    rcases zite h with ⟨c8, h⟩ | ⟨c8, h⟩
    · refine z_if_eqt C 151 c8 d_M_tells_144 (by decide) ?_
      refine z_iconst C (0 : Int32) (by decide) d_M_tells_151 ?_
      refine zq_lsub [2, 3, 4, 5, 6, 7, 1, 0] [(0, zr (some 72)), (1, zi a1), (2, zi a2), (3, zi a3), (5, zl a5), (7, zi a7), (8, zl k0), (10, zi (zI S 72 24))] rfl ?_
      exact c_M_tells_152 C hret hk67  a1 a2 a3 a5 a7 k0 (zI S 72 24) (0 : Int32) S7 h
    · refine z_if_eqf C 151 c8 d_M_tells_144 (by decide) ?_
      refine z_iconst C (1 : Int32) (by decide) d_M_tells_147 ?_
      refine z_goto C 152 d_M_tells_148 (by decide) ?_
      refine zq_lsub [2, 3, 4, 5, 6, 7, 1, 0] [(0, zr (some 72)), (1, zi a1), (2, zi a2), (3, zi a3), (5, zl a5), (7, zi a7), (8, zl k0), (10, zi (zI S 72 24))] rfl ?_
      exact c_M_tells_152 C hret hk67  a1 a2 a3 a5 a7 k0 (zI S 72 24) (1 : Int32) S7 h
set_option maxRecDepth 100000 in
set_option maxHeartbeats 4000000 in
theorem c_M_tells_67 {p : Program} {l : Launch} {e : Env} {s : State} {m : MethodId} {args : Array Value} {below : List Frame} {meth : Method} {c : Code} {G : zG} (C : zC p s m args meth c G b_M_tells 12 y_M_tells.cls) (hret : meth.sig.returnType = (some .int)) {fu : Nat} {r : Int32} {S1 : zSt} : ∀ (n : Nat) (a1 : Int32) (a2 : Int32) (a3 : Int32) (a5 : Int64) (S : zSt) , f_M_tells_67 fu n a1 a2 a3 a5 S = some (r, S1) → zJ p l e rm_M_tells s m args below meth c G true 12 0 0 (zQm below G args s rm_M_tells true (some (zi r)) S1) S 67 [(0, zr (some 72)), (1, zi a1), (2, zi a2), (3, zi a3), (5, zl a5)] [] := by
  intro n
  induction n with
  | zero =>
    intro a1 a2 a3 a5 S h
    cases h
  | succ n ih =>
    intro a1 a2 a3 a5 S h
    rw [f_M_tells_67] at h
    refine z_aload_n C 0 rfl d_M_tells_67 rfl ?_
    refine z_getI C 11 (by decide) 22 (by decide) rfl zo_72 zk_72 zfl_11_268 d_M_tells_68 ?_
    refine z_aload_n C 0 rfl d_M_tells_71 rfl ?_
    refine z_getI C 11 (by decide) 23 (by decide) rfl zo_72 zk_72 zfl_11_265 d_M_tells_72 ?_
    rcases zite h with ⟨c1, h⟩ | ⟨c1, h⟩
    · refine z_icmp_get C 220 c1 d_M_tells_75 (by decide) ?_
      refine z_lload C 4 rfl d_M_tells_220 ?_
      refine z_l2i C d_M_tells_222 ?_
      cases h
      exact z_iret C .int hret rfl ⟨Nat.zero_le _, Nat.zero_le _⟩ d_M_tells_223
    · refine z_icmp_gef C 220 c1 d_M_tells_75 (by decide) ?_
      refine z_aload_n C 0 rfl d_M_tells_78 rfl ?_
      refine z_aload_n C 0 rfl d_M_tells_79 rfl ?_
      refine z_getI C 11 (by decide) 22 (by decide) rfl zo_72 zk_72 zfl_11_268 d_M_tells_80 ?_
      obtain ⟨r3, h2, h⟩ := zb1_some h
      refine z_cV C 11 (by decide) (m_M_codeAt l h2) mf_M_codeAt lk_11_271 in_M_codeAt se_M_codeAt rfl zo_72 zk_72 ⟨rfl, rfl⟩ ⟨by decide, by decide⟩ ⟨Nat.zero_le _, Nat.zero_le _⟩ rfl _ [] rfl (Nat.le_of_ble_eq_true rfl) d_M_tells_83 ?_
      refine z_istore C [(7, zi r3), (0, zr (some 72)), (1, zi a1), (2, zi a2), (3, zi a3), (5, zl a5)] d_M_tells_86 (by decide) rfl ?_
      refine z_aload_n C 1 rfl d_M_tells_88 rfl ?_
      refine z_iconst C (0 : Int32) (by decide) d_M_tells_89 ?_
      refine z_putI C 11 (by decide) 24 (by decide) rfl (Or.inr (Or.inl rfl)) zo_72 zk_72 zfl_11_278 (Or.inl rfl) d_M_tells_90 ?_
      refine z_aload_n C 1 rfl d_M_tells_93 rfl ?_
      refine z_dup C rfl d_M_tells_94 ?_
      refine z_getI C 11 (by decide) 22 (by decide) rfl zo_72 zk_72 zfl_11_268 d_M_tells_95 ?_
      refine z_iconst C (1 : Int32) (by decide) d_M_tells_98 ?_
      refine z_iadd C d_M_tells_99 ?_
      refine z_putI C 11 (by decide) 22 (by decide) rfl (Or.inl rfl) zo_72 zk_72 zfl_11_268 (Or.inl rfl) d_M_tells_100 ?_
      refine z_iload C 0 rfl d_M_tells_103 ?_
      refine z_iconst C (4 : Int32) (by decide) d_M_tells_105 ?_
      rcases zite h with ⟨c4, h⟩ | ⟨c4, h⟩
      · refine z_icmp_nef C 113 c4 d_M_tells_106 (by decide) ?_
        refine z_lconst C (1 : Int64) (by decide) d_M_tells_109 ?_
        refine z_goto C 118 d_M_tells_110 (by decide) ?_
        refine zq_lsub [1, 2, 3, 4, 5, 0] [(0, zr (some 72)), (1, zi a1), (2, zi a2), (3, zi a3), (5, zl a5), (7, zi r3)] rfl ?_
        exact c_M_tells_118 C hret (fun z0 z1 z2 z3 zS zh => ih z0 z1 z2 z3 zS zh)  a1 a2 a3 a5 r3 (1 : Int64) (zwI (zwI S 72 24 (0 : Int32)) 72 22 ((zI (zwI S 72 24 (0 : Int32)) 72 22) + (1 : Int32))) h
      · refine z_icmp_net C 113 c4 d_M_tells_106 (by decide) ?_
        refine z_aload_n C 1 rfl d_M_tells_113 rfl ?_
        refine z_iconst C (1 : Int32) (by decide) d_M_tells_114 ?_
        obtain ⟨r6, S7, h5, h⟩ := zb2_some h
        refine z_cV C 11 (by decide) (m_M_sumOf l h5) mf_M_sumOf lk_11_295 in_M_sumOf se_M_sumOf rfl zo_72 zk_72 ⟨rfl, rfl⟩ ⟨by decide, by decide⟩ ⟨Nat.zero_le _, Nat.zero_le _⟩ rfl _ [] rfl (Nat.le_of_ble_eq_true rfl) d_M_tells_115 ?_
        refine zq_lsub [1, 2, 3, 4, 5, 0] [(0, zr (some 72)), (1, zi a1), (2, zi a2), (3, zi a3), (5, zl a5), (7, zi r3)] rfl ?_
        exact c_M_tells_118 C hret (fun z0 z1 z2 z3 zS zh => ih z0 z1 z2 z3 zS zh)  a1 a2 a3 a5 r3 r6 S7 h
set_option maxRecDepth 100000 in
set_option maxHeartbeats 4000000 in
theorem m_M_tells (l : Launch) {fu : Nat} {a1 : Int32} {a2 : Int32} {a3 : Int32} {a4 : Int32} {S : zSt} {r : Int32} {S1 : zSt} (h : f_M_tells fu a1 a2 a3 a4 S = some (r, S1)) : zPM l y_M_tells b_M_tells 12 (some .int) rm_M_tells true true [zr (some 72), zi a1, zi a2, zi a3, zi a4] S (some (zi r)) S1 := by
  refine zPM_of (by decide) (Nat.le_of_ble_eq_true rfl) (fun p e s m args below meth c G C hret hname => ?_)
  unfold f_M_tells at h
  refine (?_ : zJ p l e rm_M_tells s m args below meth c G true 12 0 0 (zQm below G args s rm_M_tells true (some (zi r)) S1) S 0 [(0, zr (some 72)), (1, zi a1), (2, zi a2), (3, zi a3), (4, zi a4)] [])
  refine z_aload_n C 0 rfl d_M_tells_0 rfl ?_
  refine z_getF2 C 11 (by decide) 2 (by decide) rfl 2 5807 rfl (74) rfl zp_72 zk_72 zfl_11_24 d_M_tells_1 ?_
  refine z_sipush C (199 : Int32) (by decide) d_M_tells_4 ?_
  refine z_fact (fun hSR => ?_)
  refine z_ialoadS C zo_74 zk_74 (za_74 hSR) (by decide) d_M_tells_7 ?_
  refine z_iconst C (-1 : Int32) (by decide) d_M_tells_8 ?_
  rcases zite h with ⟨c1, h⟩ | ⟨c1, h⟩
  · refine z_icmp_nef C 15 c1 d_M_tells_9 (by decide) ?_
    refine z_iload C 4 rfl d_M_tells_12 ?_
    cases h
    exact z_iret C .int hret rfl ⟨Nat.zero_le _, Nat.zero_le _⟩ d_M_tells_14
  · refine z_icmp_net C 15 c1 d_M_tells_9 (by decide) ?_
    refine z_aload_n C 0 rfl d_M_tells_15 rfl ?_
    refine z_iconst C (0 : Int32) (by decide) d_M_tells_16 ?_
    refine z_putI C 11 (by decide) 25 (by decide) rfl (Or.inr (Or.inl rfl)) zo_72 zk_72 zfl_11_298 (Or.inl rfl) d_M_tells_17 ?_
    refine z_iload C 4 rfl d_M_tells_20 ?_
    refine z_i2l C d_M_tells_22 ?_
    refine z_lstore C [(5, zl a4.toInt64), (0, zr (some 72)), (1, zi a1), (2, zi a2), (3, zi a3), (4, zi a4)] d_M_tells_23 (by decide) rfl ?_
    refine z_aload_n C 1 rfl d_M_tells_25 rfl ?_
    refine z_sipush C (400 : Int32) (by decide) d_M_tells_26 ?_
    refine z_aload_n C 1 rfl d_M_tells_29 rfl ?_
    refine z_getF2 C 11 (by decide) 2 (by decide) rfl 2 5807 rfl (74) rfl zp_72 zk_72 zfl_11_24 d_M_tells_30 ?_
    refine z_sipush C (199 : Int32) (by decide) d_M_tells_33 ?_
    refine z_fact (fun hSR => ?_)
    refine z_ialoadS C zo_74 zk_74 (za_74 hSR) (by decide) d_M_tells_36 ?_
    refine z_imul C d_M_tells_37 ?_
    refine z_putI C 11 (by decide) 22 (by decide) rfl (Or.inl rfl) zo_72 zk_72 zfl_11_268 (Or.inl rfl) d_M_tells_38 ?_
    refine z_aload_n C 1 rfl d_M_tells_41 rfl ?_
    refine z_aload_n C 1 rfl d_M_tells_42 rfl ?_
    refine z_getI C 11 (by decide) 22 (by decide) rfl zo_72 zk_72 zfl_11_268 d_M_tells_43 ?_
    refine z_aload_n C 1 rfl d_M_tells_46 rfl ?_
    refine z_getF2 C 11 (by decide) 2 (by decide) rfl 2 5807 rfl (74) rfl zp_72 zk_72 zfl_11_24 d_M_tells_47 ?_
    refine z_sipush C (200 : Int32) (by decide) d_M_tells_50 ?_
    refine z_aload_n C 1 rfl d_M_tells_53 rfl ?_
    refine z_getF2 C 11 (by decide) 2 (by decide) rfl 2 5807 rfl (74) rfl zp_72 zk_72 zfl_11_24 d_M_tells_54 ?_
    refine z_sipush C (199 : Int32) (by decide) d_M_tells_57 ?_
    refine z_fact (fun hSR => ?_)
    refine z_ialoadS C zo_74 zk_74 (za_74 hSR) (by decide) d_M_tells_60 ?_
    refine z_iadd C d_M_tells_61 ?_
    refine z_fact (fun hSR => ?_)
    obtain ⟨g2, h⟩ := zgd_some h
    refine z_ialoadS C zo_74 zk_74 (za_74 hSR) g2 d_M_tells_62 ?_
    refine z_iadd C d_M_tells_63 ?_
    refine z_putI C 11 (by decide) 23 (by decide) rfl (Or.inl rfl) zo_72 zk_72 zfl_11_265 (Or.inl rfl) d_M_tells_64 ?_
    refine zq_lsub [1, 2, 3, 4, 0] [(0, zr (some 72)), (1, zi a1), (2, zi a2), (3, zi a3), (5, zl a4.toInt64)] rfl ?_
    exact c_M_tells_67 C hret fu  a1 a2 a3 a4.toInt64 (zwI (zwI (zwI S 72 25 (0 : Int32)) 72 22 ((400 : Int32) * (zI (zwI S 72 25 (0 : Int32)) 74 (199 : Int32).toNatClampNeg))) 72 23 ((zI (zwI (zwI S 72 25 (0 : Int32)) 72 22 ((400 : Int32) * (zI (zwI S 72 25 (0 : Int32)) 74 (199 : Int32).toNatClampNeg))) 72 22) + (zI (zwI (zwI S 72 25 (0 : Int32)) 72 22 ((400 : Int32) * (zI (zwI S 72 25 (0 : Int32)) 74 (199 : Int32).toNatClampNeg))) 74 ((200 : Int32) + (zI (zwI (zwI S 72 25 (0 : Int32)) 72 22 ((400 : Int32) * (zI (zwI S 72 25 (0 : Int32)) 74 (199 : Int32).toNatClampNeg))) 74 (199 : Int32).toNatClampNeg)).toNatClampNeg))) h
def f_M_settlesTo (fu : Nat) (a1 : Int32) (S : zSt) : Option (Int32 × zSt) := zb1 (f_M_setsSpring a1 S) (fun S2 => zgd (0 ≤ ((1 : Int32) + a1) ∧ ((1 : Int32) + a1).toNatClampNeg < 5807) (zb2 (f_M_tells fu (3 : Int32) (0 : Int32) (9 : Int32) (zI S2 74 ((1 : Int32) + a1).toNatClampNeg) S2) (fun r5 S6 => some (r5, S6))))
set_option maxRecDepth 100000 in
set_option maxHeartbeats 4000000 in
theorem m_M_settlesTo (l : Launch) {fu : Nat} {a1 : Int32} {S : zSt} {r : Int32} {S1 : zSt} (h : f_M_settlesTo fu a1 S = some (r, S1)) : zPM l y_M_settlesTo b_M_settlesTo 2 (some .int) rm_M_settlesTo true true [zr (some 72), zi a1] S (some (zi r)) S1 := by
  refine zPM_of (by decide) (Nat.le_of_ble_eq_true rfl) (fun p e s m args below meth c G C hret hname => ?_)
  unfold f_M_settlesTo at h
  refine (?_ : zJ p l e rm_M_settlesTo s m args below meth c G true 2 0 0 (zQm below G args s rm_M_settlesTo true (some (zi r)) S1) S 0 [(0, zr (some 72)), (1, zi a1)] [])
  refine z_aload_n C 0 rfl d_M_settlesTo_0 rfl ?_
  refine z_iload_n C 1 rfl d_M_settlesTo_1 rfl ?_
  obtain ⟨S2, h1, h⟩ := zb1_some h
  refine z_cV C 11 (by decide) (m_M_setsSpring l h1) mf_M_setsSpring lk_11_332 in_M_setsSpring se_M_setsSpring rfl zo_72 zk_72 ⟨rfl, rfl⟩ ⟨by decide, by decide⟩ ⟨Nat.zero_le _, Nat.zero_le _⟩ rfl _ [] rfl (Nat.le_of_ble_eq_true rfl) d_M_settlesTo_2 ?_
  refine z_aload_n C 0 rfl d_M_settlesTo_5 rfl ?_
  refine z_iconst C (3 : Int32) (by decide) d_M_settlesTo_6 ?_
  refine z_iconst C (0 : Int32) (by decide) d_M_settlesTo_7 ?_
  refine z_bipush C (9 : Int32) (by decide) d_M_settlesTo_8 ?_
  refine z_aload_n C 0 rfl d_M_settlesTo_10 rfl ?_
  refine z_getF2 C 11 (by decide) 2 (by decide) rfl 2 5807 rfl (74) rfl zp_72 zk_72 zfl_11_24 d_M_settlesTo_11 ?_
  refine z_iconst C (1 : Int32) (by decide) d_M_settlesTo_14 ?_
  refine z_iload_n C 1 rfl d_M_settlesTo_15 rfl ?_
  refine z_iadd C d_M_settlesTo_16 ?_
  refine z_fact (fun hSR => ?_)
  obtain ⟨g3, h⟩ := zgd_some h
  refine z_ialoadS C zo_74 zk_74 (za_74 hSR) g3 d_M_settlesTo_17 ?_
  obtain ⟨r5, S6, h4, h⟩ := zb2_some h
  refine z_cV C 11 (by decide) (m_M_tells l h4) mf_M_tells lk_11_328 in_M_tells se_M_tells rfl zo_72 zk_72 ⟨rfl, rfl⟩ ⟨by decide, by decide⟩ ⟨Nat.zero_le _, Nat.zero_le _⟩ rfl _ [] rfl (Nat.le_of_ble_eq_true rfl) d_M_settlesTo_18 ?_
  cases h
  exact z_iret C .int hret rfl ⟨Nat.zero_le _, Nat.zero_le _⟩ d_M_settlesTo_21
def f_M_of (fu : Nat) (a1 : Int32) (a2 : Int32) (S : zSt) : Option (Int32 × zSt) := zb1 (f_M_isSpring a1 S) (fun r2 => if r2 = 0 then some ((-1 : Int32), S) else if a2 = (0 : Int32) then zgd (0 ≤ ((92 : Int32) + a1) ∧ ((92 : Int32) + a1).toNatClampNeg < 5807) (some (zI S 74 ((92 : Int32) + a1).toNatClampNeg, S)) else if a2 = (1 : Int32) then zgd (0 ≤ ((1 : Int32) + a1) ∧ ((1 : Int32) + a1).toNatClampNeg < 5807) (some (zI S 74 ((1 : Int32) + a1).toNatClampNeg, S)) else if a2 = (2 : Int32) then zb2 (f_M_settlesTo fu a1 S) (fun r10 S11 => some (r10, S11)) else some ((-1 : Int32), S))
set_option maxRecDepth 100000 in
set_option maxHeartbeats 4000000 in
theorem m_M_of (l : Launch) {fu : Nat} {a1 : Int32} {a2 : Int32} {S : zSt} {r : Int32} {S1 : zSt} (h : f_M_of fu a1 a2 S = some (r, S1)) : zPM l y_M_of b_M_of 3 (some .int) rm_M_of true true [zr (some 72), zi a1, zi a2] S (some (zi r)) S1 := by
  refine zPM_of (by decide) (Nat.le_of_ble_eq_true rfl) (fun p e s m args below meth c G C hret hname => ?_)
  unfold f_M_of at h
  refine (?_ : zJ p l e rm_M_of s m args below meth c G true 3 0 0 (zQm below G args s rm_M_of true (some (zi r)) S1) S 0 [(0, zr (some 72)), (1, zi a1), (2, zi a2)] [])
  refine z_aload_n C 0 rfl d_M_of_0 rfl ?_
  refine z_iload_n C 1 rfl d_M_of_1 rfl ?_
  obtain ⟨r2, h1, h⟩ := zb1_some h
  refine z_cV C 11 (by decide) (m_M_isSpring l h1) mf_M_isSpring lk_11_122 in_M_isSpring se_M_isSpring rfl zo_72 zk_72 ⟨rfl, rfl⟩ ⟨by decide, by decide⟩ ⟨Nat.zero_le _, Nat.zero_le _⟩ rfl _ [] rfl (Nat.le_of_ble_eq_true rfl) d_M_of_2 ?_
  rcases zite h with ⟨c3, h⟩ | ⟨c3, h⟩
  · refine z_if_nef C 10 c3 d_M_of_5 (by decide) ?_
    refine z_iconst C (-1 : Int32) (by decide) d_M_of_8 ?_
    cases h
    exact z_iret C .int hret rfl ⟨Nat.zero_le _, Nat.zero_le _⟩ d_M_of_9
  · refine z_if_net C 10 c3 d_M_of_5 (by decide) ?_
    refine z_iload_n C 2 rfl d_M_of_10 rfl ?_
    rcases zite h with ⟨c4, h⟩ | ⟨c4, h⟩
    · refine z_tab C (0 : Int32) 25 36 c4 (by decide) (by decide) (by decide) (by decide) d_M_of_11 ?_
      refine z_aload_n C 0 rfl d_M_of_36 rfl ?_
      refine z_getF2 C 11 (by decide) 2 (by decide) rfl 2 5807 rfl (74) rfl zp_72 zk_72 zfl_11_24 d_M_of_37 ?_
      refine z_bipush C (92 : Int32) (by decide) d_M_of_40 ?_
      refine z_iload_n C 1 rfl d_M_of_42 rfl ?_
      refine z_iadd C d_M_of_43 ?_
      refine z_fact (fun hSR => ?_)
      obtain ⟨g5, h⟩ := zgd_some h
      refine z_ialoadS C zo_74 zk_74 (za_74 hSR) g5 d_M_of_44 ?_
      cases h
      exact z_iret C .int hret rfl ⟨Nat.zero_le _, Nat.zero_le _⟩ d_M_of_45
    · rcases zite h with ⟨c6, h⟩ | ⟨c6, h⟩
      · refine z_tab C (1 : Int32) 35 46 c6 (by decide) (by decide) (by decide) (by decide) d_M_of_11 ?_
        refine z_aload_n C 0 rfl d_M_of_46 rfl ?_
        refine z_getF2 C 11 (by decide) 2 (by decide) rfl 2 5807 rfl (74) rfl zp_72 zk_72 zfl_11_24 d_M_of_47 ?_
        refine z_iconst C (1 : Int32) (by decide) d_M_of_50 ?_
        refine z_iload_n C 1 rfl d_M_of_51 rfl ?_
        refine z_iadd C d_M_of_52 ?_
        refine z_fact (fun hSR => ?_)
        obtain ⟨g7, h⟩ := zgd_some h
        refine z_ialoadS C zo_74 zk_74 (za_74 hSR) g7 d_M_of_53 ?_
        cases h
        exact z_iret C .int hret rfl ⟨Nat.zero_le _, Nat.zero_le _⟩ d_M_of_54
      · rcases zite h with ⟨c8, h⟩ | ⟨c8, h⟩
        · refine z_tab C (2 : Int32) 44 55 c8 (by decide) (by decide) (by decide) (by decide) d_M_of_11 ?_
          refine z_aload_n C 0 rfl d_M_of_55 rfl ?_
          refine z_iload_n C 1 rfl d_M_of_56 rfl ?_
          obtain ⟨r10, S11, h9, h⟩ := zb2_some h
          refine z_cV C 11 (by decide) (m_M_settlesTo l h9) mf_M_settlesTo lk_11_141 in_M_settlesTo se_M_settlesTo rfl zo_72 zk_72 ⟨rfl, rfl⟩ ⟨by decide, by decide⟩ ⟨Nat.zero_le _, Nat.zero_le _⟩ rfl _ [] rfl (Nat.le_of_ble_eq_true rfl) d_M_of_57 ?_
          cases h
          exact z_iret C .int hret rfl ⟨Nat.zero_le _, Nat.zero_le _⟩ d_M_of_60
        · refine z_tabO C (0) 3 (by decide) (fun j hj => by match j, hj with | 0, _ => exact c4 | 1, _ => exact c6 | 2, _ => exact c8 | j + 3, hj => omega) 61 (by decide) d_M_of_11 ?_
          refine z_iconst C (-1 : Int32) (by decide) d_M_of_61 ?_
          cases h
          exact z_iret C .int hret rfl ⟨Nat.zero_le _, Nat.zero_le _⟩ d_M_of_62
def f_M_setsChannel (a1 : Int32) (a2 : Int32) (S : zSt) : Option zSt := zb1 (f_M_farOf a1 a2 (zwI (zwI S 84 (0 : Int32).toNatClampNeg a1) 84 (1 : Int32).toNatClampNeg a2)) (fun r2 => zgd (0 ≤ ((92 : Int32) + a1) ∧ ((92 : Int32) + a1).toNatClampNeg < 5807) (zgd (0 ≤ ((92 : Int32) + a2) ∧ ((92 : Int32) + a2).toNatClampNeg < 5807) (zgd (0 ≤ ((1 : Int32) + a2) ∧ ((1 : Int32) + a2).toNatClampNeg < 5807) (some (zwI (zwI (zwI (zwI (zwI (zwI (zwI S 84 (0 : Int32).toNatClampNeg a1) 84 (1 : Int32).toNatClampNeg a2) 84 (2 : Int32).toNatClampNeg r2) 84 (3 : Int32).toNatClampNeg ((zI (zwI (zwI (zwI S 84 (0 : Int32).toNatClampNeg a1) 84 (1 : Int32).toNatClampNeg a2) 84 (2 : Int32).toNatClampNeg r2) 74 ((92 : Int32) + a1).toNatClampNeg) - (zI (zwI (zwI (zwI S 84 (0 : Int32).toNatClampNeg a1) 84 (1 : Int32).toNatClampNeg a2) 84 (2 : Int32).toNatClampNeg r2) 74 ((92 : Int32) + a2).toNatClampNeg))) 84 (4 : Int32).toNatClampNeg (zI (zwI (zwI (zwI (zwI S 84 (0 : Int32).toNatClampNeg a1) 84 (1 : Int32).toNatClampNeg a2) 84 (2 : Int32).toNatClampNeg r2) 84 (3 : Int32).toNatClampNeg ((zI (zwI (zwI (zwI S 84 (0 : Int32).toNatClampNeg a1) 84 (1 : Int32).toNatClampNeg a2) 84 (2 : Int32).toNatClampNeg r2) 74 ((92 : Int32) + a1).toNatClampNeg) - (zI (zwI (zwI (zwI S 84 (0 : Int32).toNatClampNeg a1) 84 (1 : Int32).toNatClampNeg a2) 84 (2 : Int32).toNatClampNeg r2) 74 ((92 : Int32) + a2).toNatClampNeg))) 74 (195 : Int32).toNatClampNeg)) 84 (5 : Int32).toNatClampNeg (zI (zwI (zwI (zwI (zwI (zwI S 84 (0 : Int32).toNatClampNeg a1) 84 (1 : Int32).toNatClampNeg a2) 84 (2 : Int32).toNatClampNeg r2) 84 (3 : Int32).toNatClampNeg ((zI (zwI (zwI (zwI S 84 (0 : Int32).toNatClampNeg a1) 84 (1 : Int32).toNatClampNeg a2) 84 (2 : Int32).toNatClampNeg r2) 74 ((92 : Int32) + a1).toNatClampNeg) - (zI (zwI (zwI (zwI S 84 (0 : Int32).toNatClampNeg a1) 84 (1 : Int32).toNatClampNeg a2) 84 (2 : Int32).toNatClampNeg r2) 74 ((92 : Int32) + a2).toNatClampNeg))) 84 (4 : Int32).toNatClampNeg (zI (zwI (zwI (zwI (zwI S 84 (0 : Int32).toNatClampNeg a1) 84 (1 : Int32).toNatClampNeg a2) 84 (2 : Int32).toNatClampNeg r2) 84 (3 : Int32).toNatClampNeg ((zI (zwI (zwI (zwI S 84 (0 : Int32).toNatClampNeg a1) 84 (1 : Int32).toNatClampNeg a2) 84 (2 : Int32).toNatClampNeg r2) 74 ((92 : Int32) + a1).toNatClampNeg) - (zI (zwI (zwI (zwI S 84 (0 : Int32).toNatClampNeg a1) 84 (1 : Int32).toNatClampNeg a2) 84 (2 : Int32).toNatClampNeg r2) 74 ((92 : Int32) + a2).toNatClampNeg))) 74 (195 : Int32).toNatClampNeg)) 74 ((1 : Int32) + a2).toNatClampNeg)) 84 (6 : Int32).toNatClampNeg (zI (zwI (zwI (zwI (zwI (zwI (zwI S 84 (0 : Int32).toNatClampNeg a1) 84 (1 : Int32).toNatClampNeg a2) 84 (2 : Int32).toNatClampNeg r2) 84 (3 : Int32).toNatClampNeg ((zI (zwI (zwI (zwI S 84 (0 : Int32).toNatClampNeg a1) 84 (1 : Int32).toNatClampNeg a2) 84 (2 : Int32).toNatClampNeg r2) 74 ((92 : Int32) + a1).toNatClampNeg) - (zI (zwI (zwI (zwI S 84 (0 : Int32).toNatClampNeg a1) 84 (1 : Int32).toNatClampNeg a2) 84 (2 : Int32).toNatClampNeg r2) 74 ((92 : Int32) + a2).toNatClampNeg))) 84 (4 : Int32).toNatClampNeg (zI (zwI (zwI (zwI (zwI S 84 (0 : Int32).toNatClampNeg a1) 84 (1 : Int32).toNatClampNeg a2) 84 (2 : Int32).toNatClampNeg r2) 84 (3 : Int32).toNatClampNeg ((zI (zwI (zwI (zwI S 84 (0 : Int32).toNatClampNeg a1) 84 (1 : Int32).toNatClampNeg a2) 84 (2 : Int32).toNatClampNeg r2) 74 ((92 : Int32) + a1).toNatClampNeg) - (zI (zwI (zwI (zwI S 84 (0 : Int32).toNatClampNeg a1) 84 (1 : Int32).toNatClampNeg a2) 84 (2 : Int32).toNatClampNeg r2) 74 ((92 : Int32) + a2).toNatClampNeg))) 74 (195 : Int32).toNatClampNeg)) 84 (5 : Int32).toNatClampNeg (zI (zwI (zwI (zwI (zwI (zwI S 84 (0 : Int32).toNatClampNeg a1) 84 (1 : Int32).toNatClampNeg a2) 84 (2 : Int32).toNatClampNeg r2) 84 (3 : Int32).toNatClampNeg ((zI (zwI (zwI (zwI S 84 (0 : Int32).toNatClampNeg a1) 84 (1 : Int32).toNatClampNeg a2) 84 (2 : Int32).toNatClampNeg r2) 74 ((92 : Int32) + a1).toNatClampNeg) - (zI (zwI (zwI (zwI S 84 (0 : Int32).toNatClampNeg a1) 84 (1 : Int32).toNatClampNeg a2) 84 (2 : Int32).toNatClampNeg r2) 74 ((92 : Int32) + a2).toNatClampNeg))) 84 (4 : Int32).toNatClampNeg (zI (zwI (zwI (zwI (zwI S 84 (0 : Int32).toNatClampNeg a1) 84 (1 : Int32).toNatClampNeg a2) 84 (2 : Int32).toNatClampNeg r2) 84 (3 : Int32).toNatClampNeg ((zI (zwI (zwI (zwI S 84 (0 : Int32).toNatClampNeg a1) 84 (1 : Int32).toNatClampNeg a2) 84 (2 : Int32).toNatClampNeg r2) 74 ((92 : Int32) + a1).toNatClampNeg) - (zI (zwI (zwI (zwI S 84 (0 : Int32).toNatClampNeg a1) 84 (1 : Int32).toNatClampNeg a2) 84 (2 : Int32).toNatClampNeg r2) 74 ((92 : Int32) + a2).toNatClampNeg))) 74 (195 : Int32).toNatClampNeg)) 74 ((1 : Int32) + a2).toNatClampNeg)) 74 (91 : Int32).toNatClampNeg))))))
set_option maxRecDepth 100000 in
set_option maxHeartbeats 4000000 in
theorem m_M_setsChannel (l : Launch) {a1 : Int32} {a2 : Int32} {S : zSt} {S1 : zSt} (h : f_M_setsChannel a1 a2 S = some S1) : zPM l y_M_setsChannel b_M_setsChannel 3 none rm_M_setsChannel true true [zr (some 72), zi a1, zi a2] S none S1 := by
  refine zPM_of (by decide) (Nat.le_of_ble_eq_true rfl) (fun p e s m args below meth c G C hret hname => ?_)
  unfold f_M_setsChannel at h
  refine (?_ : zJ p l e rm_M_setsChannel s m args below meth c G true 3 0 0 (zQm below G args s rm_M_setsChannel true none S1) S 0 [(0, zr (some 72)), (1, zi a1), (2, zi a2)] [])
  refine z_aload_n C 0 rfl d_M_setsChannel_0 rfl ?_
  refine z_getF2 C 11 (by decide) 26 (by decide) rfl 12 7 rfl (84) rfl zp_72 zk_72 zfl_11_59 d_M_setsChannel_1 ?_
  refine z_iconst C (0 : Int32) (by decide) d_M_setsChannel_4 ?_
  refine z_iload_n C 1 rfl d_M_setsChannel_5 rfl ?_
  refine z_fact (fun hSR => ?_)
  refine z_iastoreS C zo_84 zk_84 (za_84 hSR) (by decide) d_M_setsChannel_6 ?_
  refine z_aload_n C 0 rfl d_M_setsChannel_7 rfl ?_
  refine z_getF2 C 11 (by decide) 26 (by decide) rfl 12 7 rfl (84) rfl zp_72 zk_72 zfl_11_59 d_M_setsChannel_8 ?_
  refine z_iconst C (1 : Int32) (by decide) d_M_setsChannel_11 ?_
  refine z_iload_n C 2 rfl d_M_setsChannel_12 rfl ?_
  refine z_fact (fun hSR => ?_)
  refine z_iastoreS C zo_84 zk_84 (za_84 hSR) (by decide) d_M_setsChannel_13 ?_
  refine z_aload_n C 0 rfl d_M_setsChannel_14 rfl ?_
  refine z_getF2 C 11 (by decide) 26 (by decide) rfl 12 7 rfl (84) rfl zp_72 zk_72 zfl_11_59 d_M_setsChannel_15 ?_
  refine z_iconst C (2 : Int32) (by decide) d_M_setsChannel_18 ?_
  refine z_aload_n C 0 rfl d_M_setsChannel_19 rfl ?_
  refine z_iload_n C 1 rfl d_M_setsChannel_20 rfl ?_
  refine z_iload_n C 2 rfl d_M_setsChannel_21 rfl ?_
  obtain ⟨r2, h1, h⟩ := zb1_some h
  refine z_cV C 11 (by decide) (m_M_farOf l h1) mf_M_farOf lk_11_134 in_M_farOf se_M_farOf rfl zo_72 zk_72 ⟨rfl, rfl⟩ ⟨by decide, by decide⟩ ⟨Nat.zero_le _, Nat.zero_le _⟩ rfl _ [zi (2 : Int32), zr (some 84)] rfl (Nat.le_of_ble_eq_true rfl) d_M_setsChannel_22 ?_
  refine z_fact (fun hSR => ?_)
  refine z_iastoreS C zo_84 zk_84 (za_84 hSR) (by decide) d_M_setsChannel_25 ?_
  refine z_aload_n C 0 rfl d_M_setsChannel_26 rfl ?_
  refine z_getF2 C 11 (by decide) 26 (by decide) rfl 12 7 rfl (84) rfl zp_72 zk_72 zfl_11_59 d_M_setsChannel_27 ?_
  refine z_iconst C (3 : Int32) (by decide) d_M_setsChannel_30 ?_
  refine z_aload_n C 0 rfl d_M_setsChannel_31 rfl ?_
  refine z_getF2 C 11 (by decide) 2 (by decide) rfl 2 5807 rfl (74) rfl zp_72 zk_72 zfl_11_24 d_M_setsChannel_32 ?_
  refine z_bipush C (92 : Int32) (by decide) d_M_setsChannel_35 ?_
  refine z_iload_n C 1 rfl d_M_setsChannel_37 rfl ?_
  refine z_iadd C d_M_setsChannel_38 ?_
  refine z_fact (fun hSR => ?_)
  obtain ⟨g3, h⟩ := zgd_some h
  refine z_ialoadS C zo_74 zk_74 (za_74 hSR) g3 d_M_setsChannel_39 ?_
  refine z_aload_n C 0 rfl d_M_setsChannel_40 rfl ?_
  refine z_getF2 C 11 (by decide) 2 (by decide) rfl 2 5807 rfl (74) rfl zp_72 zk_72 zfl_11_24 d_M_setsChannel_41 ?_
  refine z_bipush C (92 : Int32) (by decide) d_M_setsChannel_44 ?_
  refine z_iload_n C 2 rfl d_M_setsChannel_46 rfl ?_
  refine z_iadd C d_M_setsChannel_47 ?_
  refine z_fact (fun hSR => ?_)
  obtain ⟨g4, h⟩ := zgd_some h
  refine z_ialoadS C zo_74 zk_74 (za_74 hSR) g4 d_M_setsChannel_48 ?_
  refine z_isub C d_M_setsChannel_49 ?_
  refine z_fact (fun hSR => ?_)
  refine z_iastoreS C zo_84 zk_84 (za_84 hSR) (by decide) d_M_setsChannel_50 ?_
  refine z_aload_n C 0 rfl d_M_setsChannel_51 rfl ?_
  refine z_getF2 C 11 (by decide) 26 (by decide) rfl 12 7 rfl (84) rfl zp_72 zk_72 zfl_11_59 d_M_setsChannel_52 ?_
  refine z_iconst C (4 : Int32) (by decide) d_M_setsChannel_55 ?_
  refine z_aload_n C 0 rfl d_M_setsChannel_56 rfl ?_
  refine z_getF2 C 11 (by decide) 2 (by decide) rfl 2 5807 rfl (74) rfl zp_72 zk_72 zfl_11_24 d_M_setsChannel_57 ?_
  refine z_sipush C (195 : Int32) (by decide) d_M_setsChannel_60 ?_
  refine z_fact (fun hSR => ?_)
  refine z_ialoadS C zo_74 zk_74 (za_74 hSR) (by decide) d_M_setsChannel_63 ?_
  refine z_fact (fun hSR => ?_)
  refine z_iastoreS C zo_84 zk_84 (za_84 hSR) (by decide) d_M_setsChannel_64 ?_
  refine z_aload_n C 0 rfl d_M_setsChannel_65 rfl ?_
  refine z_getF2 C 11 (by decide) 26 (by decide) rfl 12 7 rfl (84) rfl zp_72 zk_72 zfl_11_59 d_M_setsChannel_66 ?_
  refine z_iconst C (5 : Int32) (by decide) d_M_setsChannel_69 ?_
  refine z_aload_n C 0 rfl d_M_setsChannel_70 rfl ?_
  refine z_getF2 C 11 (by decide) 2 (by decide) rfl 2 5807 rfl (74) rfl zp_72 zk_72 zfl_11_24 d_M_setsChannel_71 ?_
  refine z_iconst C (1 : Int32) (by decide) d_M_setsChannel_74 ?_
  refine z_iload_n C 2 rfl d_M_setsChannel_75 rfl ?_
  refine z_iadd C d_M_setsChannel_76 ?_
  refine z_fact (fun hSR => ?_)
  obtain ⟨g5, h⟩ := zgd_some h
  refine z_ialoadS C zo_74 zk_74 (za_74 hSR) g5 d_M_setsChannel_77 ?_
  refine z_fact (fun hSR => ?_)
  refine z_iastoreS C zo_84 zk_84 (za_84 hSR) (by decide) d_M_setsChannel_78 ?_
  refine z_aload_n C 0 rfl d_M_setsChannel_79 rfl ?_
  refine z_getF2 C 11 (by decide) 26 (by decide) rfl 12 7 rfl (84) rfl zp_72 zk_72 zfl_11_59 d_M_setsChannel_80 ?_
  refine z_bipush C (6 : Int32) (by decide) d_M_setsChannel_83 ?_
  refine z_aload_n C 0 rfl d_M_setsChannel_85 rfl ?_
  refine z_getF2 C 11 (by decide) 2 (by decide) rfl 2 5807 rfl (74) rfl zp_72 zk_72 zfl_11_24 d_M_setsChannel_86 ?_
  refine z_bipush C (91 : Int32) (by decide) d_M_setsChannel_89 ?_
  refine z_fact (fun hSR => ?_)
  refine z_ialoadS C zo_74 zk_74 (za_74 hSR) (by decide) d_M_setsChannel_91 ?_
  refine z_fact (fun hSR => ?_)
  refine z_iastoreS C zo_84 zk_84 (za_84 hSR) (by decide) d_M_setsChannel_92 ?_
  cases h
  exact z_vret C hret ⟨Nat.zero_le _, Nat.zero_le _⟩ d_M_setsChannel_93
def f_M_takesFor (fu : Nat) (a1 : Int32) (a2 : Int32) (S : zSt) : Option (Int32 × zSt) := zb1 (f_M_setsChannel a1 a2 S) (fun S2 => zb1 (f_M_farOf a1 a2 S2) (fun r4 => zb2 (f_M_tells fu (1 : Int32) (1 : Int32) (99 : Int32) r4 S2) (fun r6 S7 => some (r6, S7))))
set_option maxRecDepth 100000 in
set_option maxHeartbeats 4000000 in
theorem m_M_takesFor (l : Launch) {fu : Nat} {a1 : Int32} {a2 : Int32} {S : zSt} {r : Int32} {S1 : zSt} (h : f_M_takesFor fu a1 a2 S = some (r, S1)) : zPM l y_M_takesFor b_M_takesFor 3 (some .int) rm_M_takesFor true true [zr (some 72), zi a1, zi a2] S (some (zi r)) S1 := by
  refine zPM_of (by decide) (Nat.le_of_ble_eq_true rfl) (fun p e s m args below meth c G C hret hname => ?_)
  unfold f_M_takesFor at h
  refine (?_ : zJ p l e rm_M_takesFor s m args below meth c G true 3 0 0 (zQm below G args s rm_M_takesFor true (some (zi r)) S1) S 0 [(0, zr (some 72)), (1, zi a1), (2, zi a2)] [])
  refine z_aload_n C 0 rfl d_M_takesFor_0 rfl ?_
  refine z_iload_n C 1 rfl d_M_takesFor_1 rfl ?_
  refine z_iload_n C 2 rfl d_M_takesFor_2 rfl ?_
  obtain ⟨S2, h1, h⟩ := zb1_some h
  refine z_cV C 11 (by decide) (m_M_setsChannel l h1) mf_M_setsChannel lk_11_325 in_M_setsChannel se_M_setsChannel rfl zo_72 zk_72 ⟨rfl, rfl⟩ ⟨by decide, by decide⟩ ⟨Nat.zero_le _, Nat.zero_le _⟩ rfl _ [] rfl (Nat.le_of_ble_eq_true rfl) d_M_takesFor_3 ?_
  refine z_aload_n C 0 rfl d_M_takesFor_6 rfl ?_
  refine z_iconst C (1 : Int32) (by decide) d_M_takesFor_7 ?_
  refine z_iconst C (1 : Int32) (by decide) d_M_takesFor_8 ?_
  refine z_bipush C (99 : Int32) (by decide) d_M_takesFor_9 ?_
  refine z_aload_n C 0 rfl d_M_takesFor_11 rfl ?_
  refine z_iload_n C 1 rfl d_M_takesFor_12 rfl ?_
  refine z_iload_n C 2 rfl d_M_takesFor_13 rfl ?_
  obtain ⟨r4, h3, h⟩ := zb1_some h
  refine z_cV C 11 (by decide) (m_M_farOf l h3) mf_M_farOf lk_11_134 in_M_farOf se_M_farOf rfl zo_72 zk_72 ⟨rfl, rfl⟩ ⟨by decide, by decide⟩ ⟨Nat.zero_le _, Nat.zero_le _⟩ rfl _ [zi (99 : Int32), zi (1 : Int32), zi (1 : Int32), zr (some 72)] rfl (Nat.le_of_ble_eq_true rfl) d_M_takesFor_14 ?_
  obtain ⟨r6, S7, h5, h⟩ := zb2_some h
  refine z_cV C 11 (by decide) (m_M_tells l h5) mf_M_tells lk_11_328 in_M_tells se_M_tells rfl zo_72 zk_72 ⟨rfl, rfl⟩ ⟨by decide, by decide⟩ ⟨Nat.zero_le _, Nat.zero_le _⟩ rfl _ [] rfl (Nat.le_of_ble_eq_true rfl) d_M_takesFor_17 ?_
  cases h
  exact z_iret C .int hret rfl ⟨Nat.zero_le _, Nat.zero_le _⟩ d_M_takesFor_20
def f_M_weighsFor (fu : Nat) (a1 : Int32) (a2 : Int32) (S : zSt) : Option (Int32 × zSt) := zb1 (f_M_setsChannel a1 a2 S) (fun S2 => zb2 (f_M_tells fu (2 : Int32) (0 : Int32) (99 : Int32) (1 : Int32) S2) (fun r4 S5 => some (r4, S5)))
set_option maxRecDepth 100000 in
set_option maxHeartbeats 4000000 in
theorem m_M_weighsFor (l : Launch) {fu : Nat} {a1 : Int32} {a2 : Int32} {S : zSt} {r : Int32} {S1 : zSt} (h : f_M_weighsFor fu a1 a2 S = some (r, S1)) : zPM l y_M_weighsFor b_M_weighsFor 3 (some .int) rm_M_weighsFor true true [zr (some 72), zi a1, zi a2] S (some (zi r)) S1 := by
  refine zPM_of (by decide) (Nat.le_of_ble_eq_true rfl) (fun p e s m args below meth c G C hret hname => ?_)
  unfold f_M_weighsFor at h
  refine (?_ : zJ p l e rm_M_weighsFor s m args below meth c G true 3 0 0 (zQm below G args s rm_M_weighsFor true (some (zi r)) S1) S 0 [(0, zr (some 72)), (1, zi a1), (2, zi a2)] [])
  refine z_aload_n C 0 rfl d_M_weighsFor_0 rfl ?_
  refine z_iload_n C 1 rfl d_M_weighsFor_1 rfl ?_
  refine z_iload_n C 2 rfl d_M_weighsFor_2 rfl ?_
  obtain ⟨S2, h1, h⟩ := zb1_some h
  refine z_cV C 11 (by decide) (m_M_setsChannel l h1) mf_M_setsChannel lk_11_325 in_M_setsChannel se_M_setsChannel rfl zo_72 zk_72 ⟨rfl, rfl⟩ ⟨by decide, by decide⟩ ⟨Nat.zero_le _, Nat.zero_le _⟩ rfl _ [] rfl (Nat.le_of_ble_eq_true rfl) d_M_weighsFor_3 ?_
  refine z_aload_n C 0 rfl d_M_weighsFor_6 rfl ?_
  refine z_iconst C (2 : Int32) (by decide) d_M_weighsFor_7 ?_
  refine z_iconst C (0 : Int32) (by decide) d_M_weighsFor_8 ?_
  refine z_bipush C (99 : Int32) (by decide) d_M_weighsFor_9 ?_
  refine z_iconst C (1 : Int32) (by decide) d_M_weighsFor_11 ?_
  obtain ⟨r4, S5, h3, h⟩ := zb2_some h
  refine z_cV C 11 (by decide) (m_M_tells l h3) mf_M_tells lk_11_328 in_M_tells se_M_tells rfl zo_72 zk_72 ⟨rfl, rfl⟩ ⟨by decide, by decide⟩ ⟨Nat.zero_le _, Nat.zero_le _⟩ rfl _ [] rfl (Nat.le_of_ble_eq_true rfl) d_M_weighsFor_12 ?_
  cases h
  exact z_iret C .int hret rfl ⟨Nat.zero_le _, Nat.zero_le _⟩ d_M_weighsFor_15
def f_M_isBarred (fu : Nat) (a1 : Int32) (a2 : Int32) (S : zSt) : Option (Int32 × zSt) := zb1 (f_M_setsChannel a1 a2 S) (fun S2 => zb2 (f_M_tells fu (4 : Int32) (0 : Int32) (1 : Int32) (0 : Int32) S2) (fun r4 S5 => if r4 = (1 : Int32) then some ((1 : Int32), S5) else some ((0 : Int32), S5)))
set_option maxRecDepth 100000 in
set_option maxHeartbeats 4000000 in
theorem m_M_isBarred (l : Launch) {fu : Nat} {a1 : Int32} {a2 : Int32} {S : zSt} {r : Int32} {S1 : zSt} (h : f_M_isBarred fu a1 a2 S = some (r, S1)) : zPM l y_M_isBarred b_M_isBarred 3 (some .boolean) rm_M_isBarred true true [zr (some 72), zi a1, zi a2] S (some (zi r)) S1 := by
  refine zPM_of (by decide) (Nat.le_of_ble_eq_true rfl) (fun p e s m args below meth c G C hret hname => ?_)
  unfold f_M_isBarred at h
  refine (?_ : zJ p l e rm_M_isBarred s m args below meth c G true 3 0 0 (zQm below G args s rm_M_isBarred true (some (zi r)) S1) S 0 [(0, zr (some 72)), (1, zi a1), (2, zi a2)] [])
  refine z_aload_n C 0 rfl d_M_isBarred_0 rfl ?_
  refine z_iload_n C 1 rfl d_M_isBarred_1 rfl ?_
  refine z_iload_n C 2 rfl d_M_isBarred_2 rfl ?_
  obtain ⟨S2, h1, h⟩ := zb1_some h
  refine z_cV C 11 (by decide) (m_M_setsChannel l h1) mf_M_setsChannel lk_11_325 in_M_setsChannel se_M_setsChannel rfl zo_72 zk_72 ⟨rfl, rfl⟩ ⟨by decide, by decide⟩ ⟨Nat.zero_le _, Nat.zero_le _⟩ rfl _ [] rfl (Nat.le_of_ble_eq_true rfl) d_M_isBarred_3 ?_
  refine z_aload_n C 0 rfl d_M_isBarred_6 rfl ?_
  refine z_iconst C (4 : Int32) (by decide) d_M_isBarred_7 ?_
  refine z_iconst C (0 : Int32) (by decide) d_M_isBarred_8 ?_
  refine z_iconst C (1 : Int32) (by decide) d_M_isBarred_9 ?_
  refine z_iconst C (0 : Int32) (by decide) d_M_isBarred_10 ?_
  obtain ⟨r4, S5, h3, h⟩ := zb2_some h
  refine z_cV C 11 (by decide) (m_M_tells l h3) mf_M_tells lk_11_328 in_M_tells se_M_tells rfl zo_72 zk_72 ⟨rfl, rfl⟩ ⟨by decide, by decide⟩ ⟨Nat.zero_le _, Nat.zero_le _⟩ rfl _ [] rfl (Nat.le_of_ble_eq_true rfl) d_M_isBarred_11 ?_
  refine z_iconst C (1 : Int32) (by decide) d_M_isBarred_14 ?_
  rcases zite h with ⟨c6, h⟩ | ⟨c6, h⟩
  · refine z_icmp_nef C 22 c6 d_M_isBarred_15 (by decide) ?_
    refine z_iconst C (1 : Int32) (by decide) d_M_isBarred_18 ?_
    refine z_goto C 23 d_M_isBarred_19 (by decide) ?_
    cases h
    exact z_iret C .boolean hret rfl ⟨Nat.zero_le _, Nat.zero_le _⟩ d_M_isBarred_23
  · refine z_icmp_net C 22 c6 d_M_isBarred_15 (by decide) ?_
    refine z_iconst C (0 : Int32) (by decide) d_M_isBarred_22 ?_
    cases h
    exact z_iret C .boolean hret rfl ⟨Nat.zero_le _, Nat.zero_le _⟩ d_M_isBarred_23

/-! printed by dec4.py: 10.t -/
abbrev rm_Ps_setMud : Room := { frames := 1, cells := 0, slots := 0, locals := 64 }
abbrev rm_Ps_addSpring : Room := { frames := 2, cells := 0, slots := 0, locals := 86 }
abbrev rm_Ps_has : Room := { frames := 1, cells := 0, slots := 0, locals := 64 }
abbrev rm_M_lies : Room := { frames := 1, cells := 0, slots := 0, locals := 64 }
abbrev rm_M_refuses : Room := { frames := 1, cells := 0, slots := 0, locals := 64 }
abbrev rm_M_good : Room := { frames := 1, cells := 0, slots := 0, locals := 64 }
abbrev rm_M_image : Room := { frames := 2, cells := 0, slots := 0, locals := 86 }
abbrev rm_M_settled : Room := { frames := 2, cells := 0, slots := 0, locals := 85 }
abbrev rm_M_springMany : Room := { frames := 1, cells := 0, slots := 0, locals := 64 }
abbrev rm_M_spring : Room := { frames := 3, cells := 0, slots := 0, locals := 106 }
abbrev rm_M_isSpring : Room := { frames := 2, cells := 0, slots := 0, locals := 86 }
abbrev rm_M_areTwo : Room := { frames := 3, cells := 0, slots := 0, locals := 107 }
abbrev rm_M_pairAt : Room := { frames := 1, cells := 0, slots := 0, locals := 64 }
abbrev rm_M_laysChannel : Room := { frames := 2, cells := 0, slots := 0, locals := 85 }
abbrev rm_M_lesser : Room := { frames := 1, cells := 0, slots := 0, locals := 64 }
abbrev rm_M_laysAside : Room := { frames := 1, cells := 0, slots := 0, locals := 64 }
def y_Ps_setMud : MethodName := ⟨zNm 5, "setMud", "(II)V"⟩
abbrev b_Ps_setMud : ByteArray := prog_6_method_8_code
theorem d_Ps_setMud_0 : decode b_Ps_setMud 0 = .ok (.aload_n 0, 1) := by decide +kernel
theorem d_Ps_setMud_1 : decode b_Ps_setMud 1 = .ok (.aload_n 0, 1) := by decide +kernel
theorem d_Ps_setMud_2 : decode b_Ps_setMud 2 = .ok (.getfield 22, 3) := by decide +kernel
theorem d_Ps_setMud_5 : decode b_Ps_setMud 5 = .ok (.ldc2_w 76, 3) := by decide +kernel
theorem d_Ps_setMud_8 : decode b_Ps_setMud 8 = .ok (.iconst 4, 1) := by decide +kernel
theorem d_Ps_setMud_9 : decode b_Ps_setMud 9 = .ok (.iload_n 1, 1) := by decide +kernel
theorem d_Ps_setMud_10 : decode b_Ps_setMud 10 = .ok (.imul, 1) := by decide +kernel
theorem d_Ps_setMud_11 : decode b_Ps_setMud 11 = .ok (.lshl, 1) := by decide +kernel
theorem d_Ps_setMud_12 : decode b_Ps_setMud 12 = .ok (.ldc2_w 78, 3) := by decide +kernel
theorem d_Ps_setMud_15 : decode b_Ps_setMud 15 = .ok (.lxor, 1) := by decide +kernel
theorem d_Ps_setMud_16 : decode b_Ps_setMud 16 = .ok (.land, 1) := by decide +kernel
theorem d_Ps_setMud_17 : decode b_Ps_setMud 17 = .ok (.iload_n 2, 1) := by decide +kernel
theorem d_Ps_setMud_18 : decode b_Ps_setMud 18 = .ok (.i2l, 1) := by decide +kernel
theorem d_Ps_setMud_19 : decode b_Ps_setMud 19 = .ok (.iconst 4, 1) := by decide +kernel
theorem d_Ps_setMud_20 : decode b_Ps_setMud 20 = .ok (.iload_n 1, 1) := by decide +kernel
theorem d_Ps_setMud_21 : decode b_Ps_setMud 21 = .ok (.imul, 1) := by decide +kernel
theorem d_Ps_setMud_22 : decode b_Ps_setMud 22 = .ok (.lshl, 1) := by decide +kernel
theorem d_Ps_setMud_23 : decode b_Ps_setMud 23 = .ok (.lor, 1) := by decide +kernel
theorem d_Ps_setMud_24 : decode b_Ps_setMud 24 = .ok (.putfield 22, 3) := by decide +kernel
theorem d_Ps_setMud_27 : decode b_Ps_setMud 27 = .ok (.return_, 1) := by decide +kernel
theorem mf_Ps_setMud : zMF y_Ps_setMud b_Ps_setMud 3 none 2 := ⟨zGW_in 507 (by decide +kernel) (by decide +kernel), zGW_in 125 (by decide +kernel) (by decide +kernel), by decide +kernel⟩
theorem in_Ps_setMud : Cond.instanceMethod y_Ps_setMud ∈ zGW := zGW_in 506 (by decide +kernel) (by decide +kernel)
theorem se_Ps_setMud : Cond.selects y_Ps_setMud.cls y_Ps_setMud y_Ps_setMud ∈ zGW := zGW_in 1 (by decide +kernel) (by decide +kernel)
def y_Ps_addSpring : MethodName := ⟨zNm 5, "addSpring", "(II)I"⟩
abbrev b_Ps_addSpring : ByteArray := prog_6_method_5_code
theorem d_Ps_addSpring_0 : decode b_Ps_addSpring 0 = .ok (.aload_n 0, 1) := by decide +kernel
theorem d_Ps_addSpring_1 : decode b_Ps_addSpring 1 = .ok (.getfield 9, 3) := by decide +kernel
theorem d_Ps_addSpring_4 : decode b_Ps_addSpring 4 = .ok (.istore_n 3, 1) := by decide +kernel
theorem d_Ps_addSpring_5 : decode b_Ps_addSpring 5 = .ok (.iload_n 3, 1) := by decide +kernel
theorem d_Ps_addSpring_6 : decode b_Ps_addSpring 6 = .ok (.ifCond .lt 12, 3) := by decide +kernel
theorem d_Ps_addSpring_9 : decode b_Ps_addSpring 9 = .ok (.iload_n 3, 1) := by decide +kernel
theorem d_Ps_addSpring_10 : decode b_Ps_addSpring 10 = .ok (.aload_n 0, 1) := by decide +kernel
theorem d_Ps_addSpring_11 : decode b_Ps_addSpring 11 = .ok (.getfield 15, 3) := by decide +kernel
theorem d_Ps_addSpring_14 : decode b_Ps_addSpring 14 = .ok (.arraylength, 1) := by decide +kernel
theorem d_Ps_addSpring_15 : decode b_Ps_addSpring 15 = .ok (.if_icmp .lt 5, 3) := by decide +kernel
theorem d_Ps_addSpring_18 : decode b_Ps_addSpring 18 = .ok (.iconst (-1), 1) := by decide +kernel
theorem d_Ps_addSpring_19 : decode b_Ps_addSpring 19 = .ok (.ireturn, 1) := by decide +kernel
theorem d_Ps_addSpring_20 : decode b_Ps_addSpring 20 = .ok (.aload_n 0, 1) := by decide +kernel
theorem d_Ps_addSpring_21 : decode b_Ps_addSpring 21 = .ok (.getfield 15, 3) := by decide +kernel
theorem d_Ps_addSpring_24 : decode b_Ps_addSpring 24 = .ok (.iload_n 3, 1) := by decide +kernel
theorem d_Ps_addSpring_25 : decode b_Ps_addSpring 25 = .ok (.iload_n 1, 1) := by decide +kernel
theorem d_Ps_addSpring_26 : decode b_Ps_addSpring 26 = .ok (.iastore, 1) := by decide +kernel
theorem d_Ps_addSpring_27 : decode b_Ps_addSpring 27 = .ok (.aload_n 0, 1) := by decide +kernel
theorem d_Ps_addSpring_28 : decode b_Ps_addSpring 28 = .ok (.iload_n 3, 1) := by decide +kernel
theorem d_Ps_addSpring_29 : decode b_Ps_addSpring 29 = .ok (.iconst 1, 1) := by decide +kernel
theorem d_Ps_addSpring_30 : decode b_Ps_addSpring 30 = .ok (.iadd, 1) := by decide +kernel
theorem d_Ps_addSpring_31 : decode b_Ps_addSpring 31 = .ok (.putfield 9, 3) := by decide +kernel
theorem d_Ps_addSpring_34 : decode b_Ps_addSpring 34 = .ok (.aload_n 0, 1) := by decide +kernel
theorem d_Ps_addSpring_35 : decode b_Ps_addSpring 35 = .ok (.iload_n 3, 1) := by decide +kernel
theorem d_Ps_addSpring_36 : decode b_Ps_addSpring 36 = .ok (.iload_n 2, 1) := by decide +kernel
theorem d_Ps_addSpring_37 : decode b_Ps_addSpring 37 = .ok (.invokevirtual 72, 3) := by decide +kernel
theorem d_Ps_addSpring_40 : decode b_Ps_addSpring 40 = .ok (.iload_n 3, 1) := by decide +kernel
theorem d_Ps_addSpring_41 : decode b_Ps_addSpring 41 = .ok (.ireturn, 1) := by decide +kernel
theorem mf_Ps_addSpring : zMF y_Ps_addSpring b_Ps_addSpring 4 (some .int) 2 := ⟨zGW_in 503 (by decide +kernel) (by decide +kernel), zGW_in 125 (by decide +kernel) (by decide +kernel), by decide +kernel⟩
theorem in_Ps_addSpring : Cond.instanceMethod y_Ps_addSpring ∈ zGW := zGW_in 501 (by decide +kernel) (by decide +kernel)
theorem se_Ps_addSpring : Cond.selects y_Ps_addSpring.cls y_Ps_addSpring y_Ps_addSpring ∈ zGW := zGW_in 502 (by decide +kernel) (by decide +kernel)
def y_Ps_has : MethodName := ⟨zNm 5, "has", "(I)Z"⟩
abbrev b_Ps_has : ByteArray := prog_6_method_3_code
theorem d_Ps_has_0 : decode b_Ps_has 0 = .ok (.iload_n 1, 1) := by decide +kernel
theorem d_Ps_has_1 : decode b_Ps_has 1 = .ok (.ifCond .lt 15, 3) := by decide +kernel
theorem d_Ps_has_4 : decode b_Ps_has 4 = .ok (.iload_n 1, 1) := by decide +kernel
theorem d_Ps_has_5 : decode b_Ps_has 5 = .ok (.aload_n 0, 1) := by decide +kernel
theorem d_Ps_has_6 : decode b_Ps_has 6 = .ok (.getfield 9, 3) := by decide +kernel
theorem d_Ps_has_9 : decode b_Ps_has 9 = .ok (.if_icmp .ge 7, 3) := by decide +kernel
theorem d_Ps_has_12 : decode b_Ps_has 12 = .ok (.iconst 1, 1) := by decide +kernel
theorem d_Ps_has_13 : decode b_Ps_has 13 = .ok (.goto 4, 3) := by decide +kernel
theorem d_Ps_has_16 : decode b_Ps_has 16 = .ok (.iconst 0, 1) := by decide +kernel
theorem d_Ps_has_17 : decode b_Ps_has 17 = .ok (.ireturn, 1) := by decide +kernel
theorem mf_Ps_has : zMF y_Ps_has b_Ps_has 2 (some .boolean) 1 := ⟨zGW_in 521 (by decide +kernel) (by decide +kernel), zGW_in 125 (by decide +kernel) (by decide +kernel), by decide +kernel⟩
theorem in_Ps_has : Cond.instanceMethod y_Ps_has ∈ zGW := zGW_in 519 (by decide +kernel) (by decide +kernel)
theorem se_Ps_has : Cond.selects y_Ps_has.cls y_Ps_has y_Ps_has ∈ zGW := zGW_in 520 (by decide +kernel) (by decide +kernel)
def y_M_lies : MethodName := ⟨zNm 11, "lies", "(III)Z"⟩
abbrev b_M_lies : ByteArray := prog_13_method_1_code
theorem d_M_lies_0 : decode b_M_lies 0 = .ok (.iload_n 0, 1) := by decide +kernel
theorem d_M_lies_1 : decode b_M_lies 1 = .ok (.iload_n 1, 1) := by decide +kernel
theorem d_M_lies_2 : decode b_M_lies 2 = .ok (.if_icmp .lt 12, 3) := by decide +kernel
theorem d_M_lies_5 : decode b_M_lies 5 = .ok (.iload_n 0, 1) := by decide +kernel
theorem d_M_lies_6 : decode b_M_lies 6 = .ok (.iload_n 2, 1) := by decide +kernel
theorem d_M_lies_7 : decode b_M_lies 7 = .ok (.if_icmp .gt 7, 3) := by decide +kernel
theorem d_M_lies_10 : decode b_M_lies 10 = .ok (.iconst 1, 1) := by decide +kernel
theorem d_M_lies_11 : decode b_M_lies 11 = .ok (.goto 4, 3) := by decide +kernel
theorem d_M_lies_14 : decode b_M_lies 14 = .ok (.iconst 0, 1) := by decide +kernel
theorem d_M_lies_15 : decode b_M_lies 15 = .ok (.ireturn, 1) := by decide +kernel
theorem mf_M_lies : zMF y_M_lies b_M_lies 3 (some .boolean) 3 := ⟨zGW_in 1440 (by decide +kernel) (by decide +kernel), zGW_in 135 (by decide +kernel) (by decide +kernel), by decide +kernel⟩
theorem st_M_lies : Cond.static y_M_lies ∈ zGW := zGW_in 1439 (by decide +kernel) (by decide +kernel)
def y_M_refuses : MethodName := ⟨zNm 11, "refuses", "(I)I"⟩
abbrev b_M_refuses : ByteArray := prog_13_method_4_code
theorem d_M_refuses_0 : decode b_M_refuses 0 = .ok (.aload_n 0, 1) := by decide +kernel
theorem d_M_refuses_1 : decode b_M_refuses 1 = .ok (.iload_n 1, 1) := by decide +kernel
theorem d_M_refuses_2 : decode b_M_refuses 2 = .ok (.putfield 3, 3) := by decide +kernel
theorem d_M_refuses_5 : decode b_M_refuses 5 = .ok (.aload_n 0, 1) := by decide +kernel
theorem d_M_refuses_6 : decode b_M_refuses 6 = .ok (.getfield 7, 3) := by decide +kernel
theorem d_M_refuses_9 : decode b_M_refuses 9 = .ok (.iload_n 1, 1) := by decide +kernel
theorem d_M_refuses_10 : decode b_M_refuses 10 = .ok (.ineg, 1) := by decide +kernel
theorem d_M_refuses_11 : decode b_M_refuses 11 = .ok (.dup2, 1) := by decide +kernel
theorem d_M_refuses_12 : decode b_M_refuses 12 = .ok (.iaload, 1) := by decide +kernel
theorem d_M_refuses_13 : decode b_M_refuses 13 = .ok (.iconst 1, 1) := by decide +kernel
theorem d_M_refuses_14 : decode b_M_refuses 14 = .ok (.iadd, 1) := by decide +kernel
theorem d_M_refuses_15 : decode b_M_refuses 15 = .ok (.iastore, 1) := by decide +kernel
theorem d_M_refuses_16 : decode b_M_refuses 16 = .ok (.iload_n 1, 1) := by decide +kernel
theorem d_M_refuses_17 : decode b_M_refuses 17 = .ok (.ireturn, 1) := by decide +kernel
theorem mf_M_refuses : zMF y_M_refuses b_M_refuses 2 (some .int) 1 := ⟨zGW_in 1444 (by decide +kernel) (by decide +kernel), zGW_in 135 (by decide +kernel) (by decide +kernel), by decide +kernel⟩
theorem in_M_refuses : Cond.instanceMethod y_M_refuses ∈ zGW := zGW_in 1443 (by decide +kernel) (by decide +kernel)
theorem se_M_refuses : Cond.selects y_M_refuses.cls y_M_refuses y_M_refuses ∈ zGW := zGW_in 39 (by decide +kernel) (by decide +kernel)
def y_M_good : MethodName := ⟨zNm 11, "good", "(I)I"⟩
abbrev b_M_good : ByteArray := prog_13_method_5_code
theorem d_M_good_0 : decode b_M_good 0 = .ok (.aload_n 0, 1) := by decide +kernel
theorem d_M_good_1 : decode b_M_good 1 = .ok (.iconst 0, 1) := by decide +kernel
theorem d_M_good_2 : decode b_M_good 2 = .ok (.putfield 3, 3) := by decide +kernel
theorem d_M_good_5 : decode b_M_good 5 = .ok (.iload_n 1, 1) := by decide +kernel
theorem d_M_good_6 : decode b_M_good 6 = .ok (.ireturn, 1) := by decide +kernel
theorem mf_M_good : zMF y_M_good b_M_good 2 (some .int) 1 := ⟨zGW_in 1448 (by decide +kernel) (by decide +kernel), zGW_in 135 (by decide +kernel) (by decide +kernel), by decide +kernel⟩
theorem in_M_good : Cond.instanceMethod y_M_good ∈ zGW := zGW_in 1447 (by decide +kernel) (by decide +kernel)
theorem se_M_good : Cond.selects y_M_good.cls y_M_good y_M_good ∈ zGW := zGW_in 40 (by decide +kernel) (by decide +kernel)
def y_M_image : MethodName := ⟨zNm 11, "image", "(I)I"⟩
abbrev b_M_image : ByteArray := prog_13_method_12_code
theorem d_M_image_0 : decode b_M_image 0 = .ok (.iload_n 1, 1) := by decide +kernel
theorem d_M_image_1 : decode b_M_image 1 = .ok (.iconst 0, 1) := by decide +kernel
theorem d_M_image_2 : decode b_M_image 2 = .ok (.iconst 1, 1) := by decide +kernel
theorem d_M_image_3 : decode b_M_image 3 = .ok (.invokestatic 108, 3) := by decide +kernel
theorem d_M_image_6 : decode b_M_image 6 = .ok (.ifCond .ne 9, 3) := by decide +kernel
theorem d_M_image_9 : decode b_M_image 9 = .ok (.aload_n 0, 1) := by decide +kernel
theorem d_M_image_10 : decode b_M_image 10 = .ok (.iconst (-1), 1) := by decide +kernel
theorem d_M_image_11 : decode b_M_image 11 = .ok (.invokevirtual 112, 3) := by decide +kernel
theorem d_M_image_14 : decode b_M_image 14 = .ok (.ireturn, 1) := by decide +kernel
theorem d_M_image_15 : decode b_M_image 15 = .ok (.iconst 0, 1) := by decide +kernel
theorem d_M_image_16 : decode b_M_image 16 = .ok (.istore_n 2, 1) := by decide +kernel
theorem d_M_image_17 : decode b_M_image 17 = .ok (.iload_n 2, 1) := by decide +kernel
theorem d_M_image_18 : decode b_M_image 18 = .ok (.sipush 5807, 3) := by decide +kernel
theorem d_M_image_21 : decode b_M_image 21 = .ok (.if_icmp .ge 27, 3) := by decide +kernel
theorem d_M_image_24 : decode b_M_image 24 = .ok (.aload_n 0, 1) := by decide +kernel
theorem d_M_image_25 : decode b_M_image 25 = .ok (.getfield 27, 3) := by decide +kernel
theorem d_M_image_28 : decode b_M_image 28 = .ok (.sipush 5807, 3) := by decide +kernel
theorem d_M_image_31 : decode b_M_image 31 = .ok (.iload_n 1, 1) := by decide +kernel
theorem d_M_image_32 : decode b_M_image 32 = .ok (.imul, 1) := by decide +kernel
theorem d_M_image_33 : decode b_M_image 33 = .ok (.iload_n 2, 1) := by decide +kernel
theorem d_M_image_34 : decode b_M_image 34 = .ok (.iadd, 1) := by decide +kernel
theorem d_M_image_35 : decode b_M_image 35 = .ok (.aload_n 0, 1) := by decide +kernel
theorem d_M_image_36 : decode b_M_image 36 = .ok (.getfield 24, 3) := by decide +kernel
theorem d_M_image_39 : decode b_M_image 39 = .ok (.iload_n 2, 1) := by decide +kernel
theorem d_M_image_40 : decode b_M_image 40 = .ok (.iaload, 1) := by decide +kernel
theorem d_M_image_41 : decode b_M_image 41 = .ok (.iastore, 1) := by decide +kernel
theorem d_M_image_42 : decode b_M_image 42 = .ok (.iinc 2 1, 3) := by decide +kernel
theorem d_M_image_45 : decode b_M_image 45 = .ok (.goto (-28), 3) := by decide +kernel
theorem d_M_image_48 : decode b_M_image 48 = .ok (.aload_n 0, 1) := by decide +kernel
theorem d_M_image_49 : decode b_M_image 49 = .ok (.getfield 30, 3) := by decide +kernel
theorem d_M_image_52 : decode b_M_image 52 = .ok (.iload_n 1, 1) := by decide +kernel
theorem d_M_image_53 : decode b_M_image 53 = .ok (.iconst 1, 1) := by decide +kernel
theorem d_M_image_54 : decode b_M_image 54 = .ok (.bastore, 1) := by decide +kernel
theorem d_M_image_55 : decode b_M_image 55 = .ok (.aload_n 0, 1) := by decide +kernel
theorem d_M_image_56 : decode b_M_image 56 = .ok (.iconst 0, 1) := by decide +kernel
theorem d_M_image_57 : decode b_M_image 57 = .ok (.invokevirtual 14, 3) := by decide +kernel
theorem d_M_image_60 : decode b_M_image 60 = .ok (.ireturn, 1) := by decide +kernel
theorem mf_M_image : zMF y_M_image b_M_image 3 (some .int) 1 := ⟨zGW_in 1437 (by decide +kernel) (by decide +kernel), zGW_in 135 (by decide +kernel) (by decide +kernel), by decide +kernel⟩
theorem in_M_image : Cond.instanceMethod y_M_image ∈ zGW := zGW_in 1435 (by decide +kernel) (by decide +kernel)
theorem se_M_image : Cond.selects y_M_image.cls y_M_image y_M_image ∈ zGW := zGW_in 1436 (by decide +kernel) (by decide +kernel)
def y_M_settled : MethodName := ⟨zNm 11, "settled", "(I)I"⟩
abbrev b_M_settled : ByteArray := prog_13_method_6_code
theorem d_M_settled_0 : decode b_M_settled 0 = .ok (.aload_n 0, 1) := by decide +kernel
theorem d_M_settled_1 : decode b_M_settled 1 = .ok (.iconst 0, 1) := by decide +kernel
theorem d_M_settled_2 : decode b_M_settled 2 = .ok (.putfield 11, 3) := by decide +kernel
theorem d_M_settled_5 : decode b_M_settled 5 = .ok (.aload_n 0, 1) := by decide +kernel
theorem d_M_settled_6 : decode b_M_settled 6 = .ok (.iload_n 1, 1) := by decide +kernel
theorem d_M_settled_7 : decode b_M_settled 7 = .ok (.invokevirtual 14, 3) := by decide +kernel
theorem d_M_settled_10 : decode b_M_settled 10 = .ok (.ireturn, 1) := by decide +kernel
theorem mf_M_settled : zMF y_M_settled b_M_settled 2 (some .int) 1 := ⟨zGW_in 1456 (by decide +kernel) (by decide +kernel), zGW_in 135 (by decide +kernel) (by decide +kernel), by decide +kernel⟩
theorem in_M_settled : Cond.instanceMethod y_M_settled ∈ zGW := zGW_in 1455 (by decide +kernel) (by decide +kernel)
theorem se_M_settled : Cond.selects y_M_settled.cls y_M_settled y_M_settled ∈ zGW := zGW_in 41 (by decide +kernel) (by decide +kernel)
def y_M_springMany : MethodName := ⟨zNm 11, "springMany", "()I"⟩
abbrev b_M_springMany : ByteArray := prog_13_method_14_code
theorem d_M_springMany_0 : decode b_M_springMany 0 = .ok (.aload_n 0, 1) := by decide +kernel
theorem d_M_springMany_1 : decode b_M_springMany 1 = .ok (.getfield 24, 3) := by decide +kernel
theorem d_M_springMany_4 : decode b_M_springMany 4 = .ok (.sipush 196, 3) := by decide +kernel
theorem d_M_springMany_7 : decode b_M_springMany 7 = .ok (.iaload, 1) := by decide +kernel
theorem d_M_springMany_8 : decode b_M_springMany 8 = .ok (.ireturn, 1) := by decide +kernel
theorem mf_M_springMany : zMF y_M_springMany b_M_springMany 1 (some .int) 0 := ⟨zGW_in 1464 (by decide +kernel) (by decide +kernel), zGW_in 135 (by decide +kernel) (by decide +kernel), by decide +kernel⟩
theorem in_M_springMany : Cond.instanceMethod y_M_springMany ∈ zGW := zGW_in 1463 (by decide +kernel) (by decide +kernel)
theorem se_M_springMany : Cond.selects y_M_springMany.cls y_M_springMany y_M_springMany ∈ zGW := zGW_in 42 (by decide +kernel) (by decide +kernel)
def y_M_spring : MethodName := ⟨zNm 11, "spring", "(II)I"⟩
abbrev b_M_spring : ByteArray := prog_13_method_17_code
theorem d_M_spring_0 : decode b_M_spring 0 = .ok (.iload_n 1, 1) := by decide +kernel
theorem d_M_spring_1 : decode b_M_spring 1 = .ok (.iconst 0, 1) := by decide +kernel
theorem d_M_spring_2 : decode b_M_spring 2 = .ok (.bipush 9, 2) := by decide +kernel
theorem d_M_spring_4 : decode b_M_spring 4 = .ok (.invokestatic 108, 3) := by decide +kernel
theorem d_M_spring_7 : decode b_M_spring 7 = .ok (.ifCond .eq 13, 3) := by decide +kernel
theorem d_M_spring_10 : decode b_M_spring 10 = .ok (.iload_n 2, 1) := by decide +kernel
theorem d_M_spring_11 : decode b_M_spring 11 = .ok (.iconst 0, 1) := by decide +kernel
theorem d_M_spring_12 : decode b_M_spring 12 = .ok (.bipush 9, 2) := by decide +kernel
theorem d_M_spring_14 : decode b_M_spring 14 = .ok (.invokestatic 108, 3) := by decide +kernel
theorem d_M_spring_17 : decode b_M_spring 17 = .ok (.ifCond .ne 9, 3) := by decide +kernel
theorem d_M_spring_20 : decode b_M_spring 20 = .ok (.aload_n 0, 1) := by decide +kernel
theorem d_M_spring_21 : decode b_M_spring 21 = .ok (.iconst (-1), 1) := by decide +kernel
theorem d_M_spring_22 : decode b_M_spring 22 = .ok (.invokevirtual 112, 3) := by decide +kernel
theorem d_M_spring_25 : decode b_M_spring 25 = .ok (.ireturn, 1) := by decide +kernel
theorem d_M_spring_26 : decode b_M_spring 26 = .ok (.aload_n 0, 1) := by decide +kernel
theorem d_M_spring_27 : decode b_M_spring 27 = .ok (.invokevirtual 118, 3) := by decide +kernel
theorem d_M_spring_30 : decode b_M_spring 30 = .ok (.istore_n 3, 1) := by decide +kernel
theorem d_M_spring_31 : decode b_M_spring 31 = .ok (.iload_n 3, 1) := by decide +kernel
theorem d_M_spring_32 : decode b_M_spring 32 = .ok (.bipush 9, 2) := by decide +kernel
theorem d_M_spring_34 : decode b_M_spring 34 = .ok (.if_icmp .ne 10, 3) := by decide +kernel
theorem d_M_spring_37 : decode b_M_spring 37 = .ok (.aload_n 0, 1) := by decide +kernel
theorem d_M_spring_38 : decode b_M_spring 38 = .ok (.bipush (-5), 2) := by decide +kernel
theorem d_M_spring_40 : decode b_M_spring 40 = .ok (.invokevirtual 112, 3) := by decide +kernel
theorem d_M_spring_43 : decode b_M_spring 43 = .ok (.ireturn, 1) := by decide +kernel
theorem d_M_spring_44 : decode b_M_spring 44 = .ok (.aload_n 0, 1) := by decide +kernel
theorem d_M_spring_45 : decode b_M_spring 45 = .ok (.getfield 24, 3) := by decide +kernel
theorem d_M_spring_48 : decode b_M_spring 48 = .ok (.bipush 92, 2) := by decide +kernel
theorem d_M_spring_50 : decode b_M_spring 50 = .ok (.iload_n 3, 1) := by decide +kernel
theorem d_M_spring_51 : decode b_M_spring 51 = .ok (.iadd, 1) := by decide +kernel
theorem d_M_spring_52 : decode b_M_spring 52 = .ok (.iload_n 1, 1) := by decide +kernel
theorem d_M_spring_53 : decode b_M_spring 53 = .ok (.iastore, 1) := by decide +kernel
theorem d_M_spring_54 : decode b_M_spring 54 = .ok (.aload_n 0, 1) := by decide +kernel
theorem d_M_spring_55 : decode b_M_spring 55 = .ok (.getfield 24, 3) := by decide +kernel
theorem d_M_spring_58 : decode b_M_spring 58 = .ok (.iconst 1, 1) := by decide +kernel
theorem d_M_spring_59 : decode b_M_spring 59 = .ok (.iload_n 3, 1) := by decide +kernel
theorem d_M_spring_60 : decode b_M_spring 60 = .ok (.iadd, 1) := by decide +kernel
theorem d_M_spring_61 : decode b_M_spring 61 = .ok (.iload_n 2, 1) := by decide +kernel
theorem d_M_spring_62 : decode b_M_spring 62 = .ok (.iastore, 1) := by decide +kernel
theorem d_M_spring_63 : decode b_M_spring 63 = .ok (.aload_n 0, 1) := by decide +kernel
theorem d_M_spring_64 : decode b_M_spring 64 = .ok (.getfield 24, 3) := by decide +kernel
theorem d_M_spring_67 : decode b_M_spring 67 = .ok (.sipush 196, 3) := by decide +kernel
theorem d_M_spring_70 : decode b_M_spring 70 = .ok (.dup2, 1) := by decide +kernel
theorem d_M_spring_71 : decode b_M_spring 71 = .ok (.iaload, 1) := by decide +kernel
theorem d_M_spring_72 : decode b_M_spring 72 = .ok (.iconst 1, 1) := by decide +kernel
theorem d_M_spring_73 : decode b_M_spring 73 = .ok (.iadd, 1) := by decide +kernel
theorem d_M_spring_74 : decode b_M_spring 74 = .ok (.iastore, 1) := by decide +kernel
theorem d_M_spring_75 : decode b_M_spring 75 = .ok (.aload_n 0, 1) := by decide +kernel
theorem d_M_spring_76 : decode b_M_spring 76 = .ok (.iload_n 3, 1) := by decide +kernel
theorem d_M_spring_77 : decode b_M_spring 77 = .ok (.invokevirtual 115, 3) := by decide +kernel
theorem d_M_spring_80 : decode b_M_spring 80 = .ok (.ireturn, 1) := by decide +kernel
theorem mf_M_spring : zMF y_M_spring b_M_spring 4 (some .int) 2 := ⟨zGW_in 1460 (by decide +kernel) (by decide +kernel), zGW_in 135 (by decide +kernel) (by decide +kernel), by decide +kernel⟩
theorem in_M_spring : Cond.instanceMethod y_M_spring ∈ zGW := zGW_in 1458 (by decide +kernel) (by decide +kernel)
theorem se_M_spring : Cond.selects y_M_spring.cls y_M_spring y_M_spring ∈ zGW := zGW_in 1459 (by decide +kernel) (by decide +kernel)
def y_M_isSpring : MethodName := ⟨zNm 11, "isSpring", "(I)Z"⟩
abbrev b_M_isSpring : ByteArray := prog_13_method_15_code
theorem d_M_isSpring_0 : decode b_M_isSpring 0 = .ok (.iload_n 1, 1) := by decide +kernel
theorem d_M_isSpring_1 : decode b_M_isSpring 1 = .ok (.iconst 0, 1) := by decide +kernel
theorem d_M_isSpring_2 : decode b_M_isSpring 2 = .ok (.aload_n 0, 1) := by decide +kernel
theorem d_M_isSpring_3 : decode b_M_isSpring 3 = .ok (.invokevirtual 118, 3) := by decide +kernel
theorem d_M_isSpring_6 : decode b_M_isSpring 6 = .ok (.iconst 1, 1) := by decide +kernel
theorem d_M_isSpring_7 : decode b_M_isSpring 7 = .ok (.isub, 1) := by decide +kernel
theorem d_M_isSpring_8 : decode b_M_isSpring 8 = .ok (.invokestatic 108, 3) := by decide +kernel
theorem d_M_isSpring_11 : decode b_M_isSpring 11 = .ok (.ireturn, 1) := by decide +kernel
theorem mf_M_isSpring : zMF y_M_isSpring b_M_isSpring 2 (some .boolean) 1 := ⟨zGW_in 1476 (by decide +kernel) (by decide +kernel), zGW_in 135 (by decide +kernel) (by decide +kernel), by decide +kernel⟩
theorem in_M_isSpring : Cond.instanceMethod y_M_isSpring ∈ zGW := zGW_in 1475 (by decide +kernel) (by decide +kernel)
theorem se_M_isSpring : Cond.selects y_M_isSpring.cls y_M_isSpring y_M_isSpring ∈ zGW := zGW_in 44 (by decide +kernel) (by decide +kernel)
def y_M_areTwo : MethodName := ⟨zNm 11, "areTwo", "(II)Z"⟩
abbrev b_M_areTwo : ByteArray := prog_13_method_16_code
theorem d_M_areTwo_0 : decode b_M_areTwo 0 = .ok (.aload_n 0, 1) := by decide +kernel
theorem d_M_areTwo_1 : decode b_M_areTwo 1 = .ok (.iload_n 1, 1) := by decide +kernel
theorem d_M_areTwo_2 : decode b_M_areTwo 2 = .ok (.invokevirtual 122, 3) := by decide +kernel
theorem d_M_areTwo_5 : decode b_M_areTwo 5 = .ok (.ifCond .eq 20, 3) := by decide +kernel
theorem d_M_areTwo_8 : decode b_M_areTwo 8 = .ok (.aload_n 0, 1) := by decide +kernel
theorem d_M_areTwo_9 : decode b_M_areTwo 9 = .ok (.iload_n 2, 1) := by decide +kernel
theorem d_M_areTwo_10 : decode b_M_areTwo 10 = .ok (.invokevirtual 122, 3) := by decide +kernel
theorem d_M_areTwo_13 : decode b_M_areTwo 13 = .ok (.ifCond .eq 12, 3) := by decide +kernel
theorem d_M_areTwo_16 : decode b_M_areTwo 16 = .ok (.iload_n 1, 1) := by decide +kernel
theorem d_M_areTwo_17 : decode b_M_areTwo 17 = .ok (.iload_n 2, 1) := by decide +kernel
theorem d_M_areTwo_18 : decode b_M_areTwo 18 = .ok (.if_icmp .eq 7, 3) := by decide +kernel
theorem d_M_areTwo_21 : decode b_M_areTwo 21 = .ok (.iconst 1, 1) := by decide +kernel
theorem d_M_areTwo_22 : decode b_M_areTwo 22 = .ok (.goto 4, 3) := by decide +kernel
theorem d_M_areTwo_25 : decode b_M_areTwo 25 = .ok (.iconst 0, 1) := by decide +kernel
theorem d_M_areTwo_26 : decode b_M_areTwo 26 = .ok (.ireturn, 1) := by decide +kernel
theorem mf_M_areTwo : zMF y_M_areTwo b_M_areTwo 3 (some .boolean) 2 := ⟨zGW_in 1472 (by decide +kernel) (by decide +kernel), zGW_in 135 (by decide +kernel) (by decide +kernel), by decide +kernel⟩
theorem in_M_areTwo : Cond.instanceMethod y_M_areTwo ∈ zGW := zGW_in 1471 (by decide +kernel) (by decide +kernel)
theorem se_M_areTwo : Cond.selects y_M_areTwo.cls y_M_areTwo y_M_areTwo ∈ zGW := zGW_in 43 (by decide +kernel) (by decide +kernel)
def y_M_pairAt : MethodName := ⟨zNm 11, "pairAt", "(II)I"⟩
abbrev b_M_pairAt : ByteArray := prog_13_method_8_code
theorem d_M_pairAt_0 : decode b_M_pairAt 0 = .ok (.bipush 9, 2) := by decide +kernel
theorem d_M_pairAt_2 : decode b_M_pairAt 2 = .ok (.iload_n 0, 1) := by decide +kernel
theorem d_M_pairAt_3 : decode b_M_pairAt 3 = .ok (.imul, 1) := by decide +kernel
theorem d_M_pairAt_4 : decode b_M_pairAt 4 = .ok (.iload_n 1, 1) := by decide +kernel
theorem d_M_pairAt_5 : decode b_M_pairAt 5 = .ok (.iadd, 1) := by decide +kernel
theorem d_M_pairAt_6 : decode b_M_pairAt 6 = .ok (.ireturn, 1) := by decide +kernel
theorem mf_M_pairAt : zMF y_M_pairAt b_M_pairAt 2 (some .int) 2 := ⟨zGW_in 1483 (by decide +kernel) (by decide +kernel), zGW_in 135 (by decide +kernel) (by decide +kernel), by decide +kernel⟩
theorem st_M_pairAt : Cond.static y_M_pairAt ∈ zGW := zGW_in 1482 (by decide +kernel) (by decide +kernel)
def y_M_laysChannel : MethodName := ⟨zNm 11, "laysChannel", "(III)V"⟩
abbrev b_M_laysChannel : ByteArray := prog_13_method_18_code
theorem d_M_laysChannel_0 : decode b_M_laysChannel 0 = .ok (.aload_n 0, 1) := by decide +kernel
theorem d_M_laysChannel_1 : decode b_M_laysChannel 1 = .ok (.getfield 24, 3) := by decide +kernel
theorem d_M_laysChannel_4 : decode b_M_laysChannel 4 = .ok (.bipush 101, 2) := by decide +kernel
theorem d_M_laysChannel_6 : decode b_M_laysChannel 6 = .ok (.iload_n 1, 1) := by decide +kernel
theorem d_M_laysChannel_7 : decode b_M_laysChannel 7 = .ok (.iload_n 2, 1) := by decide +kernel
theorem d_M_laysChannel_8 : decode b_M_laysChannel 8 = .ok (.invokestatic 126, 3) := by decide +kernel
theorem d_M_laysChannel_11 : decode b_M_laysChannel 11 = .ok (.iadd, 1) := by decide +kernel
theorem d_M_laysChannel_12 : decode b_M_laysChannel 12 = .ok (.iload_n 3, 1) := by decide +kernel
theorem d_M_laysChannel_13 : decode b_M_laysChannel 13 = .ok (.iastore, 1) := by decide +kernel
theorem d_M_laysChannel_14 : decode b_M_laysChannel 14 = .ok (.aload_n 0, 1) := by decide +kernel
theorem d_M_laysChannel_15 : decode b_M_laysChannel 15 = .ok (.getfield 24, 3) := by decide +kernel
theorem d_M_laysChannel_18 : decode b_M_laysChannel 18 = .ok (.bipush 101, 2) := by decide +kernel
theorem d_M_laysChannel_20 : decode b_M_laysChannel 20 = .ok (.iload_n 2, 1) := by decide +kernel
theorem d_M_laysChannel_21 : decode b_M_laysChannel 21 = .ok (.iload_n 1, 1) := by decide +kernel
theorem d_M_laysChannel_22 : decode b_M_laysChannel 22 = .ok (.invokestatic 126, 3) := by decide +kernel
theorem d_M_laysChannel_25 : decode b_M_laysChannel 25 = .ok (.iadd, 1) := by decide +kernel
theorem d_M_laysChannel_26 : decode b_M_laysChannel 26 = .ok (.iload_n 3, 1) := by decide +kernel
theorem d_M_laysChannel_27 : decode b_M_laysChannel 27 = .ok (.iastore, 1) := by decide +kernel
theorem d_M_laysChannel_28 : decode b_M_laysChannel 28 = .ok (.aload_n 0, 1) := by decide +kernel
theorem d_M_laysChannel_29 : decode b_M_laysChannel 29 = .ok (.getfield 24, 3) := by decide +kernel
theorem d_M_laysChannel_32 : decode b_M_laysChannel 32 = .ok (.bipush 10, 2) := by decide +kernel
theorem d_M_laysChannel_34 : decode b_M_laysChannel 34 = .ok (.iload_n 1, 1) := by decide +kernel
theorem d_M_laysChannel_35 : decode b_M_laysChannel 35 = .ok (.iload_n 2, 1) := by decide +kernel
theorem d_M_laysChannel_36 : decode b_M_laysChannel 36 = .ok (.invokestatic 126, 3) := by decide +kernel
theorem d_M_laysChannel_39 : decode b_M_laysChannel 39 = .ok (.iadd, 1) := by decide +kernel
theorem d_M_laysChannel_40 : decode b_M_laysChannel 40 = .ok (.iconst 0, 1) := by decide +kernel
theorem d_M_laysChannel_41 : decode b_M_laysChannel 41 = .ok (.iastore, 1) := by decide +kernel
theorem d_M_laysChannel_42 : decode b_M_laysChannel 42 = .ok (.aload_n 0, 1) := by decide +kernel
theorem d_M_laysChannel_43 : decode b_M_laysChannel 43 = .ok (.getfield 24, 3) := by decide +kernel
theorem d_M_laysChannel_46 : decode b_M_laysChannel 46 = .ok (.bipush 10, 2) := by decide +kernel
theorem d_M_laysChannel_48 : decode b_M_laysChannel 48 = .ok (.iload_n 2, 1) := by decide +kernel
theorem d_M_laysChannel_49 : decode b_M_laysChannel 49 = .ok (.iload_n 1, 1) := by decide +kernel
theorem d_M_laysChannel_50 : decode b_M_laysChannel 50 = .ok (.invokestatic 126, 3) := by decide +kernel
theorem d_M_laysChannel_53 : decode b_M_laysChannel 53 = .ok (.iadd, 1) := by decide +kernel
theorem d_M_laysChannel_54 : decode b_M_laysChannel 54 = .ok (.iconst 0, 1) := by decide +kernel
theorem d_M_laysChannel_55 : decode b_M_laysChannel 55 = .ok (.iastore, 1) := by decide +kernel
theorem d_M_laysChannel_56 : decode b_M_laysChannel 56 = .ok (.return_, 1) := by decide +kernel
theorem mf_M_laysChannel : zMF y_M_laysChannel b_M_laysChannel 4 none 3 := ⟨zGW_in 1487 (by decide +kernel) (by decide +kernel), zGW_in 135 (by decide +kernel) (by decide +kernel), by decide +kernel⟩
theorem in_M_laysChannel : Cond.instanceMethod y_M_laysChannel ∈ zGW := zGW_in 1486 (by decide +kernel) (by decide +kernel)
theorem se_M_laysChannel : Cond.selects y_M_laysChannel.cls y_M_laysChannel y_M_laysChannel ∈ zGW := zGW_in 46 (by decide +kernel) (by decide +kernel)
def y_M_lesser : MethodName := ⟨zNm 11, "lesser", "(II)I"⟩
abbrev b_M_lesser : ByteArray := prog_13_method_2_code
theorem d_M_lesser_0 : decode b_M_lesser 0 = .ok (.iload_n 0, 1) := by decide +kernel
theorem d_M_lesser_1 : decode b_M_lesser 1 = .ok (.iload_n 1, 1) := by decide +kernel
theorem d_M_lesser_2 : decode b_M_lesser 2 = .ok (.if_icmp .ge 7, 3) := by decide +kernel
theorem d_M_lesser_5 : decode b_M_lesser 5 = .ok (.iload_n 0, 1) := by decide +kernel
theorem d_M_lesser_6 : decode b_M_lesser 6 = .ok (.goto 4, 3) := by decide +kernel
theorem d_M_lesser_9 : decode b_M_lesser 9 = .ok (.iload_n 1, 1) := by decide +kernel
theorem d_M_lesser_10 : decode b_M_lesser 10 = .ok (.ireturn, 1) := by decide +kernel
theorem mf_M_lesser : zMF y_M_lesser b_M_lesser 2 (some .int) 2 := ⟨zGW_in 1784 (by decide +kernel) (by decide +kernel), zGW_in 135 (by decide +kernel) (by decide +kernel), by decide +kernel⟩
theorem st_M_lesser : Cond.static y_M_lesser ∈ zGW := zGW_in 1783 (by decide +kernel) (by decide +kernel)
def y_M_laysAside : MethodName := ⟨zNm 11, "laysAside", "(I)V"⟩
abbrev b_M_laysAside : ByteArray := prog_13_method_10_code
theorem d_M_laysAside_0 : decode b_M_laysAside 0 = .ok (.iconst 0, 1) := by decide +kernel
theorem d_M_laysAside_1 : decode b_M_laysAside 1 = .ok (.istore_n 2, 1) := by decide +kernel
theorem d_M_laysAside_2 : decode b_M_laysAside 2 = .ok (.iload_n 2, 1) := by decide +kernel
theorem d_M_laysAside_3 : decode b_M_laysAside 3 = .ok (.bipush 92, 2) := by decide +kernel
theorem d_M_laysAside_5 : decode b_M_laysAside 5 = .ok (.if_icmp .ge 26, 3) := by decide +kernel
theorem d_M_laysAside_8 : decode b_M_laysAside 8 = .ok (.aload_n 0, 1) := by decide +kernel
theorem d_M_laysAside_9 : decode b_M_laysAside 9 = .ok (.getfield 34, 3) := by decide +kernel
theorem d_M_laysAside_12 : decode b_M_laysAside 12 = .ok (.bipush 92, 2) := by decide +kernel
theorem d_M_laysAside_14 : decode b_M_laysAside 14 = .ok (.iload_n 1, 1) := by decide +kernel
theorem d_M_laysAside_15 : decode b_M_laysAside 15 = .ok (.imul, 1) := by decide +kernel
theorem d_M_laysAside_16 : decode b_M_laysAside 16 = .ok (.iload_n 2, 1) := by decide +kernel
theorem d_M_laysAside_17 : decode b_M_laysAside 17 = .ok (.iadd, 1) := by decide +kernel
theorem d_M_laysAside_18 : decode b_M_laysAside 18 = .ok (.aload_n 0, 1) := by decide +kernel
theorem d_M_laysAside_19 : decode b_M_laysAside 19 = .ok (.getfield 24, 3) := by decide +kernel
theorem d_M_laysAside_22 : decode b_M_laysAside 22 = .ok (.iload_n 2, 1) := by decide +kernel
theorem d_M_laysAside_23 : decode b_M_laysAside 23 = .ok (.iaload, 1) := by decide +kernel
theorem d_M_laysAside_24 : decode b_M_laysAside 24 = .ok (.iastore, 1) := by decide +kernel
theorem d_M_laysAside_25 : decode b_M_laysAside 25 = .ok (.iinc 2 1, 3) := by decide +kernel
theorem d_M_laysAside_28 : decode b_M_laysAside 28 = .ok (.goto (-26), 3) := by decide +kernel
theorem d_M_laysAside_31 : decode b_M_laysAside 31 = .ok (.return_, 1) := by decide +kernel
theorem mf_M_laysAside : zMF y_M_laysAside b_M_laysAside 3 none 1 := ⟨zGW_in 1921 (by decide +kernel) (by decide +kernel), zGW_in 135 (by decide +kernel) (by decide +kernel), by decide +kernel⟩
theorem in_M_laysAside : Cond.instanceMethod y_M_laysAside ∈ zGW := zGW_in 1920 (by decide +kernel) (by decide +kernel)
theorem se_M_laysAside : Cond.selects y_M_laysAside.cls y_M_laysAside y_M_laysAside ∈ zGW := zGW_in 115 (by decide +kernel) (by decide +kernel)
theorem zc_5_76 : Cond.constantLong (zNm 5) 76 (15 : Int64) ∈ zGW := zGW_in 508 (by decide +kernel) (by decide +kernel)
theorem zc_5_78 : Cond.constantLong (zNm 5) 78 (-1 : Int64) ∈ zGW := zGW_in 509 (by decide +kernel) (by decide +kernel)
theorem lk_5_72 : Cond.methodLink (zNm 5) 72 y_Ps_setMud ∈ zGW := zGW_in 504 (by decide +kernel) (by decide +kernel)
theorem lk_11_108 : Cond.methodLink (zNm 11) 108 y_M_lies ∈ zGW := zGW_in 1438 (by decide +kernel) (by decide +kernel)
theorem lk_11_112 : Cond.methodLink (zNm 11) 112 y_M_refuses ∈ zGW := zGW_in 1441 (by decide +kernel) (by decide +kernel)
theorem lk_11_14 : Cond.methodLink (zNm 11) 14 y_M_good ∈ zGW := zGW_in 1445 (by decide +kernel) (by decide +kernel)
theorem lk_11_118 : Cond.methodLink (zNm 11) 118 y_M_springMany ∈ zGW := zGW_in 1461 (by decide +kernel) (by decide +kernel)
theorem lk_11_115 : Cond.methodLink (zNm 11) 115 y_M_settled ∈ zGW := zGW_in 1453 (by decide +kernel) (by decide +kernel)
theorem lk_11_122 : Cond.methodLink (zNm 11) 122 y_M_isSpring ∈ zGW := zGW_in 1473 (by decide +kernel) (by decide +kernel)
theorem lk_11_126 : Cond.methodLink (zNm 11) 126 y_M_pairAt ∈ zGW := zGW_in 1481 (by decide +kernel) (by decide +kernel)
def f_Ps_setMud (a0 : Nat) (a1 : Int32) (a2 : Int32) (S : zSt) : Option zSt := some (zwL S a0 3 (((zL S a0 3) &&& (((15 : Int64) <<< (((4 : Int32) * a1).toInt64 &&& 63)) ^^^ (-1 : Int64))) ||| (a2.toInt64 <<< (((4 : Int32) * a1).toInt64 &&& 63))))
set_option maxRecDepth 100000 in
set_option maxHeartbeats 4000000 in
theorem m_Ps_setMud (l : Launch) {a0 : Nat} {a1 : Int32} {a2 : Int32} {S : zSt} {S1 : zSt} (ha0 : zK a0 = 5) (ga0 : a0 < zN0) (h : f_Ps_setMud a0 a1 a2 S = some S1) : zPM l y_Ps_setMud b_Ps_setMud 3 none rm_Ps_setMud true true [zr (some a0), zi a1, zi a2] S none S1 := by
  refine zPM_of (by decide) (Nat.le_of_ble_eq_true rfl) (fun p e s m args below meth c G C hret hname => ?_)
  unfold f_Ps_setMud at h
  refine (?_ : zJ p l e rm_Ps_setMud s m args below meth c G true 3 0 0 (zQm below G args s rm_Ps_setMud true none S1) S 0 [(0, zr (some a0)), (1, zi a1), (2, zi a2)] [])
  refine z_aload_n C 0 rfl d_Ps_setMud_0 rfl ?_
  refine z_aload_n C 0 rfl d_Ps_setMud_1 rfl ?_
  refine z_getL C 5 (by decide) 3 (by decide) rfl (Or.inl ⟨rfl, ga0⟩) ha0 zfl_5_22 d_Ps_setMud_2 ?_
  refine z_ldc2 C zc_5_76 d_Ps_setMud_5 ?_
  refine z_iconst C (4 : Int32) (by decide) d_Ps_setMud_8 ?_
  refine z_iload_n C 1 rfl d_Ps_setMud_9 rfl ?_
  refine z_imul C d_Ps_setMud_10 ?_
  refine z_lshl C d_Ps_setMud_11 ?_
  refine z_ldc2 C zc_5_78 d_Ps_setMud_12 ?_
  refine z_lxor C d_Ps_setMud_15 ?_
  refine z_land C d_Ps_setMud_16 ?_
  refine z_iload_n C 2 rfl d_Ps_setMud_17 rfl ?_
  refine z_i2l C d_Ps_setMud_18 ?_
  refine z_iconst C (4 : Int32) (by decide) d_Ps_setMud_19 ?_
  refine z_iload_n C 1 rfl d_Ps_setMud_20 rfl ?_
  refine z_imul C d_Ps_setMud_21 ?_
  refine z_lshl C d_Ps_setMud_22 ?_
  refine z_lor C d_Ps_setMud_23 ?_
  refine z_putL C 5 (by decide) 3 (by decide) rfl (Or.inl ⟨rfl, ga0⟩) ha0 zfl_5_22 (Or.inl rfl) d_Ps_setMud_24 ?_
  cases h
  exact z_vret C hret ⟨by decide, by decide⟩ d_Ps_setMud_27
def f_Ps_addSpring (a0 : Nat) (a1 : Int32) (a2 : Int32) (S : zSt) : Option (Int32 × zSt) := if (zI S a0 0) < 0 then some ((-1 : Int32), S) else if (zI S a0 0) < ((zA S (a0 + 1)).toInt32) then zgd (0 ≤ (zI S a0 0) ∧ (zI S a0 0).toNatClampNeg < 9) (zb1 (f_Ps_setMud a0 (zI S a0 0) a2 (zwI (zwI S (a0 + 1) (zI S a0 0).toNatClampNeg a1) a0 0 ((zI S a0 0) + (1 : Int32)))) (fun S5 => some (zI S a0 0, S5))) else some ((-1 : Int32), S)
set_option maxRecDepth 100000 in
set_option maxHeartbeats 4000000 in
theorem m_Ps_addSpring (l : Launch) {a0 : Nat} {a1 : Int32} {a2 : Int32} {S : zSt} {r : Int32} {S1 : zSt} (ha0 : zK a0 = 5) (ga0 : a0 < zN0) (h : f_Ps_addSpring a0 a1 a2 S = some (r, S1)) : zPM l y_Ps_addSpring b_Ps_addSpring 4 (some .int) rm_Ps_addSpring true true [zr (some a0), zi a1, zi a2] S (some (zi r)) S1 := by
  refine zPM_of (by decide) (Nat.le_of_ble_eq_true rfl) (fun p e s m args below meth c G C hret hname => ?_)
  unfold f_Ps_addSpring at h
  refine (?_ : zJ p l e rm_Ps_addSpring s m args below meth c G true 4 0 0 (zQm below G args s rm_Ps_addSpring true (some (zi r)) S1) S 0 [(0, zr (some a0)), (1, zi a1), (2, zi a2)] [])
  refine z_aload_n C 0 rfl d_Ps_addSpring_0 rfl ?_
  refine z_getI C 5 (by decide) 0 (by decide) rfl (Or.inl ⟨rfl, ga0⟩) ha0 zfl_5_9 d_Ps_addSpring_1 ?_
  refine z_istore_n C [(3, zi (zI S a0 0)), (0, zr (some a0)), (1, zi a1), (2, zi a2)] d_Ps_addSpring_4 rfl (by decide) rfl ?_
  refine z_iload_n C 0 rfl d_Ps_addSpring_5 rfl ?_
  rcases zite h with ⟨c1, h⟩ | ⟨c1, h⟩
  · refine z_if_ltt C 18 c1 d_Ps_addSpring_6 (by decide) ?_
    refine z_iconst C (-1 : Int32) (by decide) d_Ps_addSpring_18 ?_
    cases h
    exact z_iret C .int hret rfl ⟨by decide, by decide⟩ d_Ps_addSpring_19
  · refine z_if_ltf C 18 c1 d_Ps_addSpring_6 (by decide) ?_
    refine z_iload_n C 0 rfl d_Ps_addSpring_9 rfl ?_
    refine z_aload_n C 1 rfl d_Ps_addSpring_10 rfl ?_
    refine z_getF2 C 5 (by decide) 1 (by decide) rfl 1 9 rfl (a0 + 1) rfl (Or.inl ga0) ha0 zfl_5_15 d_Ps_addSpring_11 ?_
    refine z_alen50 C (Or.inl ⟨rfl, (zko_5_1 ha0 ga0).1⟩) (zko_5_1 ha0 ga0).2 d_Ps_addSpring_14 ?_
    rcases zite h with ⟨c2, h⟩ | ⟨c2, h⟩
    · refine z_icmp_ltt C 20 c2 d_Ps_addSpring_15 (by decide) ?_
      refine z_aload_n C 1 rfl d_Ps_addSpring_20 rfl ?_
      refine z_getF2 C 5 (by decide) 1 (by decide) rfl 1 9 rfl (a0 + 1) rfl (Or.inl ga0) ha0 zfl_5_15 d_Ps_addSpring_21 ?_
      refine z_iload_n C 0 rfl d_Ps_addSpring_24 rfl ?_
      refine z_iload_n C 2 rfl d_Ps_addSpring_25 rfl ?_
      refine z_fact (fun hSR => ?_)
      obtain ⟨g3, h⟩ := zgd_some h
      refine z_iastoreS C (Or.inl ⟨rfl, (zko_5_1 ha0 ga0).1⟩) (zko_5_1 ha0 ga0).2 (zsa_5_1 hSR ha0 ga0) g3 d_Ps_addSpring_26 ?_
      refine z_aload_n C 1 rfl d_Ps_addSpring_27 rfl ?_
      refine z_iload_n C 0 rfl d_Ps_addSpring_28 rfl ?_
      refine z_iconst C (1 : Int32) (by decide) d_Ps_addSpring_29 ?_
      refine z_iadd C d_Ps_addSpring_30 ?_
      refine z_putI C 5 (by decide) 0 (by decide) rfl (Or.inl rfl) (Or.inl ⟨rfl, ga0⟩) ha0 zfl_5_9 (Or.inl rfl) d_Ps_addSpring_31 ?_
      refine z_aload_n C 1 rfl d_Ps_addSpring_34 rfl ?_
      refine z_iload_n C 0 rfl d_Ps_addSpring_35 rfl ?_
      refine z_iload_n C 3 rfl d_Ps_addSpring_36 rfl ?_
      obtain ⟨S5, h4, h⟩ := zb1_some h
      refine z_cV C 5 (by decide) (m_Ps_setMud l ha0 ga0 h4) mf_Ps_setMud lk_5_72 in_Ps_setMud se_Ps_setMud rfl (Or.inl ⟨rfl, ga0⟩) ha0 ⟨rfl, rfl⟩ ⟨by decide, by decide⟩ ⟨Nat.zero_le _, Nat.zero_le _⟩ rfl _ [] rfl (Nat.le_of_ble_eq_true rfl) d_Ps_addSpring_37 ?_
      refine z_iload_n C 0 rfl d_Ps_addSpring_40 rfl ?_
      cases h
      exact z_iret C .int hret rfl ⟨by decide, by decide⟩ d_Ps_addSpring_41
    · refine z_icmp_ltf C 20 c2 d_Ps_addSpring_15 (by decide) ?_
      refine z_iconst C (-1 : Int32) (by decide) d_Ps_addSpring_18 ?_
      cases h
      exact z_iret C .int hret rfl ⟨by decide, by decide⟩ d_Ps_addSpring_19
def f_Ps_has (a0 : Nat) (a1 : Int32) (S : zSt) : Option Int32 := if a1 < 0 then some (0 : Int32) else if (zI S a0 0) ≤ a1 then some (0 : Int32) else some (1 : Int32)
set_option maxRecDepth 100000 in
set_option maxHeartbeats 4000000 in
theorem m_Ps_has (l : Launch) {a0 : Nat} {a1 : Int32} {S : zSt} {r : Int32} (ha0 : zK a0 = 5) (ga0 : a0 < zN0) (h : f_Ps_has a0 a1 S = some r) : zPM l y_Ps_has b_Ps_has 2 (some .boolean) rm_Ps_has true true [zr (some a0), zi a1] S (some (zi r)) S := by
  refine zPM_of (by decide) (Nat.le_of_ble_eq_true rfl) (fun p e s m args below meth c G C hret hname => ?_)
  unfold f_Ps_has at h
  refine (?_ : zJ p l e rm_Ps_has s m args below meth c G true 2 0 0 (zQm below G args s rm_Ps_has true (some (zi r)) S) S 0 [(0, zr (some a0)), (1, zi a1)] [])
  refine z_iload_n C 1 rfl d_Ps_has_0 rfl ?_
  rcases zite h with ⟨c1, h⟩ | ⟨c1, h⟩
  · refine z_if_ltt C 16 c1 d_Ps_has_1 (by decide) ?_
    refine z_iconst C (0 : Int32) (by decide) d_Ps_has_16 ?_
    cases h
    exact z_iret C .boolean hret rfl ⟨by decide, by decide⟩ d_Ps_has_17
  · refine z_if_ltf C 16 c1 d_Ps_has_1 (by decide) ?_
    refine z_iload_n C 1 rfl d_Ps_has_4 rfl ?_
    refine z_aload_n C 0 rfl d_Ps_has_5 rfl ?_
    refine z_getI C 5 (by decide) 0 (by decide) rfl (Or.inl ⟨rfl, ga0⟩) ha0 zfl_5_9 d_Ps_has_6 ?_
    rcases zite h with ⟨c2, h⟩ | ⟨c2, h⟩
    · refine z_icmp_get C 16 c2 d_Ps_has_9 (by decide) ?_
      refine z_iconst C (0 : Int32) (by decide) d_Ps_has_16 ?_
      cases h
      exact z_iret C .boolean hret rfl ⟨by decide, by decide⟩ d_Ps_has_17
    · refine z_icmp_gef C 16 c2 d_Ps_has_9 (by decide) ?_
      refine z_iconst C (1 : Int32) (by decide) d_Ps_has_12 ?_
      refine z_goto C 17 d_Ps_has_13 (by decide) ?_
      cases h
      exact z_iret C .boolean hret rfl ⟨by decide, by decide⟩ d_Ps_has_17
def f_M_lies (a0 : Int32) (a1 : Int32) (a2 : Int32) : Option Int32 := if a0 < a1 then some (0 : Int32) else if a2 < a0 then some (0 : Int32) else some (1 : Int32)
set_option maxRecDepth 100000 in
set_option maxHeartbeats 4000000 in
theorem m_M_lies (l : Launch) {a0 : Int32} {a1 : Int32} {a2 : Int32} {S : zSt} {r : Int32} (h : f_M_lies a0 a1 a2 = some r) : zPM l y_M_lies b_M_lies 3 (some .boolean) rm_M_lies true true [zi a0, zi a1, zi a2] S (some (zi r)) S := by
  refine zPM_of (by decide) (Nat.le_of_ble_eq_true rfl) (fun p e s m args below meth c G C hret hname => ?_)
  unfold f_M_lies at h
  refine (?_ : zJ p l e rm_M_lies s m args below meth c G true 3 0 0 (zQm below G args s rm_M_lies true (some (zi r)) S) S 0 [(0, zi a0), (1, zi a1), (2, zi a2)] [])
  refine z_iload_n C 0 rfl d_M_lies_0 rfl ?_
  refine z_iload_n C 1 rfl d_M_lies_1 rfl ?_
  rcases zite h with ⟨c1, h⟩ | ⟨c1, h⟩
  · refine z_icmp_ltt C 14 c1 d_M_lies_2 (by decide) ?_
    refine z_iconst C (0 : Int32) (by decide) d_M_lies_14 ?_
    cases h
    exact z_iret C .boolean hret rfl ⟨by decide, by decide⟩ d_M_lies_15
  · refine z_icmp_ltf C 14 c1 d_M_lies_2 (by decide) ?_
    refine z_iload_n C 0 rfl d_M_lies_5 rfl ?_
    refine z_iload_n C 2 rfl d_M_lies_6 rfl ?_
    rcases zite h with ⟨c2, h⟩ | ⟨c2, h⟩
    · refine z_icmp_gtt C 14 c2 d_M_lies_7 (by decide) ?_
      refine z_iconst C (0 : Int32) (by decide) d_M_lies_14 ?_
      cases h
      exact z_iret C .boolean hret rfl ⟨by decide, by decide⟩ d_M_lies_15
    · refine z_icmp_gtf C 14 c2 d_M_lies_7 (by decide) ?_
      refine z_iconst C (1 : Int32) (by decide) d_M_lies_10 ?_
      refine z_goto C 15 d_M_lies_11 (by decide) ?_
      cases h
      exact z_iret C .boolean hret rfl ⟨by decide, by decide⟩ d_M_lies_15
def f_M_refuses (a1 : Int32) (S : zSt) : Option (Int32 × zSt) := zgd (0 ≤ (-a1) ∧ (-a1).toNatClampNeg < 7) (zgd (0 ≤ (-a1) ∧ (-a1).toNatClampNeg < 7) (some (a1, zwI (zwI S 72 0 a1) 73 (-a1).toNatClampNeg ((zI (zwI S 72 0 a1) 73 (-a1).toNatClampNeg) + (1 : Int32)))))
set_option maxRecDepth 100000 in
set_option maxHeartbeats 4000000 in
theorem m_M_refuses (l : Launch) {a1 : Int32} {S : zSt} {r : Int32} {S1 : zSt} (h : f_M_refuses a1 S = some (r, S1)) : zPM l y_M_refuses b_M_refuses 2 (some .int) rm_M_refuses true true [zr (some 72), zi a1] S (some (zi r)) S1 := by
  refine zPM_of (by decide) (Nat.le_of_ble_eq_true rfl) (fun p e s m args below meth c G C hret hname => ?_)
  unfold f_M_refuses at h
  refine (?_ : zJ p l e rm_M_refuses s m args below meth c G true 2 0 0 (zQm below G args s rm_M_refuses true (some (zi r)) S1) S 0 [(0, zr (some 72)), (1, zi a1)] [])
  refine z_aload_n C 0 rfl d_M_refuses_0 rfl ?_
  refine z_iload_n C 1 rfl d_M_refuses_1 rfl ?_
  refine z_putI C 11 (by decide) 0 (by decide) rfl (Or.inl rfl) zo_72 zk_72 zfl_11_3 (Or.inl rfl) d_M_refuses_2 ?_
  refine z_aload_n C 0 rfl d_M_refuses_5 rfl ?_
  refine z_getF2 C 11 (by decide) 1 (by decide) rfl 1 7 rfl (73) rfl zp_72 zk_72 zfl_11_7 d_M_refuses_6 ?_
  refine z_iload_n C 1 rfl d_M_refuses_9 rfl ?_
  refine z_ineg C d_M_refuses_10 ?_
  refine z_dup2 C rfl rfl d_M_refuses_11 ?_
  refine z_fact (fun hSR => ?_)
  obtain ⟨g1, h⟩ := zgd_some h
  refine z_ialoadS C zo_73 zk_73 (za_73 hSR) g1 d_M_refuses_12 ?_
  refine z_iconst C (1 : Int32) (by decide) d_M_refuses_13 ?_
  refine z_iadd C d_M_refuses_14 ?_
  refine z_fact (fun hSR => ?_)
  obtain ⟨g2, h⟩ := zgd_some h
  refine z_iastoreS C zo_73 zk_73 (za_73 hSR) g2 d_M_refuses_15 ?_
  refine z_iload_n C 1 rfl d_M_refuses_16 rfl ?_
  cases h
  exact z_iret C .int hret rfl ⟨by decide, by decide⟩ d_M_refuses_17
def f_M_good (a1 : Int32) (S : zSt) : Option (Int32 × zSt) := some (a1, zwI S 72 0 (0 : Int32))
set_option maxRecDepth 100000 in
set_option maxHeartbeats 4000000 in
theorem m_M_good (l : Launch) {a1 : Int32} {S : zSt} {r : Int32} {S1 : zSt} (h : f_M_good a1 S = some (r, S1)) : zPM l y_M_good b_M_good 2 (some .int) rm_M_good true true [zr (some 72), zi a1] S (some (zi r)) S1 := by
  refine zPM_of (by decide) (Nat.le_of_ble_eq_true rfl) (fun p e s m args below meth c G C hret hname => ?_)
  unfold f_M_good at h
  refine (?_ : zJ p l e rm_M_good s m args below meth c G true 2 0 0 (zQm below G args s rm_M_good true (some (zi r)) S1) S 0 [(0, zr (some 72)), (1, zi a1)] [])
  refine z_aload_n C 0 rfl d_M_good_0 rfl ?_
  refine z_iconst C (0 : Int32) (by decide) d_M_good_1 ?_
  refine z_putI C 11 (by decide) 0 (by decide) rfl (Or.inl rfl) zo_72 zk_72 zfl_11_3 (Or.inl rfl) d_M_good_2 ?_
  refine z_iload_n C 1 rfl d_M_good_5 rfl ?_
  cases h
  exact z_iret C .int hret rfl ⟨by decide, by decide⟩ d_M_good_6
def f_M_image_48 (fu : Nat) (a1 : Int32) (S : zSt) : Option (Int32 × zSt) := zgd (0 ≤ a1 ∧ a1.toNatClampNeg < 2) (zb2 (f_M_good (0 : Int32) (zwI S 76 a1.toNatClampNeg ((1 : Int32) &&& 1))) (fun r3 S4 => some (r3, S4)))
def f_M_image_17 (fu : Nat) : Nat → Int32 → Int32 → zSt → Option (Int32 × zSt)
  | 0, _, _, _ => none
  | n + 1, a1, a2, S => if (5807 : Int32) ≤ a2 then f_M_image_48 fu a1 S else zgd (0 ≤ a2 ∧ a2.toNatClampNeg < 5807) (zgd (0 ≤ (((5807 : Int32) * a1) + a2) ∧ (((5807 : Int32) * a1) + a2).toNatClampNeg < 11614) (f_M_image_17 fu n a1 (a2 + (1 : Int32)) (zwI S 75 (((5807 : Int32) * a1) + a2).toNatClampNeg (zI S 74 a2.toNatClampNeg))))
def f_M_image (fu : Nat) (a1 : Int32) (S : zSt) : Option (Int32 × zSt) := zb1 (f_M_lies a1 (0 : Int32) (1 : Int32)) (fun r2 => if r2 = 0 then zb2 (f_M_refuses (-1 : Int32) S) (fun r5 S6 => some (r5, S6)) else f_M_image_17 fu fu a1 (0 : Int32) S)
set_option maxRecDepth 100000 in
set_option maxHeartbeats 4000000 in
theorem c_M_image_48 {p : Program} {l : Launch} {e : Env} {s : State} {m : MethodId} {args : Array Value} {below : List Frame} {meth : Method} {c : Code} {G : zG} (C : zC p s m args meth c G b_M_image 3 y_M_image.cls) (hret : meth.sig.returnType = (some .int)) {fu : Nat} {r : Int32} {S1 : zSt} : ∀ (a1 : Int32) (S : zSt) , f_M_image_48 fu a1 S = some (r, S1) → zJ p l e rm_M_image s m args below meth c G true 3 0 0 (zQm below G args s rm_M_image true (some (zi r)) S1) S 48 [(0, zr (some 72)), (1, zi a1)] [] := by
  intro a1 S h
  unfold f_M_image_48 at h
  refine z_aload_n C 0 rfl d_M_image_48 rfl ?_
  refine z_getF2 C 11 (by decide) 4 (by decide) rfl 4 2 rfl (76) rfl zp_72 zk_72 zfl_11_30 d_M_image_49 ?_
  refine z_iload_n C 1 rfl d_M_image_52 rfl ?_
  refine z_iconst C (1 : Int32) (by decide) d_M_image_53 ?_
  refine z_fact (fun hSR => ?_)
  obtain ⟨g1, h⟩ := zgd_some h
  refine z_zastoreS C zo_76 zk_76 (za_76 hSR) g1 d_M_image_54 ?_
  refine z_aload_n C 0 rfl d_M_image_55 rfl ?_
  refine z_iconst C (0 : Int32) (by decide) d_M_image_56 ?_
  obtain ⟨r3, S4, h2, h⟩ := zb2_some h
  refine z_cV C 11 (by decide) (m_M_good l h2) mf_M_good lk_11_14 in_M_good se_M_good rfl zo_72 zk_72 ⟨rfl, rfl⟩ ⟨by decide, by decide⟩ ⟨Nat.zero_le _, Nat.zero_le _⟩ rfl _ [] rfl (Nat.le_of_ble_eq_true rfl) d_M_image_57 ?_
  cases h
  exact z_iret C .int hret rfl ⟨by decide, by decide⟩ d_M_image_60
set_option maxRecDepth 100000 in
set_option maxHeartbeats 4000000 in
theorem c_M_image_17 {p : Program} {l : Launch} {e : Env} {s : State} {m : MethodId} {args : Array Value} {below : List Frame} {meth : Method} {c : Code} {G : zG} (C : zC p s m args meth c G b_M_image 3 y_M_image.cls) (hret : meth.sig.returnType = (some .int)) {fu : Nat} {r : Int32} {S1 : zSt} : ∀ (n : Nat) (a1 : Int32) (a2 : Int32) (S : zSt) , f_M_image_17 fu n a1 a2 S = some (r, S1) → zJ p l e rm_M_image s m args below meth c G true 3 0 0 (zQm below G args s rm_M_image true (some (zi r)) S1) S 17 [(0, zr (some 72)), (1, zi a1), (2, zi a2)] [] := by
  intro n
  induction n with
  | zero =>
    intro a1 a2 S h
    cases h
  | succ n ih =>
    intro a1 a2 S h
    rw [f_M_image_17] at h
    refine z_iload_n C 2 rfl d_M_image_17 rfl ?_
    refine z_sipush C (5807 : Int32) (by decide) d_M_image_18 ?_
    rcases zite h with ⟨c1, h⟩ | ⟨c1, h⟩
    · refine z_icmp_get C 48 c1 d_M_image_21 (by decide) ?_
      refine zq_lsub [0, 1] [(0, zr (some 72)), (1, zi a1)] rfl ?_
      exact c_M_image_48 C hret  a1 S h
    · refine z_icmp_gef C 48 c1 d_M_image_21 (by decide) ?_
      refine z_aload_n C 0 rfl d_M_image_24 rfl ?_
      refine z_getF2 C 11 (by decide) 3 (by decide) rfl 3 11614 rfl (75) rfl zp_72 zk_72 zfl_11_27 d_M_image_25 ?_
      refine z_sipush C (5807 : Int32) (by decide) d_M_image_28 ?_
      refine z_iload_n C 1 rfl d_M_image_31 rfl ?_
      refine z_imul C d_M_image_32 ?_
      refine z_iload_n C 2 rfl d_M_image_33 rfl ?_
      refine z_iadd C d_M_image_34 ?_
      refine z_aload_n C 0 rfl d_M_image_35 rfl ?_
      refine z_getF2 C 11 (by decide) 2 (by decide) rfl 2 5807 rfl (74) rfl zp_72 zk_72 zfl_11_24 d_M_image_36 ?_
      refine z_iload_n C 2 rfl d_M_image_39 rfl ?_
      refine z_fact (fun hSR => ?_)
      obtain ⟨g2, h⟩ := zgd_some h
      refine z_ialoadS C zo_74 zk_74 (za_74 hSR) g2 d_M_image_40 ?_
      refine z_fact (fun hSR => ?_)
      obtain ⟨g3, h⟩ := zgd_some h
      refine z_iastoreS C zo_75 zk_75 (za_75 hSR) g3 d_M_image_41 ?_
      refine z_iinc C 2 (a2 + (1 : Int32)) [(2, zi (a2 + (1 : Int32))), (0, zr (some 72)), (1, zi a1)] rfl d_M_image_42 (by first | rfl | decide) (by decide) rfl ?_
      refine z_goto C 17 d_M_image_45 (by decide) ?_
      refine zq_lsub [1, 2, 0] [(0, zr (some 72)), (1, zi a1), (2, zi (a2 + (1 : Int32)))] rfl ?_
      exact ih a1 (a2 + (1 : Int32)) (zwI S 75 (((5807 : Int32) * a1) + a2).toNatClampNeg (zI S 74 a2.toNatClampNeg)) h
set_option maxRecDepth 100000 in
set_option maxHeartbeats 4000000 in
theorem m_M_image (l : Launch) {fu : Nat} {a1 : Int32} {S : zSt} {r : Int32} {S1 : zSt} (h : f_M_image fu a1 S = some (r, S1)) : zPM l y_M_image b_M_image 3 (some .int) rm_M_image true true [zr (some 72), zi a1] S (some (zi r)) S1 := by
  refine zPM_of (by decide) (Nat.le_of_ble_eq_true rfl) (fun p e s m args below meth c G C hret hname => ?_)
  unfold f_M_image at h
  refine (?_ : zJ p l e rm_M_image s m args below meth c G true 3 0 0 (zQm below G args s rm_M_image true (some (zi r)) S1) S 0 [(0, zr (some 72)), (1, zi a1)] [])
  refine z_iload_n C 1 rfl d_M_image_0 rfl ?_
  refine z_iconst C (0 : Int32) (by decide) d_M_image_1 ?_
  refine z_iconst C (1 : Int32) (by decide) d_M_image_2 ?_
  obtain ⟨r2, h1, h⟩ := zb1_some h
  refine z_cS C (m_M_lies l h1) mf_M_lies lk_11_108 st_M_lies ⟨rfl, rfl⟩ ⟨by decide, by decide⟩ ⟨Nat.zero_le _, Nat.zero_le _⟩ rfl _ [] rfl (Nat.le_of_ble_eq_true rfl) d_M_image_3 ?_
  rcases zite h with ⟨c3, h⟩ | ⟨c3, h⟩
  · refine z_if_nef C 15 c3 d_M_image_6 (by decide) ?_
    refine z_aload_n C 0 rfl d_M_image_9 rfl ?_
    refine z_iconst C (-1 : Int32) (by decide) d_M_image_10 ?_
    obtain ⟨r5, S6, h4, h⟩ := zb2_some h
    refine z_cV C 11 (by decide) (m_M_refuses l h4) mf_M_refuses lk_11_112 in_M_refuses se_M_refuses rfl zo_72 zk_72 ⟨rfl, rfl⟩ ⟨by decide, by decide⟩ ⟨Nat.zero_le _, Nat.zero_le _⟩ rfl _ [] rfl (Nat.le_of_ble_eq_true rfl) d_M_image_11 ?_
    cases h
    exact z_iret C .int hret rfl ⟨by decide, by decide⟩ d_M_image_14
  · refine z_if_net C 15 c3 d_M_image_6 (by decide) ?_
    refine z_iconst C (0 : Int32) (by decide) d_M_image_15 ?_
    refine z_istore_n C [(2, zi (0 : Int32)), (0, zr (some 72)), (1, zi a1)] d_M_image_16 rfl (by decide) rfl ?_
    refine zq_lsub [1, 2, 0] [(0, zr (some 72)), (1, zi a1), (2, zi (0 : Int32))] rfl ?_
    exact c_M_image_17 C hret fu  a1 (0 : Int32) S h
def f_M_settled (a1 : Int32) (S : zSt) : Option (Int32 × zSt) := zb2 (f_M_good a1 (zwI S 72 32 (0 : Int32))) (fun r2 S3 => some (r2, S3))
set_option maxRecDepth 100000 in
set_option maxHeartbeats 4000000 in
theorem m_M_settled (l : Launch) {a1 : Int32} {S : zSt} {r : Int32} {S1 : zSt} (h : f_M_settled a1 S = some (r, S1)) : zPM l y_M_settled b_M_settled 2 (some .int) rm_M_settled true true [zr (some 72), zi a1] S (some (zi r)) S1 := by
  refine zPM_of (by decide) (Nat.le_of_ble_eq_true rfl) (fun p e s m args below meth c G C hret hname => ?_)
  unfold f_M_settled at h
  refine (?_ : zJ p l e rm_M_settled s m args below meth c G true 2 0 0 (zQm below G args s rm_M_settled true (some (zi r)) S1) S 0 [(0, zr (some 72)), (1, zi a1)] [])
  refine z_aload_n C 0 rfl d_M_settled_0 rfl ?_
  refine z_iconst C (0 : Int32) (by decide) d_M_settled_1 ?_
  refine z_putI C 11 (by decide) 32 (by decide) rfl (Or.inl rfl) zo_72 zk_72 zfl_11_11 (Or.inl rfl) d_M_settled_2 ?_
  refine z_aload_n C 0 rfl d_M_settled_5 rfl ?_
  refine z_iload_n C 1 rfl d_M_settled_6 rfl ?_
  obtain ⟨r2, S3, h1, h⟩ := zb2_some h
  refine z_cV C 11 (by decide) (m_M_good l h1) mf_M_good lk_11_14 in_M_good se_M_good rfl zo_72 zk_72 ⟨rfl, rfl⟩ ⟨by decide, by decide⟩ ⟨Nat.zero_le _, Nat.zero_le _⟩ rfl _ [] rfl (Nat.le_of_ble_eq_true rfl) d_M_settled_7 ?_
  cases h
  exact z_iret C .int hret rfl ⟨by decide, by decide⟩ d_M_settled_10
def f_M_springMany (S : zSt) : Option Int32 := some (zI S 74 (196 : Int32).toNatClampNeg)
set_option maxRecDepth 100000 in
set_option maxHeartbeats 4000000 in
theorem m_M_springMany (l : Launch) {S : zSt} {r : Int32} (h : f_M_springMany  S = some r) : zPM l y_M_springMany b_M_springMany 1 (some .int) rm_M_springMany true true [zr (some 72)] S (some (zi r)) S := by
  refine zPM_of (by decide) (Nat.le_of_ble_eq_true rfl) (fun p e s m args below meth c G C hret hname => ?_)
  unfold f_M_springMany at h
  refine (?_ : zJ p l e rm_M_springMany s m args below meth c G true 1 0 0 (zQm below G args s rm_M_springMany true (some (zi r)) S) S 0 [(0, zr (some 72))] [])
  refine z_aload_n C 0 rfl d_M_springMany_0 rfl ?_
  refine z_getF2 C 11 (by decide) 2 (by decide) rfl 2 5807 rfl (74) rfl zp_72 zk_72 zfl_11_24 d_M_springMany_1 ?_
  refine z_sipush C (196 : Int32) (by decide) d_M_springMany_4 ?_
  refine z_fact (fun hSR => ?_)
  refine z_ialoadS C zo_74 zk_74 (za_74 hSR) (by decide) d_M_springMany_7 ?_
  cases h
  exact z_iret C .int hret rfl ⟨by decide, by decide⟩ d_M_springMany_8
def f_M_spring (a1 : Int32) (a2 : Int32) (S : zSt) : Option (Int32 × zSt) := zb1 (f_M_lies a1 (0 : Int32) (9 : Int32)) (fun r2 => if r2 = 0 then zb2 (f_M_refuses (-1 : Int32) S) (fun r5 S6 => some (r5, S6)) else zb1 (f_M_lies a2 (0 : Int32) (9 : Int32)) (fun r8 => if r8 = 0 then zb2 (f_M_refuses (-1 : Int32) S) (fun r22 S23 => some (r22, S23)) else zb1 (f_M_springMany S) (fun r11 => if r11 = (9 : Int32) then zb2 (f_M_refuses (-5 : Int32) S) (fun r19 S20 => some (r19, S20)) else zgd (0 ≤ ((92 : Int32) + r11) ∧ ((92 : Int32) + r11).toNatClampNeg < 5807) (zgd (0 ≤ ((1 : Int32) + r11) ∧ ((1 : Int32) + r11).toNatClampNeg < 5807) (zb2 (f_M_settled r11 (zwI (zwI (zwI S 74 ((92 : Int32) + r11).toNatClampNeg a1) 74 ((1 : Int32) + r11).toNatClampNeg a2) 74 (196 : Int32).toNatClampNeg ((zI (zwI (zwI S 74 ((92 : Int32) + r11).toNatClampNeg a1) 74 ((1 : Int32) + r11).toNatClampNeg a2) 74 (196 : Int32).toNatClampNeg) + (1 : Int32)))) (fun r16 S17 => some (r16, S17)))))))
set_option maxRecDepth 100000 in
set_option maxHeartbeats 4000000 in
theorem m_M_spring (l : Launch) {a1 : Int32} {a2 : Int32} {S : zSt} {r : Int32} {S1 : zSt} (h : f_M_spring a1 a2 S = some (r, S1)) : zPM l y_M_spring b_M_spring 4 (some .int) rm_M_spring true true [zr (some 72), zi a1, zi a2] S (some (zi r)) S1 := by
  refine zPM_of (by decide) (Nat.le_of_ble_eq_true rfl) (fun p e s m args below meth c G C hret hname => ?_)
  unfold f_M_spring at h
  refine (?_ : zJ p l e rm_M_spring s m args below meth c G true 4 0 0 (zQm below G args s rm_M_spring true (some (zi r)) S1) S 0 [(0, zr (some 72)), (1, zi a1), (2, zi a2)] [])
  refine z_iload_n C 1 rfl d_M_spring_0 rfl ?_
  refine z_iconst C (0 : Int32) (by decide) d_M_spring_1 ?_
  refine z_bipush C (9 : Int32) (by decide) d_M_spring_2 ?_
  obtain ⟨r2, h1, h⟩ := zb1_some h
  refine z_cS C (m_M_lies l h1) mf_M_lies lk_11_108 st_M_lies ⟨rfl, rfl⟩ ⟨by decide, by decide⟩ ⟨Nat.zero_le _, Nat.zero_le _⟩ rfl _ [] rfl (Nat.le_of_ble_eq_true rfl) d_M_spring_4 ?_
  rcases zite h with ⟨c3, h⟩ | ⟨c3, h⟩
  · refine z_if_eqt C 20 c3 d_M_spring_7 (by decide) ?_
    refine z_aload_n C 0 rfl d_M_spring_20 rfl ?_
    refine z_iconst C (-1 : Int32) (by decide) d_M_spring_21 ?_
    obtain ⟨r5, S6, h4, h⟩ := zb2_some h
    refine z_cV C 11 (by decide) (m_M_refuses l h4) mf_M_refuses lk_11_112 in_M_refuses se_M_refuses rfl zo_72 zk_72 ⟨rfl, rfl⟩ ⟨by decide, by decide⟩ ⟨Nat.zero_le _, Nat.zero_le _⟩ rfl _ [] rfl (Nat.le_of_ble_eq_true rfl) d_M_spring_22 ?_
    cases h
    exact z_iret C .int hret rfl ⟨by decide, by decide⟩ d_M_spring_25
  · refine z_if_eqf C 20 c3 d_M_spring_7 (by decide) ?_
    refine z_iload_n C 2 rfl d_M_spring_10 rfl ?_
    refine z_iconst C (0 : Int32) (by decide) d_M_spring_11 ?_
    refine z_bipush C (9 : Int32) (by decide) d_M_spring_12 ?_
    obtain ⟨r8, h7, h⟩ := zb1_some h
    refine z_cS C (m_M_lies l h7) mf_M_lies lk_11_108 st_M_lies ⟨rfl, rfl⟩ ⟨by decide, by decide⟩ ⟨Nat.zero_le _, Nat.zero_le _⟩ rfl _ [] rfl (Nat.le_of_ble_eq_true rfl) d_M_spring_14 ?_
    rcases zite h with ⟨c9, h⟩ | ⟨c9, h⟩
    · refine z_if_nef C 26 c9 d_M_spring_17 (by decide) ?_
      refine z_aload_n C 0 rfl d_M_spring_20 rfl ?_
      refine z_iconst C (-1 : Int32) (by decide) d_M_spring_21 ?_
      obtain ⟨r22, S23, h21, h⟩ := zb2_some h
      refine z_cV C 11 (by decide) (m_M_refuses l h21) mf_M_refuses lk_11_112 in_M_refuses se_M_refuses rfl zo_72 zk_72 ⟨rfl, rfl⟩ ⟨by decide, by decide⟩ ⟨Nat.zero_le _, Nat.zero_le _⟩ rfl _ [] rfl (Nat.le_of_ble_eq_true rfl) d_M_spring_22 ?_
      cases h
      exact z_iret C .int hret rfl ⟨by decide, by decide⟩ d_M_spring_25
    · refine z_if_net C 26 c9 d_M_spring_17 (by decide) ?_
      refine z_aload_n C 0 rfl d_M_spring_26 rfl ?_
      obtain ⟨r11, h10, h⟩ := zb1_some h
      refine z_cV C 11 (by decide) (m_M_springMany l h10) mf_M_springMany lk_11_118 in_M_springMany se_M_springMany rfl zo_72 zk_72 ⟨rfl, rfl⟩ ⟨by decide, by decide⟩ ⟨Nat.zero_le _, Nat.zero_le _⟩ rfl _ [] rfl (Nat.le_of_ble_eq_true rfl) d_M_spring_27 ?_
      refine z_istore_n C [(3, zi r11), (0, zr (some 72)), (1, zi a1), (2, zi a2)] d_M_spring_30 rfl (by decide) rfl ?_
      refine z_iload_n C 0 rfl d_M_spring_31 rfl ?_
      refine z_bipush C (9 : Int32) (by decide) d_M_spring_32 ?_
      rcases zite h with ⟨c12, h⟩ | ⟨c12, h⟩
      · refine z_icmp_nef C 44 c12 d_M_spring_34 (by decide) ?_
        refine z_aload_n C 1 rfl d_M_spring_37 rfl ?_
        refine z_bipush C (-5 : Int32) (by decide) d_M_spring_38 ?_
        obtain ⟨r19, S20, h18, h⟩ := zb2_some h
        refine z_cV C 11 (by decide) (m_M_refuses l h18) mf_M_refuses lk_11_112 in_M_refuses se_M_refuses rfl zo_72 zk_72 ⟨rfl, rfl⟩ ⟨by decide, by decide⟩ ⟨Nat.zero_le _, Nat.zero_le _⟩ rfl _ [] rfl (Nat.le_of_ble_eq_true rfl) d_M_spring_40 ?_
        cases h
        exact z_iret C .int hret rfl ⟨by decide, by decide⟩ d_M_spring_43
      · refine z_icmp_net C 44 c12 d_M_spring_34 (by decide) ?_
        refine z_aload_n C 1 rfl d_M_spring_44 rfl ?_
        refine z_getF2 C 11 (by decide) 2 (by decide) rfl 2 5807 rfl (74) rfl zp_72 zk_72 zfl_11_24 d_M_spring_45 ?_
        refine z_bipush C (92 : Int32) (by decide) d_M_spring_48 ?_
        refine z_iload_n C 0 rfl d_M_spring_50 rfl ?_
        refine z_iadd C d_M_spring_51 ?_
        refine z_iload_n C 2 rfl d_M_spring_52 rfl ?_
        refine z_fact (fun hSR => ?_)
        obtain ⟨g13, h⟩ := zgd_some h
        refine z_iastoreS C zo_74 zk_74 (za_74 hSR) g13 d_M_spring_53 ?_
        refine z_aload_n C 1 rfl d_M_spring_54 rfl ?_
        refine z_getF2 C 11 (by decide) 2 (by decide) rfl 2 5807 rfl (74) rfl zp_72 zk_72 zfl_11_24 d_M_spring_55 ?_
        refine z_iconst C (1 : Int32) (by decide) d_M_spring_58 ?_
        refine z_iload_n C 0 rfl d_M_spring_59 rfl ?_
        refine z_iadd C d_M_spring_60 ?_
        refine z_iload_n C 3 rfl d_M_spring_61 rfl ?_
        refine z_fact (fun hSR => ?_)
        obtain ⟨g14, h⟩ := zgd_some h
        refine z_iastoreS C zo_74 zk_74 (za_74 hSR) g14 d_M_spring_62 ?_
        refine z_aload_n C 1 rfl d_M_spring_63 rfl ?_
        refine z_getF2 C 11 (by decide) 2 (by decide) rfl 2 5807 rfl (74) rfl zp_72 zk_72 zfl_11_24 d_M_spring_64 ?_
        refine z_sipush C (196 : Int32) (by decide) d_M_spring_67 ?_
        refine z_dup2 C rfl rfl d_M_spring_70 ?_
        refine z_fact (fun hSR => ?_)
        refine z_ialoadS C zo_74 zk_74 (za_74 hSR) (by decide) d_M_spring_71 ?_
        refine z_iconst C (1 : Int32) (by decide) d_M_spring_72 ?_
        refine z_iadd C d_M_spring_73 ?_
        refine z_fact (fun hSR => ?_)
        refine z_iastoreS C zo_74 zk_74 (za_74 hSR) (by decide) d_M_spring_74 ?_
        refine z_aload_n C 1 rfl d_M_spring_75 rfl ?_
        refine z_iload_n C 0 rfl d_M_spring_76 rfl ?_
        obtain ⟨r16, S17, h15, h⟩ := zb2_some h
        refine z_cV C 11 (by decide) (m_M_settled l h15) mf_M_settled lk_11_115 in_M_settled se_M_settled rfl zo_72 zk_72 ⟨rfl, rfl⟩ ⟨by decide, by decide⟩ ⟨Nat.zero_le _, Nat.zero_le _⟩ rfl _ [] rfl (Nat.le_of_ble_eq_true rfl) d_M_spring_77 ?_
        cases h
        exact z_iret C .int hret rfl ⟨by decide, by decide⟩ d_M_spring_80
def f_M_isSpring (a1 : Int32) (S : zSt) : Option Int32 := zb1 (f_M_springMany S) (fun r2 => zb1 (f_M_lies a1 (0 : Int32) (r2 - (1 : Int32))) (fun r4 => zgd (r4 = 0 ∨ r4 = 1) (some r4)))
set_option maxRecDepth 100000 in
set_option maxHeartbeats 4000000 in
theorem m_M_isSpring (l : Launch) {a1 : Int32} {S : zSt} {r : Int32} (h : f_M_isSpring a1 S = some r) : zPM l y_M_isSpring b_M_isSpring 2 (some .boolean) rm_M_isSpring true true [zr (some 72), zi a1] S (some (zi r)) S := by
  refine zPM_of (by decide) (Nat.le_of_ble_eq_true rfl) (fun p e s m args below meth c G C hret hname => ?_)
  unfold f_M_isSpring at h
  refine (?_ : zJ p l e rm_M_isSpring s m args below meth c G true 2 0 0 (zQm below G args s rm_M_isSpring true (some (zi r)) S) S 0 [(0, zr (some 72)), (1, zi a1)] [])
  refine z_iload_n C 1 rfl d_M_isSpring_0 rfl ?_
  refine z_iconst C (0 : Int32) (by decide) d_M_isSpring_1 ?_
  refine z_aload_n C 0 rfl d_M_isSpring_2 rfl ?_
  obtain ⟨r2, h1, h⟩ := zb1_some h
  refine z_cV C 11 (by decide) (m_M_springMany l h1) mf_M_springMany lk_11_118 in_M_springMany se_M_springMany rfl zo_72 zk_72 ⟨rfl, rfl⟩ ⟨by decide, by decide⟩ ⟨Nat.zero_le _, Nat.zero_le _⟩ rfl _ [zi (0 : Int32), zi a1] rfl (Nat.le_of_ble_eq_true rfl) d_M_isSpring_3 ?_
  refine z_iconst C (1 : Int32) (by decide) d_M_isSpring_6 ?_
  refine z_isub C d_M_isSpring_7 ?_
  obtain ⟨r4, h3, h⟩ := zb1_some h
  refine z_cS C (m_M_lies l h3) mf_M_lies lk_11_108 st_M_lies ⟨rfl, rfl⟩ ⟨by decide, by decide⟩ ⟨Nat.zero_le _, Nat.zero_le _⟩ rfl _ [] rfl (Nat.le_of_ble_eq_true rfl) d_M_isSpring_8 ?_
  obtain ⟨g5, h⟩ := zgd_some h
  cases h
  exact z_iret C .boolean hret (by rcases g5 with e | e <;> rw [e] <;> rfl) ⟨by decide, by decide⟩ d_M_isSpring_11
def f_M_areTwo (a1 : Int32) (a2 : Int32) (S : zSt) : Option Int32 := zb1 (f_M_isSpring a1 S) (fun r2 => if r2 = 0 then some (0 : Int32) else zb1 (f_M_isSpring a2 S) (fun r5 => if r5 = 0 then some (0 : Int32) else if a1 = a2 then some (0 : Int32) else some (1 : Int32)))
set_option maxRecDepth 100000 in
set_option maxHeartbeats 4000000 in
theorem m_M_areTwo (l : Launch) {a1 : Int32} {a2 : Int32} {S : zSt} {r : Int32} (h : f_M_areTwo a1 a2 S = some r) : zPM l y_M_areTwo b_M_areTwo 3 (some .boolean) rm_M_areTwo true true [zr (some 72), zi a1, zi a2] S (some (zi r)) S := by
  refine zPM_of (by decide) (Nat.le_of_ble_eq_true rfl) (fun p e s m args below meth c G C hret hname => ?_)
  unfold f_M_areTwo at h
  refine (?_ : zJ p l e rm_M_areTwo s m args below meth c G true 3 0 0 (zQm below G args s rm_M_areTwo true (some (zi r)) S) S 0 [(0, zr (some 72)), (1, zi a1), (2, zi a2)] [])
  refine z_aload_n C 0 rfl d_M_areTwo_0 rfl ?_
  refine z_iload_n C 1 rfl d_M_areTwo_1 rfl ?_
  obtain ⟨r2, h1, h⟩ := zb1_some h
  refine z_cV C 11 (by decide) (m_M_isSpring l h1) mf_M_isSpring lk_11_122 in_M_isSpring se_M_isSpring rfl zo_72 zk_72 ⟨rfl, rfl⟩ ⟨by decide, by decide⟩ ⟨Nat.zero_le _, Nat.zero_le _⟩ rfl _ [] rfl (Nat.le_of_ble_eq_true rfl) d_M_areTwo_2 ?_
  rcases zite h with ⟨c3, h⟩ | ⟨c3, h⟩
  · refine z_if_eqt C 25 c3 d_M_areTwo_5 (by decide) ?_
    refine z_iconst C (0 : Int32) (by decide) d_M_areTwo_25 ?_
    cases h
    exact z_iret C .boolean hret rfl ⟨by decide, by decide⟩ d_M_areTwo_26
  · refine z_if_eqf C 25 c3 d_M_areTwo_5 (by decide) ?_
    refine z_aload_n C 0 rfl d_M_areTwo_8 rfl ?_
    refine z_iload_n C 2 rfl d_M_areTwo_9 rfl ?_
    obtain ⟨r5, h4, h⟩ := zb1_some h
    refine z_cV C 11 (by decide) (m_M_isSpring l h4) mf_M_isSpring lk_11_122 in_M_isSpring se_M_isSpring rfl zo_72 zk_72 ⟨rfl, rfl⟩ ⟨by decide, by decide⟩ ⟨Nat.zero_le _, Nat.zero_le _⟩ rfl _ [] rfl (Nat.le_of_ble_eq_true rfl) d_M_areTwo_10 ?_
    rcases zite h with ⟨c6, h⟩ | ⟨c6, h⟩
    · refine z_if_eqt C 25 c6 d_M_areTwo_13 (by decide) ?_
      refine z_iconst C (0 : Int32) (by decide) d_M_areTwo_25 ?_
      cases h
      exact z_iret C .boolean hret rfl ⟨by decide, by decide⟩ d_M_areTwo_26
    · refine z_if_eqf C 25 c6 d_M_areTwo_13 (by decide) ?_
      refine z_iload_n C 1 rfl d_M_areTwo_16 rfl ?_
      refine z_iload_n C 2 rfl d_M_areTwo_17 rfl ?_
      rcases zite h with ⟨c7, h⟩ | ⟨c7, h⟩
      · refine z_icmp_eqt C 25 c7 d_M_areTwo_18 (by decide) ?_
        refine z_iconst C (0 : Int32) (by decide) d_M_areTwo_25 ?_
        cases h
        exact z_iret C .boolean hret rfl ⟨by decide, by decide⟩ d_M_areTwo_26
      · refine z_icmp_eqf C 25 c7 d_M_areTwo_18 (by decide) ?_
        refine z_iconst C (1 : Int32) (by decide) d_M_areTwo_21 ?_
        refine z_goto C 26 d_M_areTwo_22 (by decide) ?_
        cases h
        exact z_iret C .boolean hret rfl ⟨by decide, by decide⟩ d_M_areTwo_26
def f_M_pairAt (a0 : Int32) (a1 : Int32) : Option Int32 := some (((9 : Int32) * a0) + a1)
set_option maxRecDepth 100000 in
set_option maxHeartbeats 4000000 in
theorem m_M_pairAt (l : Launch) {a0 : Int32} {a1 : Int32} {S : zSt} {r : Int32} (h : f_M_pairAt a0 a1 = some r) : zPM l y_M_pairAt b_M_pairAt 2 (some .int) rm_M_pairAt true true [zi a0, zi a1] S (some (zi r)) S := by
  refine zPM_of (by decide) (Nat.le_of_ble_eq_true rfl) (fun p e s m args below meth c G C hret hname => ?_)
  unfold f_M_pairAt at h
  refine (?_ : zJ p l e rm_M_pairAt s m args below meth c G true 2 0 0 (zQm below G args s rm_M_pairAt true (some (zi r)) S) S 0 [(0, zi a0), (1, zi a1)] [])
  refine z_bipush C (9 : Int32) (by decide) d_M_pairAt_0 ?_
  refine z_iload_n C 0 rfl d_M_pairAt_2 rfl ?_
  refine z_imul C d_M_pairAt_3 ?_
  refine z_iload_n C 1 rfl d_M_pairAt_4 rfl ?_
  refine z_iadd C d_M_pairAt_5 ?_
  cases h
  exact z_iret C .int hret rfl ⟨by decide, by decide⟩ d_M_pairAt_6
def f_M_laysChannel (a1 : Int32) (a2 : Int32) (a3 : Int32) (S : zSt) : Option zSt := zb1 (f_M_pairAt a1 a2) (fun r2 => zgd (0 ≤ ((101 : Int32) + r2) ∧ ((101 : Int32) + r2).toNatClampNeg < 5807) (zb1 (f_M_pairAt a2 a1) (fun r5 => zgd (0 ≤ ((101 : Int32) + r5) ∧ ((101 : Int32) + r5).toNatClampNeg < 5807) (zb1 (f_M_pairAt a1 a2) (fun r8 => zgd (0 ≤ ((10 : Int32) + r8) ∧ ((10 : Int32) + r8).toNatClampNeg < 5807) (zb1 (f_M_pairAt a2 a1) (fun r11 => zgd (0 ≤ ((10 : Int32) + r11) ∧ ((10 : Int32) + r11).toNatClampNeg < 5807) (some (zwI (zwI (zwI (zwI S 74 ((101 : Int32) + r2).toNatClampNeg a3) 74 ((101 : Int32) + r5).toNatClampNeg a3) 74 ((10 : Int32) + r8).toNatClampNeg (0 : Int32)) 74 ((10 : Int32) + r11).toNatClampNeg (0 : Int32))))))))))
set_option maxRecDepth 100000 in
set_option maxHeartbeats 4000000 in
theorem m_M_laysChannel (l : Launch) {a1 : Int32} {a2 : Int32} {a3 : Int32} {S : zSt} {S1 : zSt} (h : f_M_laysChannel a1 a2 a3 S = some S1) : zPM l y_M_laysChannel b_M_laysChannel 4 none rm_M_laysChannel true true [zr (some 72), zi a1, zi a2, zi a3] S none S1 := by
  refine zPM_of (by decide) (Nat.le_of_ble_eq_true rfl) (fun p e s m args below meth c G C hret hname => ?_)
  unfold f_M_laysChannel at h
  refine (?_ : zJ p l e rm_M_laysChannel s m args below meth c G true 4 0 0 (zQm below G args s rm_M_laysChannel true none S1) S 0 [(0, zr (some 72)), (1, zi a1), (2, zi a2), (3, zi a3)] [])
  refine z_aload_n C 0 rfl d_M_laysChannel_0 rfl ?_
  refine z_getF2 C 11 (by decide) 2 (by decide) rfl 2 5807 rfl (74) rfl zp_72 zk_72 zfl_11_24 d_M_laysChannel_1 ?_
  refine z_bipush C (101 : Int32) (by decide) d_M_laysChannel_4 ?_
  refine z_iload_n C 1 rfl d_M_laysChannel_6 rfl ?_
  refine z_iload_n C 2 rfl d_M_laysChannel_7 rfl ?_
  obtain ⟨r2, h1, h⟩ := zb1_some h
  refine z_cS C (m_M_pairAt l h1) mf_M_pairAt lk_11_126 st_M_pairAt ⟨rfl, rfl⟩ ⟨by decide, by decide⟩ ⟨Nat.zero_le _, Nat.zero_le _⟩ rfl _ [zi (101 : Int32), zr (some 74)] rfl (Nat.le_of_ble_eq_true rfl) d_M_laysChannel_8 ?_
  refine z_iadd C d_M_laysChannel_11 ?_
  refine z_iload_n C 3 rfl d_M_laysChannel_12 rfl ?_
  refine z_fact (fun hSR => ?_)
  obtain ⟨g3, h⟩ := zgd_some h
  refine z_iastoreS C zo_74 zk_74 (za_74 hSR) g3 d_M_laysChannel_13 ?_
  refine z_aload_n C 0 rfl d_M_laysChannel_14 rfl ?_
  refine z_getF2 C 11 (by decide) 2 (by decide) rfl 2 5807 rfl (74) rfl zp_72 zk_72 zfl_11_24 d_M_laysChannel_15 ?_
  refine z_bipush C (101 : Int32) (by decide) d_M_laysChannel_18 ?_
  refine z_iload_n C 2 rfl d_M_laysChannel_20 rfl ?_
  refine z_iload_n C 1 rfl d_M_laysChannel_21 rfl ?_
  obtain ⟨r5, h4, h⟩ := zb1_some h
  refine z_cS C (m_M_pairAt l h4) mf_M_pairAt lk_11_126 st_M_pairAt ⟨rfl, rfl⟩ ⟨by decide, by decide⟩ ⟨Nat.zero_le _, Nat.zero_le _⟩ rfl _ [zi (101 : Int32), zr (some 74)] rfl (Nat.le_of_ble_eq_true rfl) d_M_laysChannel_22 ?_
  refine z_iadd C d_M_laysChannel_25 ?_
  refine z_iload_n C 3 rfl d_M_laysChannel_26 rfl ?_
  refine z_fact (fun hSR => ?_)
  obtain ⟨g6, h⟩ := zgd_some h
  refine z_iastoreS C zo_74 zk_74 (za_74 hSR) g6 d_M_laysChannel_27 ?_
  refine z_aload_n C 0 rfl d_M_laysChannel_28 rfl ?_
  refine z_getF2 C 11 (by decide) 2 (by decide) rfl 2 5807 rfl (74) rfl zp_72 zk_72 zfl_11_24 d_M_laysChannel_29 ?_
  refine z_bipush C (10 : Int32) (by decide) d_M_laysChannel_32 ?_
  refine z_iload_n C 1 rfl d_M_laysChannel_34 rfl ?_
  refine z_iload_n C 2 rfl d_M_laysChannel_35 rfl ?_
  obtain ⟨r8, h7, h⟩ := zb1_some h
  refine z_cS C (m_M_pairAt l h7) mf_M_pairAt lk_11_126 st_M_pairAt ⟨rfl, rfl⟩ ⟨by decide, by decide⟩ ⟨Nat.zero_le _, Nat.zero_le _⟩ rfl _ [zi (10 : Int32), zr (some 74)] rfl (Nat.le_of_ble_eq_true rfl) d_M_laysChannel_36 ?_
  refine z_iadd C d_M_laysChannel_39 ?_
  refine z_iconst C (0 : Int32) (by decide) d_M_laysChannel_40 ?_
  refine z_fact (fun hSR => ?_)
  obtain ⟨g9, h⟩ := zgd_some h
  refine z_iastoreS C zo_74 zk_74 (za_74 hSR) g9 d_M_laysChannel_41 ?_
  refine z_aload_n C 0 rfl d_M_laysChannel_42 rfl ?_
  refine z_getF2 C 11 (by decide) 2 (by decide) rfl 2 5807 rfl (74) rfl zp_72 zk_72 zfl_11_24 d_M_laysChannel_43 ?_
  refine z_bipush C (10 : Int32) (by decide) d_M_laysChannel_46 ?_
  refine z_iload_n C 2 rfl d_M_laysChannel_48 rfl ?_
  refine z_iload_n C 1 rfl d_M_laysChannel_49 rfl ?_
  obtain ⟨r11, h10, h⟩ := zb1_some h
  refine z_cS C (m_M_pairAt l h10) mf_M_pairAt lk_11_126 st_M_pairAt ⟨rfl, rfl⟩ ⟨by decide, by decide⟩ ⟨Nat.zero_le _, Nat.zero_le _⟩ rfl _ [zi (10 : Int32), zr (some 74)] rfl (Nat.le_of_ble_eq_true rfl) d_M_laysChannel_50 ?_
  refine z_iadd C d_M_laysChannel_53 ?_
  refine z_iconst C (0 : Int32) (by decide) d_M_laysChannel_54 ?_
  refine z_fact (fun hSR => ?_)
  obtain ⟨g12, h⟩ := zgd_some h
  refine z_iastoreS C zo_74 zk_74 (za_74 hSR) g12 d_M_laysChannel_55 ?_
  cases h
  exact z_vret C hret ⟨by decide, by decide⟩ d_M_laysChannel_56
def f_M_lesser (a0 : Int32) (a1 : Int32) : Option Int32 := if a1 ≤ a0 then some a1 else some a0
set_option maxRecDepth 100000 in
set_option maxHeartbeats 4000000 in
theorem m_M_lesser (l : Launch) {a0 : Int32} {a1 : Int32} {S : zSt} {r : Int32} (h : f_M_lesser a0 a1 = some r) : zPM l y_M_lesser b_M_lesser 2 (some .int) rm_M_lesser true true [zi a0, zi a1] S (some (zi r)) S := by
  refine zPM_of (by decide) (Nat.le_of_ble_eq_true rfl) (fun p e s m args below meth c G C hret hname => ?_)
  unfold f_M_lesser at h
  refine (?_ : zJ p l e rm_M_lesser s m args below meth c G true 2 0 0 (zQm below G args s rm_M_lesser true (some (zi r)) S) S 0 [(0, zi a0), (1, zi a1)] [])
  refine z_iload_n C 0 rfl d_M_lesser_0 rfl ?_
  refine z_iload_n C 1 rfl d_M_lesser_1 rfl ?_
  rcases zite h with ⟨c1, h⟩ | ⟨c1, h⟩
  · refine z_icmp_get C 9 c1 d_M_lesser_2 (by decide) ?_
    refine z_iload_n C 1 rfl d_M_lesser_9 rfl ?_
    cases h
    exact z_iret C .int hret rfl ⟨by decide, by decide⟩ d_M_lesser_10
  · refine z_icmp_gef C 9 c1 d_M_lesser_2 (by decide) ?_
    refine z_iload_n C 0 rfl d_M_lesser_5 rfl ?_
    refine z_goto C 10 d_M_lesser_6 (by decide) ?_
    cases h
    exact z_iret C .int hret rfl ⟨by decide, by decide⟩ d_M_lesser_10
def f_M_laysAside_2 (fu : Nat) : Nat → Int32 → Int32 → zSt → Option zSt
  | 0, _, _, _ => none
  | n + 1, a1, a2, S => if (92 : Int32) ≤ a2 then some S else zgd (0 ≤ a2 ∧ a2.toNatClampNeg < 5807) (zgd (0 ≤ (((92 : Int32) * a1) + a2) ∧ (((92 : Int32) * a1) + a2).toNatClampNeg < 184) (f_M_laysAside_2 fu n a1 (a2 + (1 : Int32)) (zwI S 77 (((92 : Int32) * a1) + a2).toNatClampNeg (zI S 74 a2.toNatClampNeg))))
def f_M_laysAside (fu : Nat) (a1 : Int32) (S : zSt) : Option zSt := f_M_laysAside_2 fu fu a1 (0 : Int32) S
set_option maxRecDepth 100000 in
set_option maxHeartbeats 4000000 in
theorem c_M_laysAside_2 {p : Program} {l : Launch} {e : Env} {s : State} {m : MethodId} {args : Array Value} {below : List Frame} {meth : Method} {c : Code} {G : zG} (C : zC p s m args meth c G b_M_laysAside 3 y_M_laysAside.cls) (hret : meth.sig.returnType = none) {fu : Nat} {S1 : zSt} : ∀ (n : Nat) (a1 : Int32) (a2 : Int32) (S : zSt) , f_M_laysAside_2 fu n a1 a2 S = some S1 → zJ p l e rm_M_laysAside s m args below meth c G true 3 0 0 (zQm below G args s rm_M_laysAside true none S1) S 2 [(0, zr (some 72)), (1, zi a1), (2, zi a2)] [] := by
  intro n
  induction n with
  | zero =>
    intro a1 a2 S h
    cases h
  | succ n ih =>
    intro a1 a2 S h
    rw [f_M_laysAside_2] at h
    refine z_iload_n C 2 rfl d_M_laysAside_2 rfl ?_
    refine z_bipush C (92 : Int32) (by decide) d_M_laysAside_3 ?_
    rcases zite h with ⟨c1, h⟩ | ⟨c1, h⟩
    · refine z_icmp_get C 31 c1 d_M_laysAside_5 (by decide) ?_
      cases h
      exact z_vret C hret ⟨by decide, by decide⟩ d_M_laysAside_31
    · refine z_icmp_gef C 31 c1 d_M_laysAside_5 (by decide) ?_
      refine z_aload_n C 0 rfl d_M_laysAside_8 rfl ?_
      refine z_getF2 C 11 (by decide) 5 (by decide) rfl 5 184 rfl (77) rfl zp_72 zk_72 zfl_11_34 d_M_laysAside_9 ?_
      refine z_bipush C (92 : Int32) (by decide) d_M_laysAside_12 ?_
      refine z_iload_n C 1 rfl d_M_laysAside_14 rfl ?_
      refine z_imul C d_M_laysAside_15 ?_
      refine z_iload_n C 2 rfl d_M_laysAside_16 rfl ?_
      refine z_iadd C d_M_laysAside_17 ?_
      refine z_aload_n C 0 rfl d_M_laysAside_18 rfl ?_
      refine z_getF2 C 11 (by decide) 2 (by decide) rfl 2 5807 rfl (74) rfl zp_72 zk_72 zfl_11_24 d_M_laysAside_19 ?_
      refine z_iload_n C 2 rfl d_M_laysAside_22 rfl ?_
      refine z_fact (fun hSR => ?_)
      obtain ⟨g2, h⟩ := zgd_some h
      refine z_ialoadS C zo_74 zk_74 (za_74 hSR) g2 d_M_laysAside_23 ?_
      refine z_fact (fun hSR => ?_)
      obtain ⟨g3, h⟩ := zgd_some h
      refine z_iastoreS C zo_77 zk_77 (za_77 hSR) g3 d_M_laysAside_24 ?_
      refine z_iinc C 2 (a2 + (1 : Int32)) [(2, zi (a2 + (1 : Int32))), (0, zr (some 72)), (1, zi a1)] rfl d_M_laysAside_25 (by first | rfl | decide) (by decide) rfl ?_
      refine z_goto C 2 d_M_laysAside_28 (by decide) ?_
      refine zq_lsub [1, 2, 0] [(0, zr (some 72)), (1, zi a1), (2, zi (a2 + (1 : Int32)))] rfl ?_
      exact ih a1 (a2 + (1 : Int32)) (zwI S 77 (((92 : Int32) * a1) + a2).toNatClampNeg (zI S 74 a2.toNatClampNeg)) h
set_option maxRecDepth 100000 in
set_option maxHeartbeats 4000000 in
theorem m_M_laysAside (l : Launch) {fu : Nat} {a1 : Int32} {S : zSt} {S1 : zSt} (h : f_M_laysAside fu a1 S = some S1) : zPM l y_M_laysAside b_M_laysAside 3 none rm_M_laysAside true true [zr (some 72), zi a1] S none S1 := by
  refine zPM_of (by decide) (Nat.le_of_ble_eq_true rfl) (fun p e s m args below meth c G C hret hname => ?_)
  unfold f_M_laysAside at h
  refine (?_ : zJ p l e rm_M_laysAside s m args below meth c G true 3 0 0 (zQm below G args s rm_M_laysAside true none S1) S 0 [(0, zr (some 72)), (1, zi a1)] [])
  refine z_iconst C (0 : Int32) (by decide) d_M_laysAside_0 ?_
  refine z_istore_n C [(2, zi (0 : Int32)), (0, zr (some 72)), (1, zi a1)] d_M_laysAside_1 rfl (by decide) rfl ?_
  refine zq_lsub [1, 2, 0] [(0, zr (some 72)), (1, zi a1), (2, zi (0 : Int32))] rfl ?_
  exact c_M_laysAside_2 C hret fu  a1 (0 : Int32) S h

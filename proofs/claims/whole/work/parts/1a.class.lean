/-! printed by dec4.py: 1a.class -/
abbrev rm_E_refused : Room := { frames := 1, cells := 0, slots := 0, locals := 64 }
abbrev rm_Jo_clear : Room := { frames := 1, cells := 0, slots := 0, locals := 64 }
abbrev rm_Ps_setMud : Room := { frames := 1, cells := 0, slots := 0, locals := 64 }
abbrev rm_Ps_addSpring : Room := { frames := 2, cells := 0, slots := 0, locals := 86 }
abbrev rm_E_granted : Room := { frames := 1, cells := 0, slots := 0, locals := 64 }
abbrev rm_E_spring : Room := { frames := 3, cells := 0, slots := 0, locals := 109 }
abbrev rm_Ps_has : Room := { frames := 1, cells := 0, slots := 0, locals := 64 }
abbrev rm_Ps_pairOf : Room := { frames := 1, cells := 0, slots := 0, locals := 64 }
abbrev rm_Ps_dig : Room := { frames := 2, cells := 0, slots := 0, locals := 88 }
abbrev rm_E_channel : Room := { frames := 3, cells := 0, slots := 0, locals := 113 }
abbrev rm_Ps_levelOf : Room := { frames := 1, cells := 0, slots := 0, locals := 64 }
abbrev rm_Ps_mudOf : Room := { frames := 1, cells := 0, slots := 0, locals := 64 }
abbrev rm_Ps_lawOf : Room := { frames := 1, cells := 0, slots := 0, locals := 64 }
abbrev rm_Ps_lawInForce : Room := { frames := 2, cells := 0, slots := 0, locals := 85 }
abbrev rm_Ps_tellSpring : Room := { frames := 2, cells := 0, slots := 0, locals := 85 }
abbrev rm_Ps_farOf : Room := { frames := 1, cells := 0, slots := 0, locals := 64 }
abbrev rm_Ps_tellChannel : Room := { frames := 2, cells := 0, slots := 0, locals := 88 }
abbrev rm_Tx_kindOf : Room := { frames := 1, cells := 0, slots := 0, locals := 64 }
abbrev rm_Tx_startOf : Room := { frames := 1, cells := 0, slots := 0, locals := 64 }
abbrev rm_Tx_joined : Room := { frames := 1, cells := 0, slots := 0, locals := 64 }
abbrev rm_Tx_value : Room := { frames := 2, cells := 0, slots := 0, locals := 90 }
abbrev rm_As_nearest : Room := { frames := 1, cells := 0, slots := 0, locals := 64 }
abbrev rm_As_without : Room := { frames := 1, cells := 0, slots := 0, locals := 64 }
abbrev rm_As_told : Room := { frames := 3, cells := 0, slots := 0, locals := 120 }
abbrev rm_E_of : Room := { frames := 4, cells := 0, slots := 0, locals := 149 }
abbrev rm_Ps_isShut : Room := { frames := 1, cells := 0, slots := 0, locals := 64 }
abbrev rm_E_kindTold : Room := { frames := 1, cells := 0, slots := 0, locals := 64 }
abbrev rm_E_between : Room := { frames := 4, cells := 0, slots := 0, locals := 149 }
abbrev rm_E_topOfTerm : Room := { frames := 1, cells := 0, slots := 0, locals := 64 }
abbrev rm_Ps_term : Room := { frames := 1, cells := 0, slots := 0, locals := 64 }
abbrev rm_Ps_setTerm : Room := { frames := 1, cells := 0, slots := 0, locals := 64 }
abbrev rm_E_terms : Room := { frames := 2, cells := 0, slots := 0, locals := 86 }
abbrev rm_Ta_put : Room := { frames := 1, cells := 0, slots := 0, locals := 64 }
abbrev rm_E_feed : Room := { frames := 2, cells := 0, slots := 0, locals := 86 }
abbrev rm_E_end : Room := { frames := 1, cells := 0, slots := 0, locals := 64 }
abbrev rm_Ta_byteAt : Room := { frames := 1, cells := 0, slots := 0, locals := 64 }
abbrev rm_E_digFromTape : Room := { frames := 3, cells := 0, slots := 0, locals := 113 }
def y_E_refused : MethodName := ⟨zNm 0, "refused", "(I)I"⟩
abbrev b_E_refused : ByteArray := prog_1_method_43_code
theorem d_E_refused_0 : decode b_E_refused 0 = .ok (.iload_n 1, 1) := by decide +kernel
theorem d_E_refused_1 : decode b_E_refused 1 = .ok (.ineg, 1) := by decide +kernel
theorem d_E_refused_2 : decode b_E_refused 2 = .ok (.iconst 1, 1) := by decide +kernel
theorem d_E_refused_3 : decode b_E_refused 3 = .ok (.isub, 1) := by decide +kernel
theorem d_E_refused_4 : decode b_E_refused 4 = .ok (.istore_n 2, 1) := by decide +kernel
theorem d_E_refused_5 : decode b_E_refused 5 = .ok (.iload_n 2, 1) := by decide +kernel
theorem d_E_refused_6 : decode b_E_refused 6 = .ok (.ifCond .lt 22, 3) := by decide +kernel
theorem d_E_refused_9 : decode b_E_refused 9 = .ok (.iload_n 2, 1) := by decide +kernel
theorem d_E_refused_10 : decode b_E_refused 10 = .ok (.aload_n 0, 1) := by decide +kernel
theorem d_E_refused_11 : decode b_E_refused 11 = .ok (.getfield 93, 3) := by decide +kernel
theorem d_E_refused_14 : decode b_E_refused 14 = .ok (.arraylength, 1) := by decide +kernel
theorem d_E_refused_15 : decode b_E_refused 15 = .ok (.if_icmp .ge 13, 3) := by decide +kernel
theorem d_E_refused_18 : decode b_E_refused 18 = .ok (.aload_n 0, 1) := by decide +kernel
theorem d_E_refused_19 : decode b_E_refused 19 = .ok (.getfield 93, 3) := by decide +kernel
theorem d_E_refused_22 : decode b_E_refused 22 = .ok (.iload_n 2, 1) := by decide +kernel
theorem d_E_refused_23 : decode b_E_refused 23 = .ok (.dup2, 1) := by decide +kernel
theorem d_E_refused_24 : decode b_E_refused 24 = .ok (.iaload, 1) := by decide +kernel
theorem d_E_refused_25 : decode b_E_refused 25 = .ok (.iconst 1, 1) := by decide +kernel
theorem d_E_refused_26 : decode b_E_refused 26 = .ok (.iadd, 1) := by decide +kernel
theorem d_E_refused_27 : decode b_E_refused 27 = .ok (.iastore, 1) := by decide +kernel
theorem d_E_refused_28 : decode b_E_refused 28 = .ok (.aload_n 0, 1) := by decide +kernel
theorem d_E_refused_29 : decode b_E_refused 29 = .ok (.iload_n 1, 1) := by decide +kernel
theorem d_E_refused_30 : decode b_E_refused 30 = .ok (.putfield 106, 3) := by decide +kernel
theorem d_E_refused_33 : decode b_E_refused 33 = .ok (.iload_n 1, 1) := by decide +kernel
theorem d_E_refused_34 : decode b_E_refused 34 = .ok (.ireturn, 1) := by decide +kernel
theorem mf_E_refused : zMF y_E_refused b_E_refused 3 (some .int) 1 := ⟨zGW_in 495 (by decide +kernel) (by decide +kernel), zGW_in 124 (by decide +kernel) (by decide +kernel), by decide +kernel⟩
theorem in_E_refused : Cond.instanceMethod y_E_refused ∈ zGW := zGW_in 494 (by decide +kernel) (by decide +kernel)
theorem se_E_refused : Cond.selects y_E_refused.cls y_E_refused y_E_refused ∈ zGW := zGW_in 0 (by decide +kernel) (by decide +kernel)
def y_Jo_clear : MethodName := ⟨zNm 2, "clear", "()V"⟩
abbrev b_Jo_clear : ByteArray := prog_3_method_2_code
theorem d_Jo_clear_0 : decode b_Jo_clear 0 = .ok (.aload_n 0, 1) := by decide +kernel
theorem d_Jo_clear_1 : decode b_Jo_clear 1 = .ok (.iconst 0, 1) := by decide +kernel
theorem d_Jo_clear_2 : decode b_Jo_clear 2 = .ok (.putfield 11, 3) := by decide +kernel
theorem d_Jo_clear_5 : decode b_Jo_clear 5 = .ok (.return_, 1) := by decide +kernel
theorem mf_Jo_clear : zMF y_Jo_clear b_Jo_clear 1 none 0 := ⟨zGW_in 499 (by decide +kernel) (by decide +kernel), zGW_in 126 (by decide +kernel) (by decide +kernel), by decide +kernel⟩
theorem in_Jo_clear : Cond.instanceMethod y_Jo_clear ∈ zGW := zGW_in 497 (by decide +kernel) (by decide +kernel)
theorem se_Jo_clear : Cond.selects y_Jo_clear.cls y_Jo_clear y_Jo_clear ∈ zGW := zGW_in 498 (by decide +kernel) (by decide +kernel)
def y_Ps_setMud : MethodName := ⟨zNm 5, "setMud", "(II)V"⟩
abbrev b_Ps_setMud : ByteArray := prog_6_method_8_code
theorem d_Ps_setMud_0 : decode b_Ps_setMud 0 = .ok (.aload_n 0, 1) := by decide +kernel
theorem d_Ps_setMud_1 : decode b_Ps_setMud 1 = .ok (.aload_n 0, 1) := by decide +kernel
theorem d_Ps_setMud_2 : decode b_Ps_setMud 2 = .ok (.getfield 22, 3) := by decide +kernel
theorem d_Ps_setMud_5 : decode b_Ps_setMud 5 = .ok (.ldc2_w 76, 3) := by decide +kernel
theorem d_Ps_setMud_8 : decode b_Ps_setMud 8 = .ok (.iconst 4, 1) := by decide +kernel
theorem d_Ps_setMud_9 : decode b_Ps_setMud 9 = .ok (.iload_n 1, 1) := by decide +kernel
theorem d_Ps_setMud_10 : decode b_Ps_setMud 10 = .ok (.imul, 1) := by decide +kernel
theorem d_Ps_setMud_11 : decode b_Ps_setMud 11 = .ok (.lshl, 1) := by decide +kernel
theorem d_Ps_setMud_12 : decode b_Ps_setMud 12 = .ok (.ldc2_w 78, 3) := by decide +kernel
theorem d_Ps_setMud_15 : decode b_Ps_setMud 15 = .ok (.lxor, 1) := by decide +kernel
theorem d_Ps_setMud_16 : decode b_Ps_setMud 16 = .ok (.land, 1) := by decide +kernel
theorem d_Ps_setMud_17 : decode b_Ps_setMud 17 = .ok (.iload_n 2, 1) := by decide +kernel
theorem d_Ps_setMud_18 : decode b_Ps_setMud 18 = .ok (.i2l, 1) := by decide +kernel
theorem d_Ps_setMud_19 : decode b_Ps_setMud 19 = .ok (.iconst 4, 1) := by decide +kernel
theorem d_Ps_setMud_20 : decode b_Ps_setMud 20 = .ok (.iload_n 1, 1) := by decide +kernel
theorem d_Ps_setMud_21 : decode b_Ps_setMud 21 = .ok (.imul, 1) := by decide +kernel
theorem d_Ps_setMud_22 : decode b_Ps_setMud 22 = .ok (.lshl, 1) := by decide +kernel
theorem d_Ps_setMud_23 : decode b_Ps_setMud 23 = .ok (.lor, 1) := by decide +kernel
theorem d_Ps_setMud_24 : decode b_Ps_setMud 24 = .ok (.putfield 22, 3) := by decide +kernel
theorem d_Ps_setMud_27 : decode b_Ps_setMud 27 = .ok (.return_, 1) := by decide +kernel
theorem mf_Ps_setMud : zMF y_Ps_setMud b_Ps_setMud 3 none 2 := ⟨zGW_in 507 (by decide +kernel) (by decide +kernel), zGW_in 125 (by decide +kernel) (by decide +kernel), by decide +kernel⟩
theorem in_Ps_setMud : Cond.instanceMethod y_Ps_setMud ∈ zGW := zGW_in 506 (by decide +kernel) (by decide +kernel)
theorem se_Ps_setMud : Cond.selects y_Ps_setMud.cls y_Ps_setMud y_Ps_setMud ∈ zGW := zGW_in 1 (by decide +kernel) (by decide +kernel)
def y_Ps_addSpring : MethodName := ⟨zNm 5, "addSpring", "(II)I"⟩
abbrev b_Ps_addSpring : ByteArray := prog_6_method_5_code
theorem d_Ps_addSpring_0 : decode b_Ps_addSpring 0 = .ok (.aload_n 0, 1) := by decide +kernel
theorem d_Ps_addSpring_1 : decode b_Ps_addSpring 1 = .ok (.getfield 9, 3) := by decide +kernel
theorem d_Ps_addSpring_4 : decode b_Ps_addSpring 4 = .ok (.istore_n 3, 1) := by decide +kernel
theorem d_Ps_addSpring_5 : decode b_Ps_addSpring 5 = .ok (.iload_n 3, 1) := by decide +kernel
theorem d_Ps_addSpring_6 : decode b_Ps_addSpring 6 = .ok (.ifCond .lt 12, 3) := by decide +kernel
theorem d_Ps_addSpring_9 : decode b_Ps_addSpring 9 = .ok (.iload_n 3, 1) := by decide +kernel
theorem d_Ps_addSpring_10 : decode b_Ps_addSpring 10 = .ok (.aload_n 0, 1) := by decide +kernel
theorem d_Ps_addSpring_11 : decode b_Ps_addSpring 11 = .ok (.getfield 15, 3) := by decide +kernel
theorem d_Ps_addSpring_14 : decode b_Ps_addSpring 14 = .ok (.arraylength, 1) := by decide +kernel
theorem d_Ps_addSpring_15 : decode b_Ps_addSpring 15 = .ok (.if_icmp .lt 5, 3) := by decide +kernel
theorem d_Ps_addSpring_18 : decode b_Ps_addSpring 18 = .ok (.iconst (-1), 1) := by decide +kernel
theorem d_Ps_addSpring_19 : decode b_Ps_addSpring 19 = .ok (.ireturn, 1) := by decide +kernel
theorem d_Ps_addSpring_20 : decode b_Ps_addSpring 20 = .ok (.aload_n 0, 1) := by decide +kernel
theorem d_Ps_addSpring_21 : decode b_Ps_addSpring 21 = .ok (.getfield 15, 3) := by decide +kernel
theorem d_Ps_addSpring_24 : decode b_Ps_addSpring 24 = .ok (.iload_n 3, 1) := by decide +kernel
theorem d_Ps_addSpring_25 : decode b_Ps_addSpring 25 = .ok (.iload_n 1, 1) := by decide +kernel
theorem d_Ps_addSpring_26 : decode b_Ps_addSpring 26 = .ok (.iastore, 1) := by decide +kernel
theorem d_Ps_addSpring_27 : decode b_Ps_addSpring 27 = .ok (.aload_n 0, 1) := by decide +kernel
theorem d_Ps_addSpring_28 : decode b_Ps_addSpring 28 = .ok (.iload_n 3, 1) := by decide +kernel
theorem d_Ps_addSpring_29 : decode b_Ps_addSpring 29 = .ok (.iconst 1, 1) := by decide +kernel
theorem d_Ps_addSpring_30 : decode b_Ps_addSpring 30 = .ok (.iadd, 1) := by decide +kernel
theorem d_Ps_addSpring_31 : decode b_Ps_addSpring 31 = .ok (.putfield 9, 3) := by decide +kernel
theorem d_Ps_addSpring_34 : decode b_Ps_addSpring 34 = .ok (.aload_n 0, 1) := by decide +kernel
theorem d_Ps_addSpring_35 : decode b_Ps_addSpring 35 = .ok (.iload_n 3, 1) := by decide +kernel
theorem d_Ps_addSpring_36 : decode b_Ps_addSpring 36 = .ok (.iload_n 2, 1) := by decide +kernel
theorem d_Ps_addSpring_37 : decode b_Ps_addSpring 37 = .ok (.invokevirtual 72, 3) := by decide +kernel
theorem d_Ps_addSpring_40 : decode b_Ps_addSpring 40 = .ok (.iload_n 3, 1) := by decide +kernel
theorem d_Ps_addSpring_41 : decode b_Ps_addSpring 41 = .ok (.ireturn, 1) := by decide +kernel
theorem mf_Ps_addSpring : zMF y_Ps_addSpring b_Ps_addSpring 4 (some .int) 2 := ⟨zGW_in 503 (by decide +kernel) (by decide +kernel), zGW_in 125 (by decide +kernel) (by decide +kernel), by decide +kernel⟩
theorem in_Ps_addSpring : Cond.instanceMethod y_Ps_addSpring ∈ zGW := zGW_in 501 (by decide +kernel) (by decide +kernel)
theorem se_Ps_addSpring : Cond.selects y_Ps_addSpring.cls y_Ps_addSpring y_Ps_addSpring ∈ zGW := zGW_in 502 (by decide +kernel) (by decide +kernel)
def y_E_granted : MethodName := ⟨zNm 0, "granted", "(I)I"⟩
abbrev b_E_granted : ByteArray := prog_1_method_42_code
theorem d_E_granted_0 : decode b_E_granted 0 = .ok (.aload_n 0, 1) := by decide +kernel
theorem d_E_granted_1 : decode b_E_granted 1 = .ok (.iconst 0, 1) := by decide +kernel
theorem d_E_granted_2 : decode b_E_granted 2 = .ok (.putfield 106, 3) := by decide +kernel
theorem d_E_granted_5 : decode b_E_granted 5 = .ok (.iload_n 1, 1) := by decide +kernel
theorem d_E_granted_6 : decode b_E_granted 6 = .ok (.ireturn, 1) := by decide +kernel
theorem mf_E_granted : zMF y_E_granted b_E_granted 2 (some .int) 1 := ⟨zGW_in 513 (by decide +kernel) (by decide +kernel), zGW_in 124 (by decide +kernel) (by decide +kernel), by decide +kernel⟩
theorem in_E_granted : Cond.instanceMethod y_E_granted ∈ zGW := zGW_in 512 (by decide +kernel) (by decide +kernel)
theorem se_E_granted : Cond.selects y_E_granted.cls y_E_granted y_E_granted ∈ zGW := zGW_in 2 (by decide +kernel) (by decide +kernel)
def y_E_spring : MethodName := ⟨zNm 0, "spring", "(II)I"⟩
abbrev b_E_spring : ByteArray := prog_1_method_2_code
theorem d_E_spring_0 : decode b_E_spring 0 = .ok (.iload_n 1, 1) := by decide +kernel
theorem d_E_spring_1 : decode b_E_spring 1 = .ok (.ifCond .lt 19, 3) := by decide +kernel
theorem d_E_spring_4 : decode b_E_spring 4 = .ok (.iload_n 1, 1) := by decide +kernel
theorem d_E_spring_5 : decode b_E_spring 5 = .ok (.bipush 9, 2) := by decide +kernel
theorem d_E_spring_7 : decode b_E_spring 7 = .ok (.if_icmp .gt 13, 3) := by decide +kernel
theorem d_E_spring_10 : decode b_E_spring 10 = .ok (.iload_n 2, 1) := by decide +kernel
theorem d_E_spring_11 : decode b_E_spring 11 = .ok (.ifCond .lt 9, 3) := by decide +kernel
theorem d_E_spring_14 : decode b_E_spring 14 = .ok (.iload_n 2, 1) := by decide +kernel
theorem d_E_spring_15 : decode b_E_spring 15 = .ok (.bipush 9, 2) := by decide +kernel
theorem d_E_spring_17 : decode b_E_spring 17 = .ok (.if_icmp .le 9, 3) := by decide +kernel
theorem d_E_spring_20 : decode b_E_spring 20 = .ok (.aload_n 0, 1) := by decide +kernel
theorem d_E_spring_21 : decode b_E_spring 21 = .ok (.iconst (-1), 1) := by decide +kernel
theorem d_E_spring_22 : decode b_E_spring 22 = .ok (.invokevirtual 109, 3) := by decide +kernel
theorem d_E_spring_25 : decode b_E_spring 25 = .ok (.ireturn, 1) := by decide +kernel
theorem d_E_spring_26 : decode b_E_spring 26 = .ok (.aload_n 0, 1) := by decide +kernel
theorem d_E_spring_27 : decode b_E_spring 27 = .ok (.getfield 12, 3) := by decide +kernel
theorem d_E_spring_30 : decode b_E_spring 30 = .ok (.getfield 113, 3) := by decide +kernel
theorem d_E_spring_33 : decode b_E_spring 33 = .ok (.bipush 9, 2) := by decide +kernel
theorem d_E_spring_35 : decode b_E_spring 35 = .ok (.if_icmp .lt 10, 3) := by decide +kernel
theorem d_E_spring_38 : decode b_E_spring 38 = .ok (.aload_n 0, 1) := by decide +kernel
theorem d_E_spring_39 : decode b_E_spring 39 = .ok (.bipush (-5), 2) := by decide +kernel
theorem d_E_spring_41 : decode b_E_spring 41 = .ok (.invokevirtual 109, 3) := by decide +kernel
theorem d_E_spring_44 : decode b_E_spring 44 = .ok (.ireturn, 1) := by decide +kernel
theorem d_E_spring_45 : decode b_E_spring 45 = .ok (.aload_n 0, 1) := by decide +kernel
theorem d_E_spring_46 : decode b_E_spring 46 = .ok (.getfield 29, 3) := by decide +kernel
theorem d_E_spring_49 : decode b_E_spring 49 = .ok (.invokevirtual 116, 3) := by decide +kernel
theorem d_E_spring_52 : decode b_E_spring 52 = .ok (.aload_n 0, 1) := by decide +kernel
theorem d_E_spring_53 : decode b_E_spring 53 = .ok (.aload_n 0, 1) := by decide +kernel
theorem d_E_spring_54 : decode b_E_spring 54 = .ok (.getfield 12, 3) := by decide +kernel
theorem d_E_spring_57 : decode b_E_spring 57 = .ok (.iload_n 1, 1) := by decide +kernel
theorem d_E_spring_58 : decode b_E_spring 58 = .ok (.iload_n 2, 1) := by decide +kernel
theorem d_E_spring_59 : decode b_E_spring 59 = .ok (.invokevirtual 119, 3) := by decide +kernel
theorem d_E_spring_62 : decode b_E_spring 62 = .ok (.invokevirtual 123, 3) := by decide +kernel
theorem d_E_spring_65 : decode b_E_spring 65 = .ok (.ireturn, 1) := by decide +kernel
theorem mf_E_spring : zMF y_E_spring b_E_spring 3 (some .int) 2 := ⟨zGW_in 491 (by decide +kernel) (by decide +kernel), zGW_in 124 (by decide +kernel) (by decide +kernel), by decide +kernel⟩
theorem in_E_spring : Cond.instanceMethod y_E_spring ∈ zGW := zGW_in 489 (by decide +kernel) (by decide +kernel)
theorem se_E_spring : Cond.selects y_E_spring.cls y_E_spring y_E_spring ∈ zGW := zGW_in 490 (by decide +kernel) (by decide +kernel)
def y_Ps_has : MethodName := ⟨zNm 5, "has", "(I)Z"⟩
abbrev b_Ps_has : ByteArray := prog_6_method_3_code
theorem d_Ps_has_0 : decode b_Ps_has 0 = .ok (.iload_n 1, 1) := by decide +kernel
theorem d_Ps_has_1 : decode b_Ps_has 1 = .ok (.ifCond .lt 15, 3) := by decide +kernel
theorem d_Ps_has_4 : decode b_Ps_has 4 = .ok (.iload_n 1, 1) := by decide +kernel
theorem d_Ps_has_5 : decode b_Ps_has 5 = .ok (.aload_n 0, 1) := by decide +kernel
theorem d_Ps_has_6 : decode b_Ps_has 6 = .ok (.getfield 9, 3) := by decide +kernel
theorem d_Ps_has_9 : decode b_Ps_has 9 = .ok (.if_icmp .ge 7, 3) := by decide +kernel
theorem d_Ps_has_12 : decode b_Ps_has 12 = .ok (.iconst 1, 1) := by decide +kernel
theorem d_Ps_has_13 : decode b_Ps_has 13 = .ok (.goto 4, 3) := by decide +kernel
theorem d_Ps_has_16 : decode b_Ps_has 16 = .ok (.iconst 0, 1) := by decide +kernel
theorem d_Ps_has_17 : decode b_Ps_has 17 = .ok (.ireturn, 1) := by decide +kernel
theorem mf_Ps_has : zMF y_Ps_has b_Ps_has 2 (some .boolean) 1 := ⟨zGW_in 521 (by decide +kernel) (by decide +kernel), zGW_in 125 (by decide +kernel) (by decide +kernel), by decide +kernel⟩
theorem in_Ps_has : Cond.instanceMethod y_Ps_has ∈ zGW := zGW_in 519 (by decide +kernel) (by decide +kernel)
theorem se_Ps_has : Cond.selects y_Ps_has.cls y_Ps_has y_Ps_has ∈ zGW := zGW_in 520 (by decide +kernel) (by decide +kernel)
def y_Ps_pairOf : MethodName := ⟨zNm 5, "pairOf", "(II)I"⟩
abbrev b_Ps_pairOf : ByteArray := prog_6_method_9_code
theorem d_Ps_pairOf_0 : decode b_Ps_pairOf 0 = .ok (.iload_n 1, 1) := by decide +kernel
theorem d_Ps_pairOf_1 : decode b_Ps_pairOf 1 = .ok (.iload_n 2, 1) := by decide +kernel
theorem d_Ps_pairOf_2 : decode b_Ps_pairOf 2 = .ok (.if_icmp .eq 27, 3) := by decide +kernel
theorem d_Ps_pairOf_5 : decode b_Ps_pairOf 5 = .ok (.iload_n 1, 1) := by decide +kernel
theorem d_Ps_pairOf_6 : decode b_Ps_pairOf 6 = .ok (.ifCond .lt 23, 3) := by decide +kernel
theorem d_Ps_pairOf_9 : decode b_Ps_pairOf 9 = .ok (.iload_n 2, 1) := by decide +kernel
theorem d_Ps_pairOf_10 : decode b_Ps_pairOf 10 = .ok (.ifCond .lt 19, 3) := by decide +kernel
theorem d_Ps_pairOf_13 : decode b_Ps_pairOf 13 = .ok (.iload_n 1, 1) := by decide +kernel
theorem d_Ps_pairOf_14 : decode b_Ps_pairOf 14 = .ok (.aload_n 0, 1) := by decide +kernel
theorem d_Ps_pairOf_15 : decode b_Ps_pairOf 15 = .ok (.getfield 9, 3) := by decide +kernel
theorem d_Ps_pairOf_18 : decode b_Ps_pairOf 18 = .ok (.if_icmp .ge 11, 3) := by decide +kernel
theorem d_Ps_pairOf_21 : decode b_Ps_pairOf 21 = .ok (.iload_n 2, 1) := by decide +kernel
theorem d_Ps_pairOf_22 : decode b_Ps_pairOf 22 = .ok (.aload_n 0, 1) := by decide +kernel
theorem d_Ps_pairOf_23 : decode b_Ps_pairOf 23 = .ok (.getfield 9, 3) := by decide +kernel
theorem d_Ps_pairOf_26 : decode b_Ps_pairOf 26 = .ok (.if_icmp .lt 5, 3) := by decide +kernel
theorem d_Ps_pairOf_29 : decode b_Ps_pairOf 29 = .ok (.iconst (-1), 1) := by decide +kernel
theorem d_Ps_pairOf_30 : decode b_Ps_pairOf 30 = .ok (.ireturn, 1) := by decide +kernel
theorem d_Ps_pairOf_31 : decode b_Ps_pairOf 31 = .ok (.iload_n 1, 1) := by decide +kernel
theorem d_Ps_pairOf_32 : decode b_Ps_pairOf 32 = .ok (.iload_n 2, 1) := by decide +kernel
theorem d_Ps_pairOf_33 : decode b_Ps_pairOf 33 = .ok (.if_icmp .le 7, 3) := by decide +kernel
theorem d_Ps_pairOf_36 : decode b_Ps_pairOf 36 = .ok (.iload_n 1, 1) := by decide +kernel
theorem d_Ps_pairOf_37 : decode b_Ps_pairOf 37 = .ok (.goto 4, 3) := by decide +kernel
theorem d_Ps_pairOf_40 : decode b_Ps_pairOf 40 = .ok (.iload_n 2, 1) := by decide +kernel
theorem d_Ps_pairOf_41 : decode b_Ps_pairOf 41 = .ok (.istore_n 3, 1) := by decide +kernel
theorem d_Ps_pairOf_42 : decode b_Ps_pairOf 42 = .ok (.iload_n 1, 1) := by decide +kernel
theorem d_Ps_pairOf_43 : decode b_Ps_pairOf 43 = .ok (.iload_n 2, 1) := by decide +kernel
theorem d_Ps_pairOf_44 : decode b_Ps_pairOf 44 = .ok (.if_icmp .le 7, 3) := by decide +kernel
theorem d_Ps_pairOf_47 : decode b_Ps_pairOf 47 = .ok (.iload_n 2, 1) := by decide +kernel
theorem d_Ps_pairOf_48 : decode b_Ps_pairOf 48 = .ok (.goto 4, 3) := by decide +kernel
theorem d_Ps_pairOf_51 : decode b_Ps_pairOf 51 = .ok (.iload_n 1, 1) := by decide +kernel
theorem d_Ps_pairOf_52 : decode b_Ps_pairOf 52 = .ok (.istore 4, 2) := by decide +kernel
theorem d_Ps_pairOf_54 : decode b_Ps_pairOf 54 = .ok (.iload_n 3, 1) := by decide +kernel
theorem d_Ps_pairOf_55 : decode b_Ps_pairOf 55 = .ok (.iload_n 3, 1) := by decide +kernel
theorem d_Ps_pairOf_56 : decode b_Ps_pairOf 56 = .ok (.iconst 1, 1) := by decide +kernel
theorem d_Ps_pairOf_57 : decode b_Ps_pairOf 57 = .ok (.isub, 1) := by decide +kernel
theorem d_Ps_pairOf_58 : decode b_Ps_pairOf 58 = .ok (.imul, 1) := by decide +kernel
theorem d_Ps_pairOf_59 : decode b_Ps_pairOf 59 = .ok (.iconst 2, 1) := by decide +kernel
theorem d_Ps_pairOf_60 : decode b_Ps_pairOf 60 = .ok (.idiv, 1) := by decide +kernel
theorem d_Ps_pairOf_61 : decode b_Ps_pairOf 61 = .ok (.iload 4, 2) := by decide +kernel
theorem d_Ps_pairOf_63 : decode b_Ps_pairOf 63 = .ok (.iadd, 1) := by decide +kernel
theorem d_Ps_pairOf_64 : decode b_Ps_pairOf 64 = .ok (.ireturn, 1) := by decide +kernel
theorem mf_Ps_pairOf : zMF y_Ps_pairOf b_Ps_pairOf 5 (some .int) 2 := ⟨zGW_in 529 (by decide +kernel) (by decide +kernel), zGW_in 125 (by decide +kernel) (by decide +kernel), by decide +kernel⟩
theorem in_Ps_pairOf : Cond.instanceMethod y_Ps_pairOf ∈ zGW := zGW_in 527 (by decide +kernel) (by decide +kernel)
theorem se_Ps_pairOf : Cond.selects y_Ps_pairOf.cls y_Ps_pairOf y_Ps_pairOf ∈ zGW := zGW_in 528 (by decide +kernel) (by decide +kernel)
def y_Ps_dig : MethodName := ⟨zNm 5, "dig", "(III)I"⟩
abbrev b_Ps_dig : ByteArray := prog_6_method_12_code
theorem d_Ps_dig_0 : decode b_Ps_dig 0 = .ok (.aload_n 0, 1) := by decide +kernel
theorem d_Ps_dig_1 : decode b_Ps_dig 1 = .ok (.iload_n 1, 1) := by decide +kernel
theorem d_Ps_dig_2 : decode b_Ps_dig 2 = .ok (.iload_n 2, 1) := by decide +kernel
theorem d_Ps_dig_3 : decode b_Ps_dig 3 = .ok (.invokevirtual 80, 3) := by decide +kernel
theorem d_Ps_dig_6 : decode b_Ps_dig 6 = .ok (.istore 4, 2) := by decide +kernel
theorem d_Ps_dig_8 : decode b_Ps_dig 8 = .ok (.iload 4, 2) := by decide +kernel
theorem d_Ps_dig_10 : decode b_Ps_dig 10 = .ok (.ifCond .lt 13, 3) := by decide +kernel
theorem d_Ps_dig_13 : decode b_Ps_dig 13 = .ok (.iload 4, 2) := by decide +kernel
theorem d_Ps_dig_15 : decode b_Ps_dig 15 = .ok (.aload_n 0, 1) := by decide +kernel
theorem d_Ps_dig_16 : decode b_Ps_dig 16 = .ok (.getfield 19, 3) := by decide +kernel
theorem d_Ps_dig_19 : decode b_Ps_dig 19 = .ok (.arraylength, 1) := by decide +kernel
theorem d_Ps_dig_20 : decode b_Ps_dig 20 = .ok (.if_icmp .lt 5, 3) := by decide +kernel
theorem d_Ps_dig_23 : decode b_Ps_dig 23 = .ok (.iconst 0, 1) := by decide +kernel
theorem d_Ps_dig_24 : decode b_Ps_dig 24 = .ok (.ireturn, 1) := by decide +kernel
theorem d_Ps_dig_25 : decode b_Ps_dig 25 = .ok (.aload_n 0, 1) := by decide +kernel
theorem d_Ps_dig_26 : decode b_Ps_dig 26 = .ok (.getfield 19, 3) := by decide +kernel
theorem d_Ps_dig_29 : decode b_Ps_dig 29 = .ok (.iload 4, 2) := by decide +kernel
theorem d_Ps_dig_31 : decode b_Ps_dig 31 = .ok (.iaload, 1) := by decide +kernel
theorem d_Ps_dig_32 : decode b_Ps_dig 32 = .ok (.istore 5, 2) := by decide +kernel
theorem d_Ps_dig_34 : decode b_Ps_dig 34 = .ok (.aload_n 0, 1) := by decide +kernel
theorem d_Ps_dig_35 : decode b_Ps_dig 35 = .ok (.getfield 19, 3) := by decide +kernel
theorem d_Ps_dig_38 : decode b_Ps_dig 38 = .ok (.iload 4, 2) := by decide +kernel
theorem d_Ps_dig_40 : decode b_Ps_dig 40 = .ok (.iload_n 3, 1) := by decide +kernel
theorem d_Ps_dig_41 : decode b_Ps_dig 41 = .ok (.iastore, 1) := by decide +kernel
theorem d_Ps_dig_42 : decode b_Ps_dig 42 = .ok (.aload_n 0, 1) := by decide +kernel
theorem d_Ps_dig_43 : decode b_Ps_dig 43 = .ok (.dup, 1) := by decide +kernel
theorem d_Ps_dig_44 : decode b_Ps_dig 44 = .ok (.getfield 26, 3) := by decide +kernel
theorem d_Ps_dig_47 : decode b_Ps_dig 47 = .ok (.lconst 1, 1) := by decide +kernel
theorem d_Ps_dig_48 : decode b_Ps_dig 48 = .ok (.iload 4, 2) := by decide +kernel
theorem d_Ps_dig_50 : decode b_Ps_dig 50 = .ok (.lshl, 1) := by decide +kernel
theorem d_Ps_dig_51 : decode b_Ps_dig 51 = .ok (.ldc2_w 78, 3) := by decide +kernel
theorem d_Ps_dig_54 : decode b_Ps_dig 54 = .ok (.lxor, 1) := by decide +kernel
theorem d_Ps_dig_55 : decode b_Ps_dig 55 = .ok (.land, 1) := by decide +kernel
theorem d_Ps_dig_56 : decode b_Ps_dig 56 = .ok (.putfield 26, 3) := by decide +kernel
theorem d_Ps_dig_59 : decode b_Ps_dig 59 = .ok (.iload 5, 2) := by decide +kernel
theorem d_Ps_dig_61 : decode b_Ps_dig 61 = .ok (.ireturn, 1) := by decide +kernel
theorem mf_Ps_dig : zMF y_Ps_dig b_Ps_dig 6 (some .int) 3 := ⟨zGW_in 525 (by decide +kernel) (by decide +kernel), zGW_in 125 (by decide +kernel) (by decide +kernel), by decide +kernel⟩
theorem in_Ps_dig : Cond.instanceMethod y_Ps_dig ∈ zGW := zGW_in 523 (by decide +kernel) (by decide +kernel)
theorem se_Ps_dig : Cond.selects y_Ps_dig.cls y_Ps_dig y_Ps_dig ∈ zGW := zGW_in 524 (by decide +kernel) (by decide +kernel)
def y_E_channel : MethodName := ⟨zNm 0, "channel", "(III)I"⟩
abbrev b_E_channel : ByteArray := prog_1_method_3_code
theorem d_E_channel_0 : decode b_E_channel 0 = .ok (.iload_n 1, 1) := by decide +kernel
theorem d_E_channel_1 : decode b_E_channel 1 = .ok (.iload_n 2, 1) := by decide +kernel
theorem d_E_channel_2 : decode b_E_channel 2 = .ok (.if_icmp .eq 13, 3) := by decide +kernel
theorem d_E_channel_5 : decode b_E_channel 5 = .ok (.iload_n 3, 1) := by decide +kernel
theorem d_E_channel_6 : decode b_E_channel 6 = .ok (.ifCond .lt 9, 3) := by decide +kernel
theorem d_E_channel_9 : decode b_E_channel 9 = .ok (.iload_n 3, 1) := by decide +kernel
theorem d_E_channel_10 : decode b_E_channel 10 = .ok (.bipush 50, 2) := by decide +kernel
theorem d_E_channel_12 : decode b_E_channel 12 = .ok (.if_icmp .le 9, 3) := by decide +kernel
theorem d_E_channel_15 : decode b_E_channel 15 = .ok (.aload_n 0, 1) := by decide +kernel
theorem d_E_channel_16 : decode b_E_channel 16 = .ok (.iconst (-1), 1) := by decide +kernel
theorem d_E_channel_17 : decode b_E_channel 17 = .ok (.invokevirtual 109, 3) := by decide +kernel
theorem d_E_channel_20 : decode b_E_channel 20 = .ok (.ireturn, 1) := by decide +kernel
theorem d_E_channel_21 : decode b_E_channel 21 = .ok (.aload_n 0, 1) := by decide +kernel
theorem d_E_channel_22 : decode b_E_channel 22 = .ok (.getfield 12, 3) := by decide +kernel
theorem d_E_channel_25 : decode b_E_channel 25 = .ok (.iload_n 1, 1) := by decide +kernel
theorem d_E_channel_26 : decode b_E_channel 26 = .ok (.invokevirtual 126, 3) := by decide +kernel
theorem d_E_channel_29 : decode b_E_channel 29 = .ok (.ifCond .eq 14, 3) := by decide +kernel
theorem d_E_channel_32 : decode b_E_channel 32 = .ok (.aload_n 0, 1) := by decide +kernel
theorem d_E_channel_33 : decode b_E_channel 33 = .ok (.getfield 12, 3) := by decide +kernel
theorem d_E_channel_36 : decode b_E_channel 36 = .ok (.iload_n 2, 1) := by decide +kernel
theorem d_E_channel_37 : decode b_E_channel 37 = .ok (.invokevirtual 126, 3) := by decide +kernel
theorem d_E_channel_40 : decode b_E_channel 40 = .ok (.ifCond .ne 10, 3) := by decide +kernel
theorem d_E_channel_43 : decode b_E_channel 43 = .ok (.aload_n 0, 1) := by decide +kernel
theorem d_E_channel_44 : decode b_E_channel 44 = .ok (.bipush (-2), 2) := by decide +kernel
theorem d_E_channel_46 : decode b_E_channel 46 = .ok (.invokevirtual 109, 3) := by decide +kernel
theorem d_E_channel_49 : decode b_E_channel 49 = .ok (.ireturn, 1) := by decide +kernel
theorem d_E_channel_50 : decode b_E_channel 50 = .ok (.aload_n 0, 1) := by decide +kernel
theorem d_E_channel_51 : decode b_E_channel 51 = .ok (.getfield 29, 3) := by decide +kernel
theorem d_E_channel_54 : decode b_E_channel 54 = .ok (.invokevirtual 116, 3) := by decide +kernel
theorem d_E_channel_57 : decode b_E_channel 57 = .ok (.aload_n 0, 1) := by decide +kernel
theorem d_E_channel_58 : decode b_E_channel 58 = .ok (.aload_n 0, 1) := by decide +kernel
theorem d_E_channel_59 : decode b_E_channel 59 = .ok (.getfield 12, 3) := by decide +kernel
theorem d_E_channel_62 : decode b_E_channel 62 = .ok (.iload_n 1, 1) := by decide +kernel
theorem d_E_channel_63 : decode b_E_channel 63 = .ok (.iload_n 2, 1) := by decide +kernel
theorem d_E_channel_64 : decode b_E_channel 64 = .ok (.iload_n 3, 1) := by decide +kernel
theorem d_E_channel_65 : decode b_E_channel 65 = .ok (.invokevirtual 130, 3) := by decide +kernel
theorem d_E_channel_68 : decode b_E_channel 68 = .ok (.invokevirtual 123, 3) := by decide +kernel
theorem d_E_channel_71 : decode b_E_channel 71 = .ok (.ireturn, 1) := by decide +kernel
theorem mf_E_channel : zMF y_E_channel b_E_channel 4 (some .int) 3 := ⟨zGW_in 517 (by decide +kernel) (by decide +kernel), zGW_in 124 (by decide +kernel) (by decide +kernel), by decide +kernel⟩
theorem in_E_channel : Cond.instanceMethod y_E_channel ∈ zGW := zGW_in 515 (by decide +kernel) (by decide +kernel)
theorem se_E_channel : Cond.selects y_E_channel.cls y_E_channel y_E_channel ∈ zGW := zGW_in 516 (by decide +kernel) (by decide +kernel)
def y_Ps_levelOf : MethodName := ⟨zNm 5, "levelOf", "(I)I"⟩
abbrev b_Ps_levelOf : ByteArray := prog_6_method_6_code
theorem d_Ps_levelOf_0 : decode b_Ps_levelOf 0 = .ok (.iload_n 1, 1) := by decide +kernel
theorem d_Ps_levelOf_1 : decode b_Ps_levelOf 1 = .ok (.ifCond .lt 21, 3) := by decide +kernel
theorem d_Ps_levelOf_4 : decode b_Ps_levelOf 4 = .ok (.iload_n 1, 1) := by decide +kernel
theorem d_Ps_levelOf_5 : decode b_Ps_levelOf 5 = .ok (.aload_n 0, 1) := by decide +kernel
theorem d_Ps_levelOf_6 : decode b_Ps_levelOf 6 = .ok (.getfield 15, 3) := by decide +kernel
theorem d_Ps_levelOf_9 : decode b_Ps_levelOf 9 = .ok (.arraylength, 1) := by decide +kernel
theorem d_Ps_levelOf_10 : decode b_Ps_levelOf 10 = .ok (.if_icmp .ge 12, 3) := by decide +kernel
theorem d_Ps_levelOf_13 : decode b_Ps_levelOf 13 = .ok (.aload_n 0, 1) := by decide +kernel
theorem d_Ps_levelOf_14 : decode b_Ps_levelOf 14 = .ok (.getfield 15, 3) := by decide +kernel
theorem d_Ps_levelOf_17 : decode b_Ps_levelOf 17 = .ok (.iload_n 1, 1) := by decide +kernel
theorem d_Ps_levelOf_18 : decode b_Ps_levelOf 18 = .ok (.iaload, 1) := by decide +kernel
theorem d_Ps_levelOf_19 : decode b_Ps_levelOf 19 = .ok (.goto 4, 3) := by decide +kernel
theorem d_Ps_levelOf_22 : decode b_Ps_levelOf 22 = .ok (.iconst 0, 1) := by decide +kernel
theorem d_Ps_levelOf_23 : decode b_Ps_levelOf 23 = .ok (.ireturn, 1) := by decide +kernel
theorem mf_Ps_levelOf : zMF y_Ps_levelOf b_Ps_levelOf 2 (some .int) 1 := ⟨zGW_in 537 (by decide +kernel) (by decide +kernel), zGW_in 125 (by decide +kernel) (by decide +kernel), by decide +kernel⟩
theorem in_Ps_levelOf : Cond.instanceMethod y_Ps_levelOf ∈ zGW := zGW_in 535 (by decide +kernel) (by decide +kernel)
theorem se_Ps_levelOf : Cond.selects y_Ps_levelOf.cls y_Ps_levelOf y_Ps_levelOf ∈ zGW := zGW_in 536 (by decide +kernel) (by decide +kernel)
def y_Ps_mudOf : MethodName := ⟨zNm 5, "mudOf", "(I)I"⟩
abbrev b_Ps_mudOf : ByteArray := prog_6_method_7_code
theorem d_Ps_mudOf_0 : decode b_Ps_mudOf 0 = .ok (.iload_n 1, 1) := by decide +kernel
theorem d_Ps_mudOf_1 : decode b_Ps_mudOf 1 = .ok (.ifCond .lt 26, 3) := by decide +kernel
theorem d_Ps_mudOf_4 : decode b_Ps_mudOf 4 = .ok (.iload_n 1, 1) := by decide +kernel
theorem d_Ps_mudOf_5 : decode b_Ps_mudOf 5 = .ok (.aload_n 0, 1) := by decide +kernel
theorem d_Ps_mudOf_6 : decode b_Ps_mudOf 6 = .ok (.getfield 9, 3) := by decide +kernel
theorem d_Ps_mudOf_9 : decode b_Ps_mudOf 9 = .ok (.if_icmp .ge 18, 3) := by decide +kernel
theorem d_Ps_mudOf_12 : decode b_Ps_mudOf 12 = .ok (.aload_n 0, 1) := by decide +kernel
theorem d_Ps_mudOf_13 : decode b_Ps_mudOf 13 = .ok (.getfield 22, 3) := by decide +kernel
theorem d_Ps_mudOf_16 : decode b_Ps_mudOf 16 = .ok (.iconst 4, 1) := by decide +kernel
theorem d_Ps_mudOf_17 : decode b_Ps_mudOf 17 = .ok (.iload_n 1, 1) := by decide +kernel
theorem d_Ps_mudOf_18 : decode b_Ps_mudOf 18 = .ok (.imul, 1) := by decide +kernel
theorem d_Ps_mudOf_19 : decode b_Ps_mudOf 19 = .ok (.lushr, 1) := by decide +kernel
theorem d_Ps_mudOf_20 : decode b_Ps_mudOf 20 = .ok (.l2i, 1) := by decide +kernel
theorem d_Ps_mudOf_21 : decode b_Ps_mudOf 21 = .ok (.bipush 15, 2) := by decide +kernel
theorem d_Ps_mudOf_23 : decode b_Ps_mudOf 23 = .ok (.iand, 1) := by decide +kernel
theorem d_Ps_mudOf_24 : decode b_Ps_mudOf 24 = .ok (.goto 4, 3) := by decide +kernel
theorem d_Ps_mudOf_27 : decode b_Ps_mudOf 27 = .ok (.iconst (-1), 1) := by decide +kernel
theorem d_Ps_mudOf_28 : decode b_Ps_mudOf 28 = .ok (.ireturn, 1) := by decide +kernel
theorem mf_Ps_mudOf : zMF y_Ps_mudOf b_Ps_mudOf 2 (some .int) 1 := ⟨zGW_in 541 (by decide +kernel) (by decide +kernel), zGW_in 125 (by decide +kernel) (by decide +kernel), by decide +kernel⟩
theorem in_Ps_mudOf : Cond.instanceMethod y_Ps_mudOf ∈ zGW := zGW_in 539 (by decide +kernel) (by decide +kernel)
theorem se_Ps_mudOf : Cond.selects y_Ps_mudOf.cls y_Ps_mudOf y_Ps_mudOf ∈ zGW := zGW_in 540 (by decide +kernel) (by decide +kernel)
def y_Ps_lawOf : MethodName := ⟨zNm 5, "lawOf", "(I)LEelClerk$Text;"⟩
abbrev b_Ps_lawOf : ByteArray := prog_6_method_19_code
theorem d_Ps_lawOf_0 : decode b_Ps_lawOf 0 = .ok (.iload_n 1, 1) := by decide +kernel
theorem d_Ps_lawOf_1 : decode b_Ps_lawOf 1 = .ok (.ifCond .lt 29, 3) := by decide +kernel
theorem d_Ps_lawOf_4 : decode b_Ps_lawOf 4 = .ok (.iload_n 1, 1) := by decide +kernel
theorem d_Ps_lawOf_5 : decode b_Ps_lawOf 5 = .ok (.aload_n 0, 1) := by decide +kernel
theorem d_Ps_lawOf_6 : decode b_Ps_lawOf 6 = .ok (.getfield 50, 3) := by decide +kernel
theorem d_Ps_lawOf_9 : decode b_Ps_lawOf 9 = .ok (.if_icmp .ge 21, 3) := by decide +kernel
theorem d_Ps_lawOf_12 : decode b_Ps_lawOf 12 = .ok (.iload_n 1, 1) := by decide +kernel
theorem d_Ps_lawOf_13 : decode b_Ps_lawOf 13 = .ok (.aload_n 0, 1) := by decide +kernel
theorem d_Ps_lawOf_14 : decode b_Ps_lawOf 14 = .ok (.getfield 55, 3) := by decide +kernel
theorem d_Ps_lawOf_17 : decode b_Ps_lawOf 17 = .ok (.arraylength, 1) := by decide +kernel
theorem d_Ps_lawOf_18 : decode b_Ps_lawOf 18 = .ok (.if_icmp .ge 12, 3) := by decide +kernel
theorem d_Ps_lawOf_21 : decode b_Ps_lawOf 21 = .ok (.aload_n 0, 1) := by decide +kernel
theorem d_Ps_lawOf_22 : decode b_Ps_lawOf 22 = .ok (.getfield 55, 3) := by decide +kernel
theorem d_Ps_lawOf_25 : decode b_Ps_lawOf 25 = .ok (.iload_n 1, 1) := by decide +kernel
theorem d_Ps_lawOf_26 : decode b_Ps_lawOf 26 = .ok (.aaload, 1) := by decide +kernel
theorem d_Ps_lawOf_27 : decode b_Ps_lawOf 27 = .ok (.goto 4, 3) := by decide +kernel
theorem d_Ps_lawOf_30 : decode b_Ps_lawOf 30 = .ok (.aconst_null, 1) := by decide +kernel
theorem d_Ps_lawOf_31 : decode b_Ps_lawOf 31 = .ok (.areturn, 1) := by decide +kernel
theorem mf_Ps_lawOf : zMF y_Ps_lawOf b_Ps_lawOf 2 (some (.object "EelClerk$Text")) 1 := ⟨zGW_in 549 (by decide +kernel) (by decide +kernel), zGW_in 125 (by decide +kernel) (by decide +kernel), by decide +kernel⟩
theorem in_Ps_lawOf : Cond.instanceMethod y_Ps_lawOf ∈ zGW := zGW_in 547 (by decide +kernel) (by decide +kernel)
theorem se_Ps_lawOf : Cond.selects y_Ps_lawOf.cls y_Ps_lawOf y_Ps_lawOf ∈ zGW := zGW_in 548 (by decide +kernel) (by decide +kernel)
def y_Ps_lawInForce : MethodName := ⟨zNm 5, "lawInForce", "()LEelClerk$Text;"⟩
abbrev b_Ps_lawInForce : ByteArray := prog_6_method_20_code
theorem d_Ps_lawInForce_0 : decode b_Ps_lawInForce 0 = .ok (.aload_n 0, 1) := by decide +kernel
theorem d_Ps_lawInForce_1 : decode b_Ps_lawInForce 1 = .ok (.aload_n 0, 1) := by decide +kernel
theorem d_Ps_lawInForce_2 : decode b_Ps_lawInForce 2 = .ok (.getfield 59, 3) := by decide +kernel
theorem d_Ps_lawInForce_5 : decode b_Ps_lawInForce 5 = .ok (.invokevirtual 84, 3) := by decide +kernel
theorem d_Ps_lawInForce_8 : decode b_Ps_lawInForce 8 = .ok (.areturn, 1) := by decide +kernel
theorem mf_Ps_lawInForce : zMF y_Ps_lawInForce b_Ps_lawInForce 1 (some (.object "EelClerk$Text")) 0 := ⟨zGW_in 545 (by decide +kernel) (by decide +kernel), zGW_in 125 (by decide +kernel) (by decide +kernel), by decide +kernel⟩
theorem in_Ps_lawInForce : Cond.instanceMethod y_Ps_lawInForce ∈ zGW := zGW_in 543 (by decide +kernel) (by decide +kernel)
theorem se_Ps_lawInForce : Cond.selects y_Ps_lawInForce.cls y_Ps_lawInForce y_Ps_lawInForce ∈ zGW := zGW_in 544 (by decide +kernel) (by decide +kernel)
def y_Ps_tellSpring : MethodName := ⟨zNm 5, "tellSpring", "(I[I)V"⟩
abbrev b_Ps_tellSpring : ByteArray := prog_6_method_22_code
theorem d_Ps_tellSpring_0 : decode b_Ps_tellSpring 0 = .ok (.aload_n 2, 1) := by decide +kernel
theorem d_Ps_tellSpring_1 : decode b_Ps_tellSpring 1 = .ok (.arraylength, 1) := by decide +kernel
theorem d_Ps_tellSpring_2 : decode b_Ps_tellSpring 2 = .ok (.bipush 7, 2) := by decide +kernel
theorem d_Ps_tellSpring_4 : decode b_Ps_tellSpring 4 = .ok (.if_icmp .ge 4, 3) := by decide +kernel
theorem d_Ps_tellSpring_7 : decode b_Ps_tellSpring 7 = .ok (.return_, 1) := by decide +kernel
theorem d_Ps_tellSpring_8 : decode b_Ps_tellSpring 8 = .ok (.aload_n 2, 1) := by decide +kernel
theorem d_Ps_tellSpring_9 : decode b_Ps_tellSpring 9 = .ok (.iconst 0, 1) := by decide +kernel
theorem d_Ps_tellSpring_10 : decode b_Ps_tellSpring 10 = .ok (.iload_n 1, 1) := by decide +kernel
theorem d_Ps_tellSpring_11 : decode b_Ps_tellSpring 11 = .ok (.iastore, 1) := by decide +kernel
theorem d_Ps_tellSpring_12 : decode b_Ps_tellSpring 12 = .ok (.aload_n 2, 1) := by decide +kernel
theorem d_Ps_tellSpring_13 : decode b_Ps_tellSpring 13 = .ok (.iconst 1, 1) := by decide +kernel
theorem d_Ps_tellSpring_14 : decode b_Ps_tellSpring 14 = .ok (.iconst (-1), 1) := by decide +kernel
theorem d_Ps_tellSpring_15 : decode b_Ps_tellSpring 15 = .ok (.iastore, 1) := by decide +kernel
theorem d_Ps_tellSpring_16 : decode b_Ps_tellSpring 16 = .ok (.aload_n 2, 1) := by decide +kernel
theorem d_Ps_tellSpring_17 : decode b_Ps_tellSpring 17 = .ok (.iconst 2, 1) := by decide +kernel
theorem d_Ps_tellSpring_18 : decode b_Ps_tellSpring 18 = .ok (.iconst (-1), 1) := by decide +kernel
theorem d_Ps_tellSpring_19 : decode b_Ps_tellSpring 19 = .ok (.iastore, 1) := by decide +kernel
theorem d_Ps_tellSpring_20 : decode b_Ps_tellSpring 20 = .ok (.aload_n 2, 1) := by decide +kernel
theorem d_Ps_tellSpring_21 : decode b_Ps_tellSpring 21 = .ok (.iconst 3, 1) := by decide +kernel
theorem d_Ps_tellSpring_22 : decode b_Ps_tellSpring 22 = .ok (.iconst 0, 1) := by decide +kernel
theorem d_Ps_tellSpring_23 : decode b_Ps_tellSpring 23 = .ok (.iastore, 1) := by decide +kernel
theorem d_Ps_tellSpring_24 : decode b_Ps_tellSpring 24 = .ok (.aload_n 2, 1) := by decide +kernel
theorem d_Ps_tellSpring_25 : decode b_Ps_tellSpring 25 = .ok (.iconst 4, 1) := by decide +kernel
theorem d_Ps_tellSpring_26 : decode b_Ps_tellSpring 26 = .ok (.aload_n 0, 1) := by decide +kernel
theorem d_Ps_tellSpring_27 : decode b_Ps_tellSpring 27 = .ok (.iload_n 1, 1) := by decide +kernel
theorem d_Ps_tellSpring_28 : decode b_Ps_tellSpring 28 = .ok (.invokevirtual 95, 3) := by decide +kernel
theorem d_Ps_tellSpring_31 : decode b_Ps_tellSpring 31 = .ok (.iastore, 1) := by decide +kernel
theorem d_Ps_tellSpring_32 : decode b_Ps_tellSpring 32 = .ok (.aload_n 2, 1) := by decide +kernel
theorem d_Ps_tellSpring_33 : decode b_Ps_tellSpring 33 = .ok (.iconst 5, 1) := by decide +kernel
theorem d_Ps_tellSpring_34 : decode b_Ps_tellSpring 34 = .ok (.aload_n 0, 1) := by decide +kernel
theorem d_Ps_tellSpring_35 : decode b_Ps_tellSpring 35 = .ok (.getfield 32, 3) := by decide +kernel
theorem d_Ps_tellSpring_38 : decode b_Ps_tellSpring 38 = .ok (.iastore, 1) := by decide +kernel
theorem d_Ps_tellSpring_39 : decode b_Ps_tellSpring 39 = .ok (.aload_n 2, 1) := by decide +kernel
theorem d_Ps_tellSpring_40 : decode b_Ps_tellSpring 40 = .ok (.bipush 6, 2) := by decide +kernel
theorem d_Ps_tellSpring_42 : decode b_Ps_tellSpring 42 = .ok (.aload_n 0, 1) := by decide +kernel
theorem d_Ps_tellSpring_43 : decode b_Ps_tellSpring 43 = .ok (.getfield 38, 3) := by decide +kernel
theorem d_Ps_tellSpring_46 : decode b_Ps_tellSpring 46 = .ok (.iastore, 1) := by decide +kernel
theorem d_Ps_tellSpring_47 : decode b_Ps_tellSpring 47 = .ok (.return_, 1) := by decide +kernel
theorem mf_Ps_tellSpring : zMF y_Ps_tellSpring b_Ps_tellSpring 3 none 2 := ⟨zGW_in 557 (by decide +kernel) (by decide +kernel), zGW_in 125 (by decide +kernel) (by decide +kernel), by decide +kernel⟩
theorem in_Ps_tellSpring : Cond.instanceMethod y_Ps_tellSpring ∈ zGW := zGW_in 555 (by decide +kernel) (by decide +kernel)
theorem se_Ps_tellSpring : Cond.selects y_Ps_tellSpring.cls y_Ps_tellSpring y_Ps_tellSpring ∈ zGW := zGW_in 556 (by decide +kernel) (by decide +kernel)
def y_Ps_farOf : MethodName := ⟨zNm 5, "farOf", "(I)I"⟩
abbrev b_Ps_farOf : ByteArray := prog_6_method_10_code
theorem d_Ps_farOf_0 : decode b_Ps_farOf 0 = .ok (.iload_n 1, 1) := by decide +kernel
theorem d_Ps_farOf_1 : decode b_Ps_farOf 1 = .ok (.ifCond .lt 21, 3) := by decide +kernel
theorem d_Ps_farOf_4 : decode b_Ps_farOf 4 = .ok (.iload_n 1, 1) := by decide +kernel
theorem d_Ps_farOf_5 : decode b_Ps_farOf 5 = .ok (.aload_n 0, 1) := by decide +kernel
theorem d_Ps_farOf_6 : decode b_Ps_farOf 6 = .ok (.getfield 19, 3) := by decide +kernel
theorem d_Ps_farOf_9 : decode b_Ps_farOf 9 = .ok (.arraylength, 1) := by decide +kernel
theorem d_Ps_farOf_10 : decode b_Ps_farOf 10 = .ok (.if_icmp .ge 12, 3) := by decide +kernel
theorem d_Ps_farOf_13 : decode b_Ps_farOf 13 = .ok (.aload_n 0, 1) := by decide +kernel
theorem d_Ps_farOf_14 : decode b_Ps_farOf 14 = .ok (.getfield 19, 3) := by decide +kernel
theorem d_Ps_farOf_17 : decode b_Ps_farOf 17 = .ok (.iload_n 1, 1) := by decide +kernel
theorem d_Ps_farOf_18 : decode b_Ps_farOf 18 = .ok (.iaload, 1) := by decide +kernel
theorem d_Ps_farOf_19 : decode b_Ps_farOf 19 = .ok (.goto 4, 3) := by decide +kernel
theorem d_Ps_farOf_22 : decode b_Ps_farOf 22 = .ok (.iconst 0, 1) := by decide +kernel
theorem d_Ps_farOf_23 : decode b_Ps_farOf 23 = .ok (.ireturn, 1) := by decide +kernel
theorem mf_Ps_farOf : zMF y_Ps_farOf b_Ps_farOf 2 (some .int) 1 := ⟨zGW_in 566 (by decide +kernel) (by decide +kernel), zGW_in 125 (by decide +kernel) (by decide +kernel), by decide +kernel⟩
theorem in_Ps_farOf : Cond.instanceMethod y_Ps_farOf ∈ zGW := zGW_in 564 (by decide +kernel) (by decide +kernel)
theorem se_Ps_farOf : Cond.selects y_Ps_farOf.cls y_Ps_farOf y_Ps_farOf ∈ zGW := zGW_in 565 (by decide +kernel) (by decide +kernel)
def y_Ps_tellChannel : MethodName := ⟨zNm 5, "tellChannel", "(II[I)V"⟩
abbrev b_Ps_tellChannel : ByteArray := prog_6_method_21_code
theorem d_Ps_tellChannel_0 : decode b_Ps_tellChannel 0 = .ok (.aload_n 3, 1) := by decide +kernel
theorem d_Ps_tellChannel_1 : decode b_Ps_tellChannel 1 = .ok (.arraylength, 1) := by decide +kernel
theorem d_Ps_tellChannel_2 : decode b_Ps_tellChannel 2 = .ok (.bipush 7, 2) := by decide +kernel
theorem d_Ps_tellChannel_4 : decode b_Ps_tellChannel 4 = .ok (.if_icmp .ge 4, 3) := by decide +kernel
theorem d_Ps_tellChannel_7 : decode b_Ps_tellChannel 7 = .ok (.return_, 1) := by decide +kernel
theorem d_Ps_tellChannel_8 : decode b_Ps_tellChannel 8 = .ok (.aload_n 3, 1) := by decide +kernel
theorem d_Ps_tellChannel_9 : decode b_Ps_tellChannel 9 = .ok (.iconst 0, 1) := by decide +kernel
theorem d_Ps_tellChannel_10 : decode b_Ps_tellChannel 10 = .ok (.iload_n 1, 1) := by decide +kernel
theorem d_Ps_tellChannel_11 : decode b_Ps_tellChannel 11 = .ok (.iastore, 1) := by decide +kernel
theorem d_Ps_tellChannel_12 : decode b_Ps_tellChannel 12 = .ok (.aload_n 3, 1) := by decide +kernel
theorem d_Ps_tellChannel_13 : decode b_Ps_tellChannel 13 = .ok (.iconst 1, 1) := by decide +kernel
theorem d_Ps_tellChannel_14 : decode b_Ps_tellChannel 14 = .ok (.iload_n 2, 1) := by decide +kernel
theorem d_Ps_tellChannel_15 : decode b_Ps_tellChannel 15 = .ok (.iastore, 1) := by decide +kernel
theorem d_Ps_tellChannel_16 : decode b_Ps_tellChannel 16 = .ok (.aload_n 3, 1) := by decide +kernel
theorem d_Ps_tellChannel_17 : decode b_Ps_tellChannel 17 = .ok (.iconst 2, 1) := by decide +kernel
theorem d_Ps_tellChannel_18 : decode b_Ps_tellChannel 18 = .ok (.aload_n 0, 1) := by decide +kernel
theorem d_Ps_tellChannel_19 : decode b_Ps_tellChannel 19 = .ok (.aload_n 0, 1) := by decide +kernel
theorem d_Ps_tellChannel_20 : decode b_Ps_tellChannel 20 = .ok (.iload_n 1, 1) := by decide +kernel
theorem d_Ps_tellChannel_21 : decode b_Ps_tellChannel 21 = .ok (.iload_n 2, 1) := by decide +kernel
theorem d_Ps_tellChannel_22 : decode b_Ps_tellChannel 22 = .ok (.invokevirtual 80, 3) := by decide +kernel
theorem d_Ps_tellChannel_25 : decode b_Ps_tellChannel 25 = .ok (.invokevirtual 88, 3) := by decide +kernel
theorem d_Ps_tellChannel_28 : decode b_Ps_tellChannel 28 = .ok (.iastore, 1) := by decide +kernel
theorem d_Ps_tellChannel_29 : decode b_Ps_tellChannel 29 = .ok (.aload_n 3, 1) := by decide +kernel
theorem d_Ps_tellChannel_30 : decode b_Ps_tellChannel 30 = .ok (.iconst 3, 1) := by decide +kernel
theorem d_Ps_tellChannel_31 : decode b_Ps_tellChannel 31 = .ok (.aload_n 0, 1) := by decide +kernel
theorem d_Ps_tellChannel_32 : decode b_Ps_tellChannel 32 = .ok (.iload_n 1, 1) := by decide +kernel
theorem d_Ps_tellChannel_33 : decode b_Ps_tellChannel 33 = .ok (.invokevirtual 92, 3) := by decide +kernel
theorem d_Ps_tellChannel_36 : decode b_Ps_tellChannel 36 = .ok (.aload_n 0, 1) := by decide +kernel
theorem d_Ps_tellChannel_37 : decode b_Ps_tellChannel 37 = .ok (.iload_n 2, 1) := by decide +kernel
theorem d_Ps_tellChannel_38 : decode b_Ps_tellChannel 38 = .ok (.invokevirtual 92, 3) := by decide +kernel
theorem d_Ps_tellChannel_41 : decode b_Ps_tellChannel 41 = .ok (.isub, 1) := by decide +kernel
theorem d_Ps_tellChannel_42 : decode b_Ps_tellChannel 42 = .ok (.iastore, 1) := by decide +kernel
theorem d_Ps_tellChannel_43 : decode b_Ps_tellChannel 43 = .ok (.aload_n 3, 1) := by decide +kernel
theorem d_Ps_tellChannel_44 : decode b_Ps_tellChannel 44 = .ok (.iconst 4, 1) := by decide +kernel
theorem d_Ps_tellChannel_45 : decode b_Ps_tellChannel 45 = .ok (.aload_n 0, 1) := by decide +kernel
theorem d_Ps_tellChannel_46 : decode b_Ps_tellChannel 46 = .ok (.iload_n 2, 1) := by decide +kernel
theorem d_Ps_tellChannel_47 : decode b_Ps_tellChannel 47 = .ok (.invokevirtual 95, 3) := by decide +kernel
theorem d_Ps_tellChannel_50 : decode b_Ps_tellChannel 50 = .ok (.iastore, 1) := by decide +kernel
theorem d_Ps_tellChannel_51 : decode b_Ps_tellChannel 51 = .ok (.aload_n 3, 1) := by decide +kernel
theorem d_Ps_tellChannel_52 : decode b_Ps_tellChannel 52 = .ok (.iconst 5, 1) := by decide +kernel
theorem d_Ps_tellChannel_53 : decode b_Ps_tellChannel 53 = .ok (.aload_n 0, 1) := by decide +kernel
theorem d_Ps_tellChannel_54 : decode b_Ps_tellChannel 54 = .ok (.getfield 32, 3) := by decide +kernel
theorem d_Ps_tellChannel_57 : decode b_Ps_tellChannel 57 = .ok (.iastore, 1) := by decide +kernel
theorem d_Ps_tellChannel_58 : decode b_Ps_tellChannel 58 = .ok (.aload_n 3, 1) := by decide +kernel
theorem d_Ps_tellChannel_59 : decode b_Ps_tellChannel 59 = .ok (.bipush 6, 2) := by decide +kernel
theorem d_Ps_tellChannel_61 : decode b_Ps_tellChannel 61 = .ok (.aload_n 0, 1) := by decide +kernel
theorem d_Ps_tellChannel_62 : decode b_Ps_tellChannel 62 = .ok (.getfield 38, 3) := by decide +kernel
theorem d_Ps_tellChannel_65 : decode b_Ps_tellChannel 65 = .ok (.iastore, 1) := by decide +kernel
theorem d_Ps_tellChannel_66 : decode b_Ps_tellChannel 66 = .ok (.return_, 1) := by decide +kernel
theorem mf_Ps_tellChannel : zMF y_Ps_tellChannel b_Ps_tellChannel 4 none 3 := ⟨zGW_in 562 (by decide +kernel) (by decide +kernel), zGW_in 125 (by decide +kernel) (by decide +kernel), by decide +kernel⟩
theorem in_Ps_tellChannel : Cond.instanceMethod y_Ps_tellChannel ∈ zGW := zGW_in 560 (by decide +kernel) (by decide +kernel)
theorem se_Ps_tellChannel : Cond.selects y_Ps_tellChannel.cls y_Ps_tellChannel y_Ps_tellChannel ∈ zGW := zGW_in 561 (by decide +kernel) (by decide +kernel)
def y_Tx_kindOf : MethodName := ⟨zNm 10, "kindOf", "(I)I"⟩
abbrev b_Tx_kindOf : ByteArray := prog_11_method_7_code
theorem d_Tx_kindOf_0 : decode b_Tx_kindOf 0 = .ok (.iload_n 1, 1) := by decide +kernel
theorem d_Tx_kindOf_1 : decode b_Tx_kindOf 1 = .ok (.ifCond .lt 18, 3) := by decide +kernel
theorem d_Tx_kindOf_4 : decode b_Tx_kindOf 4 = .ok (.iload_n 1, 1) := by decide +kernel
theorem d_Tx_kindOf_5 : decode b_Tx_kindOf 5 = .ok (.bipush 12, 2) := by decide +kernel
theorem d_Tx_kindOf_7 : decode b_Tx_kindOf 7 = .ok (.if_icmp .ge 12, 3) := by decide +kernel
theorem d_Tx_kindOf_10 : decode b_Tx_kindOf 10 = .ok (.aload_n 0, 1) := by decide +kernel
theorem d_Tx_kindOf_11 : decode b_Tx_kindOf 11 = .ok (.getfield 22, 3) := by decide +kernel
theorem d_Tx_kindOf_14 : decode b_Tx_kindOf 14 = .ok (.iload_n 1, 1) := by decide +kernel
theorem d_Tx_kindOf_15 : decode b_Tx_kindOf 15 = .ok (.iaload, 1) := by decide +kernel
theorem d_Tx_kindOf_16 : decode b_Tx_kindOf 16 = .ok (.goto 4, 3) := by decide +kernel
theorem d_Tx_kindOf_19 : decode b_Tx_kindOf 19 = .ok (.iconst (-1), 1) := by decide +kernel
theorem d_Tx_kindOf_20 : decode b_Tx_kindOf 20 = .ok (.ireturn, 1) := by decide +kernel
theorem mf_Tx_kindOf : zMF y_Tx_kindOf b_Tx_kindOf 2 (some .int) 1 := ⟨zGW_in 571 (by decide +kernel) (by decide +kernel), zGW_in 129 (by decide +kernel) (by decide +kernel), by decide +kernel⟩
theorem in_Tx_kindOf : Cond.instanceMethod y_Tx_kindOf ∈ zGW := zGW_in 569 (by decide +kernel) (by decide +kernel)
theorem se_Tx_kindOf : Cond.selects y_Tx_kindOf.cls y_Tx_kindOf y_Tx_kindOf ∈ zGW := zGW_in 570 (by decide +kernel) (by decide +kernel)
def y_Tx_startOf : MethodName := ⟨zNm 10, "startOf", "(II)I"⟩
abbrev b_Tx_startOf : ByteArray := prog_11_method_9_code
theorem d_Tx_startOf_0 : decode b_Tx_startOf 0 = .ok (.iload_n 1, 1) := by decide +kernel
theorem d_Tx_startOf_1 : decode b_Tx_startOf 1 = .ok (.iconst 3, 1) := by decide +kernel
theorem d_Tx_startOf_2 : decode b_Tx_startOf 2 = .ok (.imul, 1) := by decide +kernel
theorem d_Tx_startOf_3 : decode b_Tx_startOf 3 = .ok (.iload_n 2, 1) := by decide +kernel
theorem d_Tx_startOf_4 : decode b_Tx_startOf 4 = .ok (.iadd, 1) := by decide +kernel
theorem d_Tx_startOf_5 : decode b_Tx_startOf 5 = .ok (.istore_n 3, 1) := by decide +kernel
theorem d_Tx_startOf_6 : decode b_Tx_startOf 6 = .ok (.iload_n 3, 1) := by decide +kernel
theorem d_Tx_startOf_7 : decode b_Tx_startOf 7 = .ok (.ifCond .lt 21, 3) := by decide +kernel
theorem d_Tx_startOf_10 : decode b_Tx_startOf 10 = .ok (.iload_n 3, 1) := by decide +kernel
theorem d_Tx_startOf_11 : decode b_Tx_startOf 11 = .ok (.aload_n 0, 1) := by decide +kernel
theorem d_Tx_startOf_12 : decode b_Tx_startOf 12 = .ok (.getfield 29, 3) := by decide +kernel
theorem d_Tx_startOf_15 : decode b_Tx_startOf 15 = .ok (.arraylength, 1) := by decide +kernel
theorem d_Tx_startOf_16 : decode b_Tx_startOf 16 = .ok (.if_icmp .ge 12, 3) := by decide +kernel
theorem d_Tx_startOf_19 : decode b_Tx_startOf 19 = .ok (.aload_n 0, 1) := by decide +kernel
theorem d_Tx_startOf_20 : decode b_Tx_startOf 20 = .ok (.getfield 29, 3) := by decide +kernel
theorem d_Tx_startOf_23 : decode b_Tx_startOf 23 = .ok (.iload_n 3, 1) := by decide +kernel
theorem d_Tx_startOf_24 : decode b_Tx_startOf 24 = .ok (.iaload, 1) := by decide +kernel
theorem d_Tx_startOf_25 : decode b_Tx_startOf 25 = .ok (.goto 4, 3) := by decide +kernel
theorem d_Tx_startOf_28 : decode b_Tx_startOf 28 = .ok (.iconst (-1), 1) := by decide +kernel
theorem d_Tx_startOf_29 : decode b_Tx_startOf 29 = .ok (.ireturn, 1) := by decide +kernel
theorem mf_Tx_startOf : zMF y_Tx_startOf b_Tx_startOf 4 (some .int) 2 := ⟨zGW_in 579 (by decide +kernel) (by decide +kernel), zGW_in 129 (by decide +kernel) (by decide +kernel), by decide +kernel⟩
theorem in_Tx_startOf : Cond.instanceMethod y_Tx_startOf ∈ zGW := zGW_in 578 (by decide +kernel) (by decide +kernel)
theorem se_Tx_startOf : Cond.selects y_Tx_startOf.cls y_Tx_startOf y_Tx_startOf ∈ zGW := zGW_in 3 (by decide +kernel) (by decide +kernel)
def y_Tx_joined : MethodName := ⟨zNm 10, "joined", "(IJJ)J"⟩
abbrev b_Tx_joined : ByteArray := prog_11_method_13_code
theorem d_Tx_joined_0 : decode b_Tx_joined 0 = .ok (.iload_n 0, 1) := by decide +kernel
theorem d_Tx_joined_1 : decode b_Tx_joined 1 = .ok (.tableswitch 131 5 11 #[43, 51, 59, 67, 87, 107, 119], 43) := by decide +kernel
theorem d_Tx_joined_44 : decode b_Tx_joined 44 = .ok (.lload_n 1, 1) := by decide +kernel
theorem d_Tx_joined_45 : decode b_Tx_joined 45 = .ok (.lload_n 3, 1) := by decide +kernel
theorem d_Tx_joined_46 : decode b_Tx_joined 46 = .ok (.ladd, 1) := by decide +kernel
theorem d_Tx_joined_47 : decode b_Tx_joined 47 = .ok (.lstore 5, 2) := by decide +kernel
theorem d_Tx_joined_49 : decode b_Tx_joined 49 = .ok (.goto 95, 3) := by decide +kernel
theorem d_Tx_joined_52 : decode b_Tx_joined 52 = .ok (.lload_n 1, 1) := by decide +kernel
theorem d_Tx_joined_53 : decode b_Tx_joined 53 = .ok (.lload_n 3, 1) := by decide +kernel
theorem d_Tx_joined_54 : decode b_Tx_joined 54 = .ok (.lsub, 1) := by decide +kernel
theorem d_Tx_joined_55 : decode b_Tx_joined 55 = .ok (.lstore 5, 2) := by decide +kernel
theorem d_Tx_joined_57 : decode b_Tx_joined 57 = .ok (.goto 87, 3) := by decide +kernel
theorem d_Tx_joined_60 : decode b_Tx_joined 60 = .ok (.lload_n 1, 1) := by decide +kernel
theorem d_Tx_joined_61 : decode b_Tx_joined 61 = .ok (.lload_n 3, 1) := by decide +kernel
theorem d_Tx_joined_62 : decode b_Tx_joined 62 = .ok (.lmul, 1) := by decide +kernel
theorem d_Tx_joined_63 : decode b_Tx_joined 63 = .ok (.lstore 5, 2) := by decide +kernel
theorem d_Tx_joined_65 : decode b_Tx_joined 65 = .ok (.goto 79, 3) := by decide +kernel
theorem d_Tx_joined_68 : decode b_Tx_joined 68 = .ok (.lload_n 3, 1) := by decide +kernel
theorem d_Tx_joined_69 : decode b_Tx_joined 69 = .ok (.lconst 0, 1) := by decide +kernel
theorem d_Tx_joined_70 : decode b_Tx_joined 70 = .ok (.lcmp, 1) := by decide +kernel
theorem d_Tx_joined_71 : decode b_Tx_joined 71 = .ok (.ifCond .ne 9, 3) := by decide +kernel
theorem d_Tx_joined_74 : decode b_Tx_joined 74 = .ok (.ldc2_w 54, 3) := by decide +kernel
theorem d_Tx_joined_77 : decode b_Tx_joined 77 = .ok (.goto 6, 3) := by decide +kernel
theorem d_Tx_joined_80 : decode b_Tx_joined 80 = .ok (.lload_n 1, 1) := by decide +kernel
theorem d_Tx_joined_81 : decode b_Tx_joined 81 = .ok (.lload_n 3, 1) := by decide +kernel
theorem d_Tx_joined_82 : decode b_Tx_joined 82 = .ok (.ldiv, 1) := by decide +kernel
theorem d_Tx_joined_83 : decode b_Tx_joined 83 = .ok (.lstore 5, 2) := by decide +kernel
theorem d_Tx_joined_85 : decode b_Tx_joined 85 = .ok (.goto 59, 3) := by decide +kernel
theorem d_Tx_joined_88 : decode b_Tx_joined 88 = .ok (.lload_n 3, 1) := by decide +kernel
theorem d_Tx_joined_89 : decode b_Tx_joined 89 = .ok (.lconst 0, 1) := by decide +kernel
theorem d_Tx_joined_90 : decode b_Tx_joined 90 = .ok (.lcmp, 1) := by decide +kernel
theorem d_Tx_joined_91 : decode b_Tx_joined 91 = .ok (.ifCond .ne 9, 3) := by decide +kernel
theorem d_Tx_joined_94 : decode b_Tx_joined 94 = .ok (.ldc2_w 54, 3) := by decide +kernel
theorem d_Tx_joined_97 : decode b_Tx_joined 97 = .ok (.goto 6, 3) := by decide +kernel
theorem d_Tx_joined_100 : decode b_Tx_joined 100 = .ok (.lload_n 1, 1) := by decide +kernel
theorem d_Tx_joined_101 : decode b_Tx_joined 101 = .ok (.lload_n 3, 1) := by decide +kernel
theorem d_Tx_joined_102 : decode b_Tx_joined 102 = .ok (.lrem, 1) := by decide +kernel
theorem d_Tx_joined_103 : decode b_Tx_joined 103 = .ok (.lstore 5, 2) := by decide +kernel
theorem d_Tx_joined_105 : decode b_Tx_joined 105 = .ok (.goto 39, 3) := by decide +kernel
theorem d_Tx_joined_108 : decode b_Tx_joined 108 = .ok (.lload_n 1, 1) := by decide +kernel
theorem d_Tx_joined_109 : decode b_Tx_joined 109 = .ok (.lload_n 3, 1) := by decide +kernel
theorem d_Tx_joined_110 : decode b_Tx_joined 110 = .ok (.lcmp, 1) := by decide +kernel
theorem d_Tx_joined_111 : decode b_Tx_joined 111 = .ok (.ifCond .ge 7, 3) := by decide +kernel
theorem d_Tx_joined_114 : decode b_Tx_joined 114 = .ok (.lconst 1, 1) := by decide +kernel
theorem d_Tx_joined_115 : decode b_Tx_joined 115 = .ok (.goto 4, 3) := by decide +kernel
theorem d_Tx_joined_118 : decode b_Tx_joined 118 = .ok (.lconst 0, 1) := by decide +kernel
theorem d_Tx_joined_119 : decode b_Tx_joined 119 = .ok (.lreturn, 1) := by decide +kernel
theorem d_Tx_joined_120 : decode b_Tx_joined 120 = .ok (.lload_n 1, 1) := by decide +kernel
theorem d_Tx_joined_121 : decode b_Tx_joined 121 = .ok (.lload_n 3, 1) := by decide +kernel
theorem d_Tx_joined_122 : decode b_Tx_joined 122 = .ok (.lcmp, 1) := by decide +kernel
theorem d_Tx_joined_123 : decode b_Tx_joined 123 = .ok (.ifCond .le 7, 3) := by decide +kernel
theorem d_Tx_joined_126 : decode b_Tx_joined 126 = .ok (.lconst 1, 1) := by decide +kernel
theorem d_Tx_joined_127 : decode b_Tx_joined 127 = .ok (.goto 4, 3) := by decide +kernel
theorem d_Tx_joined_130 : decode b_Tx_joined 130 = .ok (.lconst 0, 1) := by decide +kernel
theorem d_Tx_joined_131 : decode b_Tx_joined 131 = .ok (.lreturn, 1) := by decide +kernel
theorem d_Tx_joined_132 : decode b_Tx_joined 132 = .ok (.lload_n 1, 1) := by decide +kernel
theorem d_Tx_joined_133 : decode b_Tx_joined 133 = .ok (.lload_n 3, 1) := by decide +kernel
theorem d_Tx_joined_134 : decode b_Tx_joined 134 = .ok (.lcmp, 1) := by decide +kernel
theorem d_Tx_joined_135 : decode b_Tx_joined 135 = .ok (.ifCond .ne 7, 3) := by decide +kernel
theorem d_Tx_joined_138 : decode b_Tx_joined 138 = .ok (.lconst 1, 1) := by decide +kernel
theorem d_Tx_joined_139 : decode b_Tx_joined 139 = .ok (.goto 4, 3) := by decide +kernel
theorem d_Tx_joined_142 : decode b_Tx_joined 142 = .ok (.lconst 0, 1) := by decide +kernel
theorem d_Tx_joined_143 : decode b_Tx_joined 143 = .ok (.lreturn, 1) := by decide +kernel
theorem d_Tx_joined_144 : decode b_Tx_joined 144 = .ok (.lload 5, 2) := by decide +kernel
theorem d_Tx_joined_146 : decode b_Tx_joined 146 = .ok (.ldc2_w 60, 3) := by decide +kernel
theorem d_Tx_joined_149 : decode b_Tx_joined 149 = .ok (.lcmp, 1) := by decide +kernel
theorem d_Tx_joined_150 : decode b_Tx_joined 150 = .ok (.ifCond .gt 12, 3) := by decide +kernel
theorem d_Tx_joined_153 : decode b_Tx_joined 153 = .ok (.lload 5, 2) := by decide +kernel
theorem d_Tx_joined_155 : decode b_Tx_joined 155 = .ok (.ldc2_w 62, 3) := by decide +kernel
theorem d_Tx_joined_158 : decode b_Tx_joined 158 = .ok (.lcmp, 1) := by decide +kernel
theorem d_Tx_joined_159 : decode b_Tx_joined 159 = .ok (.ifCond .ge 9, 3) := by decide +kernel
theorem d_Tx_joined_162 : decode b_Tx_joined 162 = .ok (.ldc2_w 54, 3) := by decide +kernel
theorem d_Tx_joined_165 : decode b_Tx_joined 165 = .ok (.goto 5, 3) := by decide +kernel
theorem d_Tx_joined_168 : decode b_Tx_joined 168 = .ok (.lload 5, 2) := by decide +kernel
theorem d_Tx_joined_170 : decode b_Tx_joined 170 = .ok (.lreturn, 1) := by decide +kernel
theorem mf_Tx_joined : zMF y_Tx_joined b_Tx_joined 7 (some .long) 3 := ⟨zGW_in 583 (by decide +kernel) (by decide +kernel), zGW_in 129 (by decide +kernel) (by decide +kernel), by decide +kernel⟩
theorem st_Tx_joined : Cond.static y_Tx_joined ∈ zGW := zGW_in 582 (by decide +kernel) (by decide +kernel)
def y_Tx_value : MethodName := ⟨zNm 10, "value", "(II[I[J)J"⟩
abbrev b_Tx_value : ByteArray := prog_11_method_12_code
theorem d_Tx_value_0 : decode b_Tx_value 0 = .ok (.aload_n 0, 1) := by decide +kernel
theorem d_Tx_value_1 : decode b_Tx_value 1 = .ok (.iload_n 1, 1) := by decide +kernel
theorem d_Tx_value_2 : decode b_Tx_value 2 = .ok (.iload_n 2, 1) := by decide +kernel
theorem d_Tx_value_3 : decode b_Tx_value 3 = .ok (.invokevirtual 50, 3) := by decide +kernel
theorem d_Tx_value_6 : decode b_Tx_value 6 = .ok (.istore 5, 2) := by decide +kernel
theorem d_Tx_value_8 : decode b_Tx_value 8 = .ok (.iload 5, 2) := by decide +kernel
theorem d_Tx_value_10 : decode b_Tx_value 10 = .ok (.ifCond .ge 5, 3) := by decide +kernel
theorem d_Tx_value_13 : decode b_Tx_value 13 = .ok (.lconst 1, 1) := by decide +kernel
theorem d_Tx_value_14 : decode b_Tx_value 14 = .ok (.lreturn, 1) := by decide +kernel
theorem d_Tx_value_15 : decode b_Tx_value 15 = .ok (.iconst 0, 1) := by decide +kernel
theorem d_Tx_value_16 : decode b_Tx_value 16 = .ok (.istore 6, 2) := by decide +kernel
theorem d_Tx_value_18 : decode b_Tx_value 18 = .ok (.iconst 0, 1) := by decide +kernel
theorem d_Tx_value_19 : decode b_Tx_value 19 = .ok (.istore 7, 2) := by decide +kernel
theorem d_Tx_value_21 : decode b_Tx_value 21 = .ok (.iload 7, 2) := by decide +kernel
theorem d_Tx_value_23 : decode b_Tx_value 23 = .ok (.aload_n 0, 1) := by decide +kernel
theorem d_Tx_value_24 : decode b_Tx_value 24 = .ok (.getfield 9, 3) := by decide +kernel
theorem d_Tx_value_27 : decode b_Tx_value 27 = .ok (.if_icmp .gt 316, 3) := by decide +kernel
theorem d_Tx_value_30 : decode b_Tx_value 30 = .ok (.iload 5, 2) := by decide +kernel
theorem d_Tx_value_32 : decode b_Tx_value 32 = .ok (.aload_n 0, 1) := by decide +kernel
theorem d_Tx_value_33 : decode b_Tx_value 33 = .ok (.getfield 9, 3) := by decide +kernel
theorem d_Tx_value_36 : decode b_Tx_value 36 = .ok (.if_icmp .ge 307, 3) := by decide +kernel
theorem d_Tx_value_39 : decode b_Tx_value 39 = .ok (.iload 5, 2) := by decide +kernel
theorem d_Tx_value_41 : decode b_Tx_value 41 = .ok (.aload_n 0, 1) := by decide +kernel
theorem d_Tx_value_42 : decode b_Tx_value 42 = .ok (.getfield 32, 3) := by decide +kernel
theorem d_Tx_value_45 : decode b_Tx_value 45 = .ok (.arraylength, 1) := by decide +kernel
theorem d_Tx_value_46 : decode b_Tx_value 46 = .ok (.if_icmp .ge 297, 3) := by decide +kernel
theorem d_Tx_value_49 : decode b_Tx_value 49 = .ok (.aload_n 0, 1) := by decide +kernel
theorem d_Tx_value_50 : decode b_Tx_value 50 = .ok (.getfield 32, 3) := by decide +kernel
theorem d_Tx_value_53 : decode b_Tx_value 53 = .ok (.iload 5, 2) := by decide +kernel
theorem d_Tx_value_55 : decode b_Tx_value 55 = .ok (.iaload, 1) := by decide +kernel
theorem d_Tx_value_56 : decode b_Tx_value 56 = .ok (.bipush 15, 2) := by decide +kernel
theorem d_Tx_value_58 : decode b_Tx_value 58 = .ok (.iand, 1) := by decide +kernel
theorem d_Tx_value_59 : decode b_Tx_value 59 = .ok (.istore 8, 2) := by decide +kernel
theorem d_Tx_value_61 : decode b_Tx_value 61 = .ok (.aload_n 0, 1) := by decide +kernel
theorem d_Tx_value_62 : decode b_Tx_value 62 = .ok (.getfield 32, 3) := by decide +kernel
theorem d_Tx_value_65 : decode b_Tx_value 65 = .ok (.iload 5, 2) := by decide +kernel
theorem d_Tx_value_67 : decode b_Tx_value 67 = .ok (.iaload, 1) := by decide +kernel
theorem d_Tx_value_68 : decode b_Tx_value 68 = .ok (.iconst 4, 1) := by decide +kernel
theorem d_Tx_value_69 : decode b_Tx_value 69 = .ok (.ishr, 1) := by decide +kernel
theorem d_Tx_value_70 : decode b_Tx_value 70 = .ok (.istore 9, 2) := by decide +kernel
theorem d_Tx_value_72 : decode b_Tx_value 72 = .ok (.iinc 5 1, 3) := by decide +kernel
theorem d_Tx_value_75 : decode b_Tx_value 75 = .ok (.iload 8, 2) := by decide +kernel
theorem d_Tx_value_77 : decode b_Tx_value 77 = .ok (.iconst 1, 1) := by decide +kernel
theorem d_Tx_value_78 : decode b_Tx_value 78 = .ok (.if_icmp .gt 61, 3) := by decide +kernel
theorem d_Tx_value_81 : decode b_Tx_value 81 = .ok (.iload 6, 2) := by decide +kernel
theorem d_Tx_value_83 : decode b_Tx_value 83 = .ok (.aload 4, 2) := by decide +kernel
theorem d_Tx_value_85 : decode b_Tx_value 85 = .ok (.arraylength, 1) := by decide +kernel
theorem d_Tx_value_86 : decode b_Tx_value 86 = .ok (.if_icmp .ge 21, 3) := by decide +kernel
theorem d_Tx_value_89 : decode b_Tx_value 89 = .ok (.iload 8, 2) := by decide +kernel
theorem d_Tx_value_91 : decode b_Tx_value 91 = .ok (.iconst 1, 1) := by decide +kernel
theorem d_Tx_value_92 : decode b_Tx_value 92 = .ok (.if_icmp .ne 19, 3) := by decide +kernel
theorem d_Tx_value_95 : decode b_Tx_value 95 = .ok (.iload 9, 2) := by decide +kernel
theorem d_Tx_value_97 : decode b_Tx_value 97 = .ok (.ifCond .lt 10, 3) := by decide +kernel
theorem d_Tx_value_100 : decode b_Tx_value 100 = .ok (.iload 9, 2) := by decide +kernel
theorem d_Tx_value_102 : decode b_Tx_value 102 = .ok (.aload_n 3, 1) := by decide +kernel
theorem d_Tx_value_103 : decode b_Tx_value 103 = .ok (.arraylength, 1) := by decide +kernel
theorem d_Tx_value_104 : decode b_Tx_value 104 = .ok (.if_icmp .lt 7, 3) := by decide +kernel
theorem d_Tx_value_107 : decode b_Tx_value 107 = .ok (.ldc2_w 54, 3) := by decide +kernel
theorem d_Tx_value_110 : decode b_Tx_value 110 = .ok (.lreturn, 1) := by decide +kernel
theorem d_Tx_value_111 : decode b_Tx_value 111 = .ok (.aload 4, 2) := by decide +kernel
theorem d_Tx_value_113 : decode b_Tx_value 113 = .ok (.iload 6, 2) := by decide +kernel
theorem d_Tx_value_115 : decode b_Tx_value 115 = .ok (.iload 8, 2) := by decide +kernel
theorem d_Tx_value_117 : decode b_Tx_value 117 = .ok (.iconst 1, 1) := by decide +kernel
theorem d_Tx_value_118 : decode b_Tx_value 118 = .ok (.if_icmp .ne 11, 3) := by decide +kernel
theorem d_Tx_value_121 : decode b_Tx_value 121 = .ok (.aload_n 3, 1) := by decide +kernel
theorem d_Tx_value_122 : decode b_Tx_value 122 = .ok (.iload 9, 2) := by decide +kernel
theorem d_Tx_value_124 : decode b_Tx_value 124 = .ok (.iaload, 1) := by decide +kernel
theorem d_Tx_value_125 : decode b_Tx_value 125 = .ok (.i2l, 1) := by decide +kernel
theorem d_Tx_value_126 : decode b_Tx_value 126 = .ok (.goto 6, 3) := by decide +kernel
theorem d_Tx_value_129 : decode b_Tx_value 129 = .ok (.iload 9, 2) := by decide +kernel
theorem d_Tx_value_131 : decode b_Tx_value 131 = .ok (.i2l, 1) := by decide +kernel
theorem d_Tx_value_132 : decode b_Tx_value 132 = .ok (.lastore, 1) := by decide +kernel
theorem d_Tx_value_133 : decode b_Tx_value 133 = .ok (.iinc 6 1, 3) := by decide +kernel
theorem d_Tx_value_136 : decode b_Tx_value 136 = .ok (.goto 201, 3) := by decide +kernel
theorem d_Tx_value_139 : decode b_Tx_value 139 = .ok (.iload 6, 2) := by decide +kernel
theorem d_Tx_value_141 : decode b_Tx_value 141 = .ok (.iconst 1, 1) := by decide +kernel
theorem d_Tx_value_142 : decode b_Tx_value 142 = .ok (.if_icmp .lt 30, 3) := by decide +kernel
theorem d_Tx_value_145 : decode b_Tx_value 145 = .ok (.iload 6, 2) := by decide +kernel
theorem d_Tx_value_147 : decode b_Tx_value 147 = .ok (.aload 4, 2) := by decide +kernel
theorem d_Tx_value_149 : decode b_Tx_value 149 = .ok (.arraylength, 1) := by decide +kernel
theorem d_Tx_value_150 : decode b_Tx_value 150 = .ok (.if_icmp .gt 22, 3) := by decide +kernel
theorem d_Tx_value_153 : decode b_Tx_value 153 = .ok (.iload 8, 2) := by decide +kernel
theorem d_Tx_value_155 : decode b_Tx_value 155 = .ok (.iconst 4, 1) := by decide +kernel
theorem d_Tx_value_156 : decode b_Tx_value 156 = .ok (.if_icmp .le 20, 3) := by decide +kernel
theorem d_Tx_value_159 : decode b_Tx_value 159 = .ok (.iload 8, 2) := by decide +kernel
theorem d_Tx_value_161 : decode b_Tx_value 161 = .ok (.bipush 13, 2) := by decide +kernel
theorem d_Tx_value_163 : decode b_Tx_value 163 = .ok (.if_icmp .ge 13, 3) := by decide +kernel
theorem d_Tx_value_166 : decode b_Tx_value 166 = .ok (.iload 6, 2) := by decide +kernel
theorem d_Tx_value_168 : decode b_Tx_value 168 = .ok (.iconst 2, 1) := by decide +kernel
theorem d_Tx_value_169 : decode b_Tx_value 169 = .ok (.if_icmp .ge 7, 3) := by decide +kernel
theorem d_Tx_value_172 : decode b_Tx_value 172 = .ok (.ldc2_w 54, 3) := by decide +kernel
theorem d_Tx_value_175 : decode b_Tx_value 175 = .ok (.lreturn, 1) := by decide +kernel
theorem d_Tx_value_176 : decode b_Tx_value 176 = .ok (.iload 8, 2) := by decide +kernel
theorem d_Tx_value_178 : decode b_Tx_value 178 = .ok (.bipush 13, 2) := by decide +kernel
theorem d_Tx_value_180 : decode b_Tx_value 180 = .ok (.if_icmp .ne 11, 3) := by decide +kernel
theorem d_Tx_value_183 : decode b_Tx_value 183 = .ok (.aload 4, 2) := by decide +kernel
theorem d_Tx_value_185 : decode b_Tx_value 185 = .ok (.iload 6, 2) := by decide +kernel
theorem d_Tx_value_187 : decode b_Tx_value 187 = .ok (.iconst 1, 1) := by decide +kernel
theorem d_Tx_value_188 : decode b_Tx_value 188 = .ok (.isub, 1) := by decide +kernel
theorem d_Tx_value_189 : decode b_Tx_value 189 = .ok (.laload, 1) := by decide +kernel
theorem d_Tx_value_190 : decode b_Tx_value 190 = .ok (.lreturn, 1) := by decide +kernel
theorem d_Tx_value_191 : decode b_Tx_value 191 = .ok (.iload 8, 2) := by decide +kernel
theorem d_Tx_value_193 : decode b_Tx_value 193 = .ok (.iconst 4, 1) := by decide +kernel
theorem d_Tx_value_194 : decode b_Tx_value 194 = .ok (.if_icmp .ne 22, 3) := by decide +kernel
theorem d_Tx_value_197 : decode b_Tx_value 197 = .ok (.aload 4, 2) := by decide +kernel
theorem d_Tx_value_199 : decode b_Tx_value 199 = .ok (.iload 6, 2) := by decide +kernel
theorem d_Tx_value_201 : decode b_Tx_value 201 = .ok (.iconst 1, 1) := by decide +kernel
theorem d_Tx_value_202 : decode b_Tx_value 202 = .ok (.isub, 1) := by decide +kernel
theorem d_Tx_value_203 : decode b_Tx_value 203 = .ok (.lconst 1, 1) := by decide +kernel
theorem d_Tx_value_204 : decode b_Tx_value 204 = .ok (.aload 4, 2) := by decide +kernel
theorem d_Tx_value_206 : decode b_Tx_value 206 = .ok (.iload 6, 2) := by decide +kernel
theorem d_Tx_value_208 : decode b_Tx_value 208 = .ok (.iconst 1, 1) := by decide +kernel
theorem d_Tx_value_209 : decode b_Tx_value 209 = .ok (.isub, 1) := by decide +kernel
theorem d_Tx_value_210 : decode b_Tx_value 210 = .ok (.laload, 1) := by decide +kernel
theorem d_Tx_value_211 : decode b_Tx_value 211 = .ok (.lsub, 1) := by decide +kernel
theorem d_Tx_value_212 : decode b_Tx_value 212 = .ok (.lastore, 1) := by decide +kernel
theorem d_Tx_value_213 : decode b_Tx_value 213 = .ok (.goto 124, 3) := by decide +kernel
theorem d_Tx_value_216 : decode b_Tx_value 216 = .ok (.iload 8, 2) := by decide +kernel
theorem d_Tx_value_218 : decode b_Tx_value 218 = .ok (.iconst 3, 1) := by decide +kernel
theorem d_Tx_value_219 : decode b_Tx_value 219 = .ok (.if_icmp .gt 73, 3) := by decide +kernel
theorem d_Tx_value_222 : decode b_Tx_value 222 = .ok (.aload 4, 2) := by decide +kernel
theorem d_Tx_value_224 : decode b_Tx_value 224 = .ok (.iload 6, 2) := by decide +kernel
theorem d_Tx_value_226 : decode b_Tx_value 226 = .ok (.iconst 1, 1) := by decide +kernel
theorem d_Tx_value_227 : decode b_Tx_value 227 = .ok (.isub, 1) := by decide +kernel
theorem d_Tx_value_228 : decode b_Tx_value 228 = .ok (.laload, 1) := by decide +kernel
theorem d_Tx_value_229 : decode b_Tx_value 229 = .ok (.iload 8, 2) := by decide +kernel
theorem d_Tx_value_231 : decode b_Tx_value 231 = .ok (.iconst 3, 1) := by decide +kernel
theorem d_Tx_value_232 : decode b_Tx_value 232 = .ok (.if_icmp .ne 7, 3) := by decide +kernel
theorem d_Tx_value_235 : decode b_Tx_value 235 = .ok (.iconst 1, 1) := by decide +kernel
theorem d_Tx_value_236 : decode b_Tx_value 236 = .ok (.goto 4, 3) := by decide +kernel
theorem d_Tx_value_239 : decode b_Tx_value 239 = .ok (.iconst 0, 1) := by decide +kernel
theorem d_Tx_value_240 : decode b_Tx_value 240 = .ok (.i2l, 1) := by decide +kernel
theorem d_Tx_value_241 : decode b_Tx_value 241 = .ok (.lcmp, 1) := by decide +kernel
theorem d_Tx_value_242 : decode b_Tx_value 242 = .ok (.ifCond .ne 7, 3) := by decide +kernel
theorem d_Tx_value_245 : decode b_Tx_value 245 = .ok (.iconst 1, 1) := by decide +kernel
theorem d_Tx_value_246 : decode b_Tx_value 246 = .ok (.goto 4, 3) := by decide +kernel
theorem d_Tx_value_249 : decode b_Tx_value 249 = .ok (.iconst 0, 1) := by decide +kernel
theorem d_Tx_value_250 : decode b_Tx_value 250 = .ok (.istore 10, 2) := by decide +kernel
theorem d_Tx_value_252 : decode b_Tx_value 252 = .ok (.iload 10, 2) := by decide +kernel
theorem d_Tx_value_254 : decode b_Tx_value 254 = .ok (.ifCond .eq 15, 3) := by decide +kernel
theorem d_Tx_value_257 : decode b_Tx_value 257 = .ok (.iload 9, 2) := by decide +kernel
theorem d_Tx_value_259 : decode b_Tx_value 259 = .ok (.iload 5, 2) := by decide +kernel
theorem d_Tx_value_261 : decode b_Tx_value 261 = .ok (.if_icmp .le 8, 3) := by decide +kernel
theorem d_Tx_value_264 : decode b_Tx_value 264 = .ok (.iload 9, 2) := by decide +kernel
theorem d_Tx_value_266 : decode b_Tx_value 266 = .ok (.goto 5, 3) := by decide +kernel
theorem d_Tx_value_269 : decode b_Tx_value 269 = .ok (.iload 5, 2) := by decide +kernel
theorem d_Tx_value_271 : decode b_Tx_value 271 = .ok (.istore 5, 2) := by decide +kernel
theorem d_Tx_value_273 : decode b_Tx_value 273 = .ok (.iload 10, 2) := by decide +kernel
theorem d_Tx_value_275 : decode b_Tx_value 275 = .ok (.ifCond .eq 8, 3) := by decide +kernel
theorem d_Tx_value_278 : decode b_Tx_value 278 = .ok (.iload 6, 2) := by decide +kernel
theorem d_Tx_value_280 : decode b_Tx_value 280 = .ok (.goto 7, 3) := by decide +kernel
theorem d_Tx_value_283 : decode b_Tx_value 283 = .ok (.iload 6, 2) := by decide +kernel
theorem d_Tx_value_285 : decode b_Tx_value 285 = .ok (.iconst 1, 1) := by decide +kernel
theorem d_Tx_value_286 : decode b_Tx_value 286 = .ok (.isub, 1) := by decide +kernel
theorem d_Tx_value_287 : decode b_Tx_value 287 = .ok (.istore 6, 2) := by decide +kernel
theorem d_Tx_value_289 : decode b_Tx_value 289 = .ok (.goto 48, 3) := by decide +kernel
theorem d_Tx_value_292 : decode b_Tx_value 292 = .ok (.iinc 6 (-1), 3) := by decide +kernel
theorem d_Tx_value_295 : decode b_Tx_value 295 = .ok (.aload 4, 2) := by decide +kernel
theorem d_Tx_value_297 : decode b_Tx_value 297 = .ok (.iload 6, 2) := by decide +kernel
theorem d_Tx_value_299 : decode b_Tx_value 299 = .ok (.iconst 1, 1) := by decide +kernel
theorem d_Tx_value_300 : decode b_Tx_value 300 = .ok (.isub, 1) := by decide +kernel
theorem d_Tx_value_301 : decode b_Tx_value 301 = .ok (.iload 8, 2) := by decide +kernel
theorem d_Tx_value_303 : decode b_Tx_value 303 = .ok (.aload 4, 2) := by decide +kernel
theorem d_Tx_value_305 : decode b_Tx_value 305 = .ok (.iload 6, 2) := by decide +kernel
theorem d_Tx_value_307 : decode b_Tx_value 307 = .ok (.iconst 1, 1) := by decide +kernel
theorem d_Tx_value_308 : decode b_Tx_value 308 = .ok (.isub, 1) := by decide +kernel
theorem d_Tx_value_309 : decode b_Tx_value 309 = .ok (.laload, 1) := by decide +kernel
theorem d_Tx_value_310 : decode b_Tx_value 310 = .ok (.aload 4, 2) := by decide +kernel
theorem d_Tx_value_312 : decode b_Tx_value 312 = .ok (.iload 6, 2) := by decide +kernel
theorem d_Tx_value_314 : decode b_Tx_value 314 = .ok (.laload, 1) := by decide +kernel
theorem d_Tx_value_315 : decode b_Tx_value 315 = .ok (.invokestatic 56, 3) := by decide +kernel
theorem d_Tx_value_318 : decode b_Tx_value 318 = .ok (.lastore, 1) := by decide +kernel
theorem d_Tx_value_319 : decode b_Tx_value 319 = .ok (.aload 4, 2) := by decide +kernel
theorem d_Tx_value_321 : decode b_Tx_value 321 = .ok (.iload 6, 2) := by decide +kernel
theorem d_Tx_value_323 : decode b_Tx_value 323 = .ok (.iconst 1, 1) := by decide +kernel
theorem d_Tx_value_324 : decode b_Tx_value 324 = .ok (.isub, 1) := by decide +kernel
theorem d_Tx_value_325 : decode b_Tx_value 325 = .ok (.laload, 1) := by decide +kernel
theorem d_Tx_value_326 : decode b_Tx_value 326 = .ok (.ldc2_w 54, 3) := by decide +kernel
theorem d_Tx_value_329 : decode b_Tx_value 329 = .ok (.lcmp, 1) := by decide +kernel
theorem d_Tx_value_330 : decode b_Tx_value 330 = .ok (.ifCond .ne 7, 3) := by decide +kernel
theorem d_Tx_value_333 : decode b_Tx_value 333 = .ok (.ldc2_w 54, 3) := by decide +kernel
theorem d_Tx_value_336 : decode b_Tx_value 336 = .ok (.lreturn, 1) := by decide +kernel
theorem d_Tx_value_337 : decode b_Tx_value 337 = .ok (.iinc 7 1, 3) := by decide +kernel
theorem d_Tx_value_340 : decode b_Tx_value 340 = .ok (.goto (-319), 3) := by decide +kernel
theorem d_Tx_value_343 : decode b_Tx_value 343 = .ok (.ldc2_w 54, 3) := by decide +kernel
theorem d_Tx_value_346 : decode b_Tx_value 346 = .ok (.lreturn, 1) := by decide +kernel
theorem mf_Tx_value : zMF y_Tx_value b_Tx_value 11 (some .long) 4 := ⟨zGW_in 575 (by decide +kernel) (by decide +kernel), zGW_in 129 (by decide +kernel) (by decide +kernel), by decide +kernel⟩
theorem in_Tx_value : Cond.instanceMethod y_Tx_value ∈ zGW := zGW_in 573 (by decide +kernel) (by decide +kernel)
theorem se_Tx_value : Cond.selects y_Tx_value.cls y_Tx_value y_Tx_value ∈ zGW := zGW_in 574 (by decide +kernel) (by decide +kernel)
def y_As_nearest : MethodName := ⟨zNm 1, "nearest", "(IJ)I"⟩
abbrev b_As_nearest : ByteArray := prog_2_method_4_code
theorem d_As_nearest_0 : decode b_As_nearest 0 = .ok (.iload_n 0, 1) := by decide +kernel
theorem d_As_nearest_1 : decode b_As_nearest 1 = .ok (.ifCond .ne 7, 3) := by decide +kernel
theorem d_As_nearest_4 : decode b_As_nearest 4 = .ok (.iconst 1, 1) := by decide +kernel
theorem d_As_nearest_5 : decode b_As_nearest 5 = .ok (.goto 4, 3) := by decide +kernel
theorem d_As_nearest_8 : decode b_As_nearest 8 = .ok (.iconst 0, 1) := by decide +kernel
theorem d_As_nearest_9 : decode b_As_nearest 9 = .ok (.istore_n 3, 1) := by decide +kernel
theorem d_As_nearest_10 : decode b_As_nearest 10 = .ok (.iload_n 0, 1) := by decide +kernel
theorem d_As_nearest_11 : decode b_As_nearest 11 = .ok (.iconst 2, 1) := by decide +kernel
theorem d_As_nearest_12 : decode b_As_nearest 12 = .ok (.if_icmp .ne 8, 3) := by decide +kernel
theorem d_As_nearest_15 : decode b_As_nearest 15 = .ok (.bipush 9, 2) := by decide +kernel
theorem d_As_nearest_17 : decode b_As_nearest 17 = .ok (.goto 5, 3) := by decide +kernel
theorem d_As_nearest_20 : decode b_As_nearest 20 = .ok (.bipush 99, 2) := by decide +kernel
theorem d_As_nearest_22 : decode b_As_nearest 22 = .ok (.istore 4, 2) := by decide +kernel
theorem d_As_nearest_24 : decode b_As_nearest 24 = .ok (.lload_n 1, 1) := by decide +kernel
theorem d_As_nearest_25 : decode b_As_nearest 25 = .ok (.iload_n 3, 1) := by decide +kernel
theorem d_As_nearest_26 : decode b_As_nearest 26 = .ok (.i2l, 1) := by decide +kernel
theorem d_As_nearest_27 : decode b_As_nearest 27 = .ok (.lcmp, 1) := by decide +kernel
theorem d_As_nearest_28 : decode b_As_nearest 28 = .ok (.ifCond .ge 5, 3) := by decide +kernel
theorem d_As_nearest_31 : decode b_As_nearest 31 = .ok (.iload_n 3, 1) := by decide +kernel
theorem d_As_nearest_32 : decode b_As_nearest 32 = .ok (.ireturn, 1) := by decide +kernel
theorem d_As_nearest_33 : decode b_As_nearest 33 = .ok (.lload_n 1, 1) := by decide +kernel
theorem d_As_nearest_34 : decode b_As_nearest 34 = .ok (.iload 4, 2) := by decide +kernel
theorem d_As_nearest_36 : decode b_As_nearest 36 = .ok (.i2l, 1) := by decide +kernel
theorem d_As_nearest_37 : decode b_As_nearest 37 = .ok (.lcmp, 1) := by decide +kernel
theorem d_As_nearest_38 : decode b_As_nearest 38 = .ok (.ifCond .le 8, 3) := by decide +kernel
theorem d_As_nearest_41 : decode b_As_nearest 41 = .ok (.iload 4, 2) := by decide +kernel
theorem d_As_nearest_43 : decode b_As_nearest 43 = .ok (.goto 5, 3) := by decide +kernel
theorem d_As_nearest_46 : decode b_As_nearest 46 = .ok (.lload_n 1, 1) := by decide +kernel
theorem d_As_nearest_47 : decode b_As_nearest 47 = .ok (.l2i, 1) := by decide +kernel
theorem d_As_nearest_48 : decode b_As_nearest 48 = .ok (.ireturn, 1) := by decide +kernel
theorem mf_As_nearest : zMF y_As_nearest b_As_nearest 5 (some .int) 2 := ⟨zGW_in 589 (by decide +kernel) (by decide +kernel), zGW_in 130 (by decide +kernel) (by decide +kernel), by decide +kernel⟩
theorem st_As_nearest : Cond.static y_As_nearest ∈ zGW := zGW_in 588 (by decide +kernel) (by decide +kernel)
def y_As_without : MethodName := ⟨zNm 1, "without", "(I)I"⟩
abbrev b_As_without : ByteArray := prog_2_method_3_code
theorem d_As_without_0 : decode b_As_without 0 = .ok (.iload_n 1, 1) := by decide +kernel
theorem d_As_without_1 : decode b_As_without 1 = .ok (.tableswitch 43 0 2 #[27, 34, 36], 27) := by decide +kernel
theorem d_As_without_28 : decode b_As_without 28 = .ok (.aload_n 0, 1) := by decide +kernel
theorem d_As_without_29 : decode b_As_without 29 = .ok (.getfield 15, 3) := by decide +kernel
theorem d_As_without_32 : decode b_As_without 32 = .ok (.iconst 2, 1) := by decide +kernel
theorem d_As_without_33 : decode b_As_without 33 = .ok (.iaload, 1) := by decide +kernel
theorem d_As_without_34 : decode b_As_without 34 = .ok (.ireturn, 1) := by decide +kernel
theorem d_As_without_35 : decode b_As_without 35 = .ok (.iconst 1, 1) := by decide +kernel
theorem d_As_without_36 : decode b_As_without 36 = .ok (.ireturn, 1) := by decide +kernel
theorem d_As_without_37 : decode b_As_without 37 = .ok (.aload_n 0, 1) := by decide +kernel
theorem d_As_without_38 : decode b_As_without 38 = .ok (.getfield 15, 3) := by decide +kernel
theorem d_As_without_41 : decode b_As_without 41 = .ok (.iconst 4, 1) := by decide +kernel
theorem d_As_without_42 : decode b_As_without 42 = .ok (.iaload, 1) := by decide +kernel
theorem d_As_without_43 : decode b_As_without 43 = .ok (.ireturn, 1) := by decide +kernel
theorem d_As_without_44 : decode b_As_without 44 = .ok (.iconst 0, 1) := by decide +kernel
theorem d_As_without_45 : decode b_As_without 45 = .ok (.ireturn, 1) := by decide +kernel
theorem mf_As_without : zMF y_As_without b_As_without 2 (some .int) 1 := ⟨zGW_in 593 (by decide +kernel) (by decide +kernel), zGW_in 130 (by decide +kernel) (by decide +kernel), by decide +kernel⟩
theorem in_As_without : Cond.instanceMethod y_As_without ∈ zGW := zGW_in 592 (by decide +kernel) (by decide +kernel)
theorem se_As_without : Cond.selects y_As_without.cls y_As_without y_As_without ∈ zGW := zGW_in 4 (by decide +kernel) (by decide +kernel)
def y_As_told : MethodName := ⟨zNm 1, "told", "(LEelClerk$Parish;LEelClerk$Text;III)I"⟩
abbrev b_As_told : ByteArray := prog_2_method_2_code
theorem d_As_told_0 : decode b_As_told 0 = .ok (.iload_n 3, 1) := by decide +kernel
theorem d_As_told_1 : decode b_As_told 1 = .ok (.iconst 2, 1) := by decide +kernel
theorem d_As_told_2 : decode b_As_told 2 = .ok (.if_icmp .ne 16, 3) := by decide +kernel
theorem d_As_told_5 : decode b_As_told 5 = .ok (.aload_n 1, 1) := by decide +kernel
theorem d_As_told_6 : decode b_As_told 6 = .ok (.iload 4, 2) := by decide +kernel
theorem d_As_told_8 : decode b_As_told 8 = .ok (.aload_n 0, 1) := by decide +kernel
theorem d_As_told_9 : decode b_As_told 9 = .ok (.getfield 15, 3) := by decide +kernel
theorem d_As_told_12 : decode b_As_told 12 = .ok (.invokevirtual 19, 3) := by decide +kernel
theorem d_As_told_15 : decode b_As_told 15 = .ok (.goto 15, 3) := by decide +kernel
theorem d_As_told_18 : decode b_As_told 18 = .ok (.aload_n 1, 1) := by decide +kernel
theorem d_As_told_19 : decode b_As_told 19 = .ok (.iload 4, 2) := by decide +kernel
theorem d_As_told_21 : decode b_As_told 21 = .ok (.iload 5, 2) := by decide +kernel
theorem d_As_told_23 : decode b_As_told 23 = .ok (.aload_n 0, 1) := by decide +kernel
theorem d_As_told_24 : decode b_As_told 24 = .ok (.getfield 15, 3) := by decide +kernel
theorem d_As_told_27 : decode b_As_told 27 = .ok (.invokevirtual 25, 3) := by decide +kernel
theorem d_As_told_30 : decode b_As_told 30 = .ok (.aload_n 2, 1) := by decide +kernel
theorem d_As_told_31 : decode b_As_told 31 = .ok (.ifnonnull 7, 3) := by decide +kernel
theorem d_As_told_34 : decode b_As_told 34 = .ok (.iconst 0, 1) := by decide +kernel
theorem d_As_told_35 : decode b_As_told 35 = .ok (.goto 7, 3) := by decide +kernel
theorem d_As_told_38 : decode b_As_told 38 = .ok (.aload_n 2, 1) := by decide +kernel
theorem d_As_told_39 : decode b_As_told 39 = .ok (.getfield 29, 3) := by decide +kernel
theorem d_As_told_42 : decode b_As_told 42 = .ok (.istore 6, 2) := by decide +kernel
theorem d_As_told_44 : decode b_As_told 44 = .ok (.iload 6, 2) := by decide +kernel
theorem d_As_told_46 : decode b_As_told 46 = .ok (.iconst 1, 1) := by decide +kernel
theorem d_As_told_47 : decode b_As_told 47 = .ok (.isub, 1) := by decide +kernel
theorem d_As_told_48 : decode b_As_told 48 = .ok (.istore 7, 2) := by decide +kernel
theorem d_As_told_50 : decode b_As_told 50 = .ok (.iload 7, 2) := by decide +kernel
theorem d_As_told_52 : decode b_As_told 52 = .ok (.ifCond .lt 76, 3) := by decide +kernel
theorem d_As_told_55 : decode b_As_told 55 = .ok (.aload_n 2, 1) := by decide +kernel
theorem d_As_told_56 : decode b_As_told 56 = .ok (.ifnull 72, 3) := by decide +kernel
theorem d_As_told_59 : decode b_As_told 59 = .ok (.aload_n 2, 1) := by decide +kernel
theorem d_As_told_60 : decode b_As_told 60 = .ok (.iload 7, 2) := by decide +kernel
theorem d_As_told_62 : decode b_As_told 62 = .ok (.invokevirtual 35, 3) := by decide +kernel
theorem d_As_told_65 : decode b_As_told 65 = .ok (.iload_n 3, 1) := by decide +kernel
theorem d_As_told_66 : decode b_As_told 66 = .ok (.if_icmp .ne 56, 3) := by decide +kernel
theorem d_As_told_69 : decode b_As_told 69 = .ok (.aload_n 2, 1) := by decide +kernel
theorem d_As_told_70 : decode b_As_told 70 = .ok (.iload 7, 2) := by decide +kernel
theorem d_As_told_72 : decode b_As_told 72 = .ok (.iconst 2, 1) := by decide +kernel
theorem d_As_told_73 : decode b_As_told 73 = .ok (.aload_n 0, 1) := by decide +kernel
theorem d_As_told_74 : decode b_As_told 74 = .ok (.getfield 15, 3) := by decide +kernel
theorem d_As_told_77 : decode b_As_told 77 = .ok (.aload_n 0, 1) := by decide +kernel
theorem d_As_told_78 : decode b_As_told 78 = .ok (.getfield 9, 3) := by decide +kernel
theorem d_As_told_81 : decode b_As_told 81 = .ok (.invokevirtual 39, 3) := by decide +kernel
theorem d_As_told_84 : decode b_As_told 84 = .ok (.lconst 1, 1) := by decide +kernel
theorem d_As_told_85 : decode b_As_told 85 = .ok (.lcmp, 1) := by decide +kernel
theorem d_As_told_86 : decode b_As_told 86 = .ok (.ifCond .ne 36, 3) := by decide +kernel
theorem d_As_told_89 : decode b_As_told 89 = .ok (.aload_n 2, 1) := by decide +kernel
theorem d_As_told_90 : decode b_As_told 90 = .ok (.iload 7, 2) := by decide +kernel
theorem d_As_told_92 : decode b_As_told 92 = .ok (.iconst 0, 1) := by decide +kernel
theorem d_As_told_93 : decode b_As_told 93 = .ok (.aload_n 0, 1) := by decide +kernel
theorem d_As_told_94 : decode b_As_told 94 = .ok (.getfield 15, 3) := by decide +kernel
theorem d_As_told_97 : decode b_As_told 97 = .ok (.aload_n 0, 1) := by decide +kernel
theorem d_As_told_98 : decode b_As_told 98 = .ok (.getfield 9, 3) := by decide +kernel
theorem d_As_told_101 : decode b_As_told 101 = .ok (.invokevirtual 39, 3) := by decide +kernel
theorem d_As_told_104 : decode b_As_told 104 = .ok (.lstore 8, 2) := by decide +kernel
theorem d_As_told_106 : decode b_As_told 106 = .ok (.lload 8, 2) := by decide +kernel
theorem d_As_told_108 : decode b_As_told 108 = .ok (.ldc2_w 43, 3) := by decide +kernel
theorem d_As_told_111 : decode b_As_told 111 = .ok (.lcmp, 1) := by decide +kernel
theorem d_As_told_112 : decode b_As_told 112 = .ok (.ifCond .eq 10, 3) := by decide +kernel
theorem d_As_told_115 : decode b_As_told 115 = .ok (.iload_n 3, 1) := by decide +kernel
theorem d_As_told_116 : decode b_As_told 116 = .ok (.lload 8, 2) := by decide +kernel
theorem d_As_told_118 : decode b_As_told 118 = .ok (.invokestatic 45, 3) := by decide +kernel
theorem d_As_told_121 : decode b_As_told 121 = .ok (.ireturn, 1) := by decide +kernel
theorem d_As_told_122 : decode b_As_told 122 = .ok (.iinc 7 (-1), 3) := by decide +kernel
theorem d_As_told_125 : decode b_As_told 125 = .ok (.goto (-75), 3) := by decide +kernel
theorem d_As_told_128 : decode b_As_told 128 = .ok (.aload_n 0, 1) := by decide +kernel
theorem d_As_told_129 : decode b_As_told 129 = .ok (.iload_n 3, 1) := by decide +kernel
theorem d_As_told_130 : decode b_As_told 130 = .ok (.invokevirtual 49, 3) := by decide +kernel
theorem d_As_told_133 : decode b_As_told 133 = .ok (.ireturn, 1) := by decide +kernel
theorem mf_As_told : zMF y_As_told b_As_told 10 (some .int) 5 := ⟨zGW_in 553 (by decide +kernel) (by decide +kernel), zGW_in 130 (by decide +kernel) (by decide +kernel), by decide +kernel⟩
theorem in_As_told : Cond.instanceMethod y_As_told ∈ zGW := zGW_in 551 (by decide +kernel) (by decide +kernel)
theorem se_As_told : Cond.selects y_As_told.cls y_As_told y_As_told ∈ zGW := zGW_in 552 (by decide +kernel) (by decide +kernel)
def y_E_of : MethodName := ⟨zNm 0, "of", "(II)I"⟩
abbrev b_E_of : ByteArray := prog_1_method_4_code
theorem d_E_of_0 : decode b_E_of 0 = .ok (.aload_n 0, 1) := by decide +kernel
theorem d_E_of_1 : decode b_E_of 1 = .ok (.getfield 12, 3) := by decide +kernel
theorem d_E_of_4 : decode b_E_of 4 = .ok (.iload_n 1, 1) := by decide +kernel
theorem d_E_of_5 : decode b_E_of 5 = .ok (.invokevirtual 126, 3) := by decide +kernel
theorem d_E_of_8 : decode b_E_of 8 = .ok (.ifCond .ne 5, 3) := by decide +kernel
theorem d_E_of_11 : decode b_E_of 11 = .ok (.iconst (-1), 1) := by decide +kernel
theorem d_E_of_12 : decode b_E_of 12 = .ok (.ireturn, 1) := by decide +kernel
theorem d_E_of_13 : decode b_E_of 13 = .ok (.iload_n 2, 1) := by decide +kernel
theorem d_E_of_14 : decode b_E_of 14 = .ok (.tableswitch 66 0 2 #[26, 35, 44], 26) := by decide +kernel
theorem d_E_of_40 : decode b_E_of 40 = .ok (.aload_n 0, 1) := by decide +kernel
theorem d_E_of_41 : decode b_E_of 41 = .ok (.getfield 12, 3) := by decide +kernel
theorem d_E_of_44 : decode b_E_of 44 = .ok (.iload_n 1, 1) := by decide +kernel
theorem d_E_of_45 : decode b_E_of 45 = .ok (.invokevirtual 134, 3) := by decide +kernel
theorem d_E_of_48 : decode b_E_of 48 = .ok (.ireturn, 1) := by decide +kernel
theorem d_E_of_49 : decode b_E_of 49 = .ok (.aload_n 0, 1) := by decide +kernel
theorem d_E_of_50 : decode b_E_of 50 = .ok (.getfield 12, 3) := by decide +kernel
theorem d_E_of_53 : decode b_E_of 53 = .ok (.iload_n 1, 1) := by decide +kernel
theorem d_E_of_54 : decode b_E_of 54 = .ok (.invokevirtual 137, 3) := by decide +kernel
theorem d_E_of_57 : decode b_E_of 57 = .ok (.ireturn, 1) := by decide +kernel
theorem d_E_of_58 : decode b_E_of 58 = .ok (.aload_n 0, 1) := by decide +kernel
theorem d_E_of_59 : decode b_E_of 59 = .ok (.getfield 53, 3) := by decide +kernel
theorem d_E_of_62 : decode b_E_of 62 = .ok (.aload_n 0, 1) := by decide +kernel
theorem d_E_of_63 : decode b_E_of 63 = .ok (.getfield 12, 3) := by decide +kernel
theorem d_E_of_66 : decode b_E_of 66 = .ok (.aload_n 0, 1) := by decide +kernel
theorem d_E_of_67 : decode b_E_of 67 = .ok (.getfield 12, 3) := by decide +kernel
theorem d_E_of_70 : decode b_E_of 70 = .ok (.invokevirtual 140, 3) := by decide +kernel
theorem d_E_of_73 : decode b_E_of 73 = .ok (.iconst 2, 1) := by decide +kernel
theorem d_E_of_74 : decode b_E_of 74 = .ok (.iload_n 1, 1) := by decide +kernel
theorem d_E_of_75 : decode b_E_of 75 = .ok (.iconst (-1), 1) := by decide +kernel
theorem d_E_of_76 : decode b_E_of 76 = .ok (.invokevirtual 144, 3) := by decide +kernel
theorem d_E_of_79 : decode b_E_of 79 = .ok (.ireturn, 1) := by decide +kernel
theorem d_E_of_80 : decode b_E_of 80 = .ok (.iconst (-1), 1) := by decide +kernel
theorem d_E_of_81 : decode b_E_of 81 = .ok (.ireturn, 1) := by decide +kernel
theorem mf_E_of : zMF y_E_of b_E_of 3 (some .int) 2 := ⟨zGW_in 533 (by decide +kernel) (by decide +kernel), zGW_in 124 (by decide +kernel) (by decide +kernel), by decide +kernel⟩
theorem in_E_of : Cond.instanceMethod y_E_of ∈ zGW := zGW_in 531 (by decide +kernel) (by decide +kernel)
theorem se_E_of : Cond.selects y_E_of.cls y_E_of y_E_of ∈ zGW := zGW_in 532 (by decide +kernel) (by decide +kernel)
def y_Ps_isShut : MethodName := ⟨zNm 5, "isShut", "(I)Z"⟩
abbrev b_Ps_isShut : ByteArray := prog_6_method_11_code
theorem d_Ps_isShut_0 : decode b_Ps_isShut 0 = .ok (.iload_n 1, 1) := by decide +kernel
theorem d_Ps_isShut_1 : decode b_Ps_isShut 1 = .ok (.ifCond .lt 20, 3) := by decide +kernel
theorem d_Ps_isShut_4 : decode b_Ps_isShut 4 = .ok (.aload_n 0, 1) := by decide +kernel
theorem d_Ps_isShut_5 : decode b_Ps_isShut 5 = .ok (.getfield 26, 3) := by decide +kernel
theorem d_Ps_isShut_8 : decode b_Ps_isShut 8 = .ok (.iload_n 1, 1) := by decide +kernel
theorem d_Ps_isShut_9 : decode b_Ps_isShut 9 = .ok (.lushr, 1) := by decide +kernel
theorem d_Ps_isShut_10 : decode b_Ps_isShut 10 = .ok (.lconst 1, 1) := by decide +kernel
theorem d_Ps_isShut_11 : decode b_Ps_isShut 11 = .ok (.land, 1) := by decide +kernel
theorem d_Ps_isShut_12 : decode b_Ps_isShut 12 = .ok (.lconst 1, 1) := by decide +kernel
theorem d_Ps_isShut_13 : decode b_Ps_isShut 13 = .ok (.lcmp, 1) := by decide +kernel
theorem d_Ps_isShut_14 : decode b_Ps_isShut 14 = .ok (.ifCond .ne 7, 3) := by decide +kernel
theorem d_Ps_isShut_17 : decode b_Ps_isShut 17 = .ok (.iconst 1, 1) := by decide +kernel
theorem d_Ps_isShut_18 : decode b_Ps_isShut 18 = .ok (.goto 4, 3) := by decide +kernel
theorem d_Ps_isShut_21 : decode b_Ps_isShut 21 = .ok (.iconst 0, 1) := by decide +kernel
theorem d_Ps_isShut_22 : decode b_Ps_isShut 22 = .ok (.ireturn, 1) := by decide +kernel
theorem mf_Ps_isShut : zMF y_Ps_isShut b_Ps_isShut 2 (some .boolean) 1 := ⟨zGW_in 603 (by decide +kernel) (by decide +kernel), zGW_in 125 (by decide +kernel) (by decide +kernel), by decide +kernel⟩
theorem in_Ps_isShut : Cond.instanceMethod y_Ps_isShut ∈ zGW := zGW_in 601 (by decide +kernel) (by decide +kernel)
theorem se_Ps_isShut : Cond.selects y_Ps_isShut.cls y_Ps_isShut y_Ps_isShut ∈ zGW := zGW_in 602 (by decide +kernel) (by decide +kernel)
def y_E_kindTold : MethodName := ⟨zNm 0, "kindTold", "(I)I"⟩
abbrev b_E_kindTold : ByteArray := prog_1_method_46_code
theorem d_E_kindTold_0 : decode b_E_kindTold 0 = .ok (.iload_n 0, 1) := by decide +kernel
theorem d_E_kindTold_1 : decode b_E_kindTold 1 = .ok (.iconst 2, 1) := by decide +kernel
theorem d_E_kindTold_2 : decode b_E_kindTold 2 = .ok (.if_icmp .ne 5, 3) := by decide +kernel
theorem d_E_kindTold_5 : decode b_E_kindTold 5 = .ok (.iconst 0, 1) := by decide +kernel
theorem d_E_kindTold_6 : decode b_E_kindTold 6 = .ok (.ireturn, 1) := by decide +kernel
theorem d_E_kindTold_7 : decode b_E_kindTold 7 = .ok (.iload_n 0, 1) := by decide +kernel
theorem d_E_kindTold_8 : decode b_E_kindTold 8 = .ok (.iconst 3, 1) := by decide +kernel
theorem d_E_kindTold_9 : decode b_E_kindTold 9 = .ok (.if_icmp .ne 7, 3) := by decide +kernel
theorem d_E_kindTold_12 : decode b_E_kindTold 12 = .ok (.iconst 1, 1) := by decide +kernel
theorem d_E_kindTold_13 : decode b_E_kindTold 13 = .ok (.goto 4, 3) := by decide +kernel
theorem d_E_kindTold_16 : decode b_E_kindTold 16 = .ok (.iconst 3, 1) := by decide +kernel
theorem d_E_kindTold_17 : decode b_E_kindTold 17 = .ok (.ireturn, 1) := by decide +kernel
theorem mf_E_kindTold : zMF y_E_kindTold b_E_kindTold 1 (some .int) 1 := ⟨zGW_in 606 (by decide +kernel) (by decide +kernel), zGW_in 124 (by decide +kernel) (by decide +kernel), by decide +kernel⟩
theorem st_E_kindTold : Cond.static y_E_kindTold ∈ zGW := zGW_in 605 (by decide +kernel) (by decide +kernel)
def y_E_between : MethodName := ⟨zNm 0, "between", "(III)I"⟩
abbrev b_E_between : ByteArray := prog_1_method_5_code
theorem d_E_between_0 : decode b_E_between 0 = .ok (.aload_n 0, 1) := by decide +kernel
theorem d_E_between_1 : decode b_E_between 1 = .ok (.getfield 12, 3) := by decide +kernel
theorem d_E_between_4 : decode b_E_between 4 = .ok (.iload_n 1, 1) := by decide +kernel
theorem d_E_between_5 : decode b_E_between 5 = .ok (.iload_n 2, 1) := by decide +kernel
theorem d_E_between_6 : decode b_E_between 6 = .ok (.invokevirtual 148, 3) := by decide +kernel
theorem d_E_between_9 : decode b_E_between 9 = .ok (.istore 4, 2) := by decide +kernel
theorem d_E_between_11 : decode b_E_between 11 = .ok (.iload 4, 2) := by decide +kernel
theorem d_E_between_13 : decode b_E_between 13 = .ok (.iconst (-1), 1) := by decide +kernel
theorem d_E_between_14 : decode b_E_between 14 = .ok (.if_icmp .eq 12, 3) := by decide +kernel
theorem d_E_between_17 : decode b_E_between 17 = .ok (.iload_n 3, 1) := by decide +kernel
theorem d_E_between_18 : decode b_E_between 18 = .ok (.ifCond .lt 8, 3) := by decide +kernel
theorem d_E_between_21 : decode b_E_between 21 = .ok (.iload_n 3, 1) := by decide +kernel
theorem d_E_between_22 : decode b_E_between 22 = .ok (.iconst 4, 1) := by decide +kernel
theorem d_E_between_23 : decode b_E_between 23 = .ok (.if_icmp .le 5, 3) := by decide +kernel
theorem d_E_between_26 : decode b_E_between 26 = .ok (.iconst (-1), 1) := by decide +kernel
theorem d_E_between_27 : decode b_E_between 27 = .ok (.ireturn, 1) := by decide +kernel
theorem d_E_between_28 : decode b_E_between 28 = .ok (.iload_n 3, 1) := by decide +kernel
theorem d_E_between_29 : decode b_E_between 29 = .ok (.ifCond .ne 13, 3) := by decide +kernel
theorem d_E_between_32 : decode b_E_between 32 = .ok (.aload_n 0, 1) := by decide +kernel
theorem d_E_between_33 : decode b_E_between 33 = .ok (.getfield 12, 3) := by decide +kernel
theorem d_E_between_36 : decode b_E_between 36 = .ok (.iload 4, 2) := by decide +kernel
theorem d_E_between_38 : decode b_E_between 38 = .ok (.invokevirtual 151, 3) := by decide +kernel
theorem d_E_between_41 : decode b_E_between 41 = .ok (.ireturn, 1) := by decide +kernel
theorem d_E_between_42 : decode b_E_between 42 = .ok (.iload_n 3, 1) := by decide +kernel
theorem d_E_between_43 : decode b_E_between 43 = .ok (.iconst 1, 1) := by decide +kernel
theorem d_E_between_44 : decode b_E_between 44 = .ok (.if_icmp .ne 21, 3) := by decide +kernel
theorem d_E_between_47 : decode b_E_between 47 = .ok (.aload_n 0, 1) := by decide +kernel
theorem d_E_between_48 : decode b_E_between 48 = .ok (.getfield 12, 3) := by decide +kernel
theorem d_E_between_51 : decode b_E_between 51 = .ok (.iload 4, 2) := by decide +kernel
theorem d_E_between_53 : decode b_E_between 53 = .ok (.invokevirtual 154, 3) := by decide +kernel
theorem d_E_between_56 : decode b_E_between 56 = .ok (.ifCond .eq 7, 3) := by decide +kernel
theorem d_E_between_59 : decode b_E_between 59 = .ok (.iconst 1, 1) := by decide +kernel
theorem d_E_between_60 : decode b_E_between 60 = .ok (.goto 4, 3) := by decide +kernel
theorem d_E_between_63 : decode b_E_between 63 = .ok (.iconst 0, 1) := by decide +kernel
theorem d_E_between_64 : decode b_E_between 64 = .ok (.ireturn, 1) := by decide +kernel
theorem d_E_between_65 : decode b_E_between 65 = .ok (.aload_n 0, 1) := by decide +kernel
theorem d_E_between_66 : decode b_E_between 66 = .ok (.getfield 12, 3) := by decide +kernel
theorem d_E_between_69 : decode b_E_between 69 = .ok (.iload 4, 2) := by decide +kernel
theorem d_E_between_71 : decode b_E_between 71 = .ok (.invokevirtual 151, 3) := by decide +kernel
theorem d_E_between_74 : decode b_E_between 74 = .ok (.ifCond .ne 5, 3) := by decide +kernel
theorem d_E_between_77 : decode b_E_between 77 = .ok (.iconst (-1), 1) := by decide +kernel
theorem d_E_between_78 : decode b_E_between 78 = .ok (.ireturn, 1) := by decide +kernel
theorem d_E_between_79 : decode b_E_between 79 = .ok (.aload_n 0, 1) := by decide +kernel
theorem d_E_between_80 : decode b_E_between 80 = .ok (.getfield 53, 3) := by decide +kernel
theorem d_E_between_83 : decode b_E_between 83 = .ok (.aload_n 0, 1) := by decide +kernel
theorem d_E_between_84 : decode b_E_between 84 = .ok (.getfield 12, 3) := by decide +kernel
theorem d_E_between_87 : decode b_E_between 87 = .ok (.aload_n 0, 1) := by decide +kernel
theorem d_E_between_88 : decode b_E_between 88 = .ok (.getfield 12, 3) := by decide +kernel
theorem d_E_between_91 : decode b_E_between 91 = .ok (.invokevirtual 140, 3) := by decide +kernel
theorem d_E_between_94 : decode b_E_between 94 = .ok (.iload_n 3, 1) := by decide +kernel
theorem d_E_between_95 : decode b_E_between 95 = .ok (.invokestatic 157, 3) := by decide +kernel
theorem d_E_between_98 : decode b_E_between 98 = .ok (.iload_n 1, 1) := by decide +kernel
theorem d_E_between_99 : decode b_E_between 99 = .ok (.iload_n 2, 1) := by decide +kernel
theorem d_E_between_100 : decode b_E_between 100 = .ok (.invokevirtual 144, 3) := by decide +kernel
theorem d_E_between_103 : decode b_E_between 103 = .ok (.ireturn, 1) := by decide +kernel
theorem mf_E_between : zMF y_E_between b_E_between 5 (some .int) 3 := ⟨zGW_in 597 (by decide +kernel) (by decide +kernel), zGW_in 124 (by decide +kernel) (by decide +kernel), by decide +kernel⟩
theorem in_E_between : Cond.instanceMethod y_E_between ∈ zGW := zGW_in 595 (by decide +kernel) (by decide +kernel)
theorem se_E_between : Cond.selects y_E_between.cls y_E_between y_E_between ∈ zGW := zGW_in 596 (by decide +kernel) (by decide +kernel)
def y_E_topOfTerm : MethodName := ⟨zNm 0, "topOfTerm", "(I)I"⟩
abbrev b_E_topOfTerm : ByteArray := prog_1_method_47_code
theorem d_E_topOfTerm_0 : decode b_E_topOfTerm 0 = .ok (.iload_n 0, 1) := by decide +kernel
theorem d_E_topOfTerm_1 : decode b_E_topOfTerm 1 = .ok (.ifCond .ne 7, 3) := by decide +kernel
theorem d_E_topOfTerm_4 : decode b_E_topOfTerm 4 = .ok (.sipush 999, 3) := by decide +kernel
theorem d_E_topOfTerm_7 : decode b_E_topOfTerm 7 = .ok (.ireturn, 1) := by decide +kernel
theorem d_E_topOfTerm_8 : decode b_E_topOfTerm 8 = .ok (.iload_n 0, 1) := by decide +kernel
theorem d_E_topOfTerm_9 : decode b_E_topOfTerm 9 = .ok (.iconst 1, 1) := by decide +kernel
theorem d_E_topOfTerm_10 : decode b_E_topOfTerm 10 = .ok (.if_icmp .ne 8, 3) := by decide +kernel
theorem d_E_topOfTerm_13 : decode b_E_topOfTerm 13 = .ok (.bipush 10, 2) := by decide +kernel
theorem d_E_topOfTerm_15 : decode b_E_topOfTerm 15 = .ok (.goto 5, 3) := by decide +kernel
theorem d_E_topOfTerm_18 : decode b_E_topOfTerm 18 = .ok (.bipush 9, 2) := by decide +kernel
theorem d_E_topOfTerm_20 : decode b_E_topOfTerm 20 = .ok (.ireturn, 1) := by decide +kernel
theorem mf_E_topOfTerm : zMF y_E_topOfTerm b_E_topOfTerm 1 (some .int) 1 := ⟨zGW_in 613 (by decide +kernel) (by decide +kernel), zGW_in 124 (by decide +kernel) (by decide +kernel), by decide +kernel⟩
theorem st_E_topOfTerm : Cond.static y_E_topOfTerm ∈ zGW := zGW_in 612 (by decide +kernel) (by decide +kernel)
def y_Ps_term : MethodName := ⟨zNm 5, "term", "(I)I"⟩
abbrev b_Ps_term : ByteArray := prog_6_method_14_code
theorem d_Ps_term_0 : decode b_Ps_term 0 = .ok (.iload_n 1, 1) := by decide +kernel
theorem d_Ps_term_1 : decode b_Ps_term 1 = .ok (.ifCond .ne 8, 3) := by decide +kernel
theorem d_Ps_term_4 : decode b_Ps_term 4 = .ok (.aload_n 0, 1) := by decide +kernel
theorem d_Ps_term_5 : decode b_Ps_term 5 = .ok (.getfield 32, 3) := by decide +kernel
theorem d_Ps_term_8 : decode b_Ps_term 8 = .ok (.ireturn, 1) := by decide +kernel
theorem d_Ps_term_9 : decode b_Ps_term 9 = .ok (.iload_n 1, 1) := by decide +kernel
theorem d_Ps_term_10 : decode b_Ps_term 10 = .ok (.iconst 1, 1) := by decide +kernel
theorem d_Ps_term_11 : decode b_Ps_term 11 = .ok (.if_icmp .ne 10, 3) := by decide +kernel
theorem d_Ps_term_14 : decode b_Ps_term 14 = .ok (.aload_n 0, 1) := by decide +kernel
theorem d_Ps_term_15 : decode b_Ps_term 15 = .ok (.getfield 35, 3) := by decide +kernel
theorem d_Ps_term_18 : decode b_Ps_term 18 = .ok (.goto 7, 3) := by decide +kernel
theorem d_Ps_term_21 : decode b_Ps_term 21 = .ok (.aload_n 0, 1) := by decide +kernel
theorem d_Ps_term_22 : decode b_Ps_term 22 = .ok (.getfield 38, 3) := by decide +kernel
theorem d_Ps_term_25 : decode b_Ps_term 25 = .ok (.ireturn, 1) := by decide +kernel
theorem mf_Ps_term : zMF y_Ps_term b_Ps_term 2 (some .int) 1 := ⟨zGW_in 617 (by decide +kernel) (by decide +kernel), zGW_in 125 (by decide +kernel) (by decide +kernel), by decide +kernel⟩
theorem in_Ps_term : Cond.instanceMethod y_Ps_term ∈ zGW := zGW_in 615 (by decide +kernel) (by decide +kernel)
theorem se_Ps_term : Cond.selects y_Ps_term.cls y_Ps_term y_Ps_term ∈ zGW := zGW_in 616 (by decide +kernel) (by decide +kernel)
def y_Ps_setTerm : MethodName := ⟨zNm 5, "setTerm", "(II)V"⟩
abbrev b_Ps_setTerm : ByteArray := prog_6_method_15_code
theorem d_Ps_setTerm_0 : decode b_Ps_setTerm 0 = .ok (.iload_n 1, 1) := by decide +kernel
theorem d_Ps_setTerm_1 : decode b_Ps_setTerm 1 = .ok (.ifCond .ne 11, 3) := by decide +kernel
theorem d_Ps_setTerm_4 : decode b_Ps_setTerm 4 = .ok (.aload_n 0, 1) := by decide +kernel
theorem d_Ps_setTerm_5 : decode b_Ps_setTerm 5 = .ok (.iload_n 2, 1) := by decide +kernel
theorem d_Ps_setTerm_6 : decode b_Ps_setTerm 6 = .ok (.putfield 32, 3) := by decide +kernel
theorem d_Ps_setTerm_9 : decode b_Ps_setTerm 9 = .ok (.goto 21, 3) := by decide +kernel
theorem d_Ps_setTerm_12 : decode b_Ps_setTerm 12 = .ok (.iload_n 1, 1) := by decide +kernel
theorem d_Ps_setTerm_13 : decode b_Ps_setTerm 13 = .ok (.iconst 1, 1) := by decide +kernel
theorem d_Ps_setTerm_14 : decode b_Ps_setTerm 14 = .ok (.if_icmp .ne 11, 3) := by decide +kernel
theorem d_Ps_setTerm_17 : decode b_Ps_setTerm 17 = .ok (.aload_n 0, 1) := by decide +kernel
theorem d_Ps_setTerm_18 : decode b_Ps_setTerm 18 = .ok (.iload_n 2, 1) := by decide +kernel
theorem d_Ps_setTerm_19 : decode b_Ps_setTerm 19 = .ok (.putfield 35, 3) := by decide +kernel
theorem d_Ps_setTerm_22 : decode b_Ps_setTerm 22 = .ok (.goto 8, 3) := by decide +kernel
theorem d_Ps_setTerm_25 : decode b_Ps_setTerm 25 = .ok (.aload_n 0, 1) := by decide +kernel
theorem d_Ps_setTerm_26 : decode b_Ps_setTerm 26 = .ok (.iload_n 2, 1) := by decide +kernel
theorem d_Ps_setTerm_27 : decode b_Ps_setTerm 27 = .ok (.putfield 38, 3) := by decide +kernel
theorem d_Ps_setTerm_30 : decode b_Ps_setTerm 30 = .ok (.return_, 1) := by decide +kernel
theorem mf_Ps_setTerm : zMF y_Ps_setTerm b_Ps_setTerm 3 none 2 := ⟨zGW_in 621 (by decide +kernel) (by decide +kernel), zGW_in 125 (by decide +kernel) (by decide +kernel), by decide +kernel⟩
theorem in_Ps_setTerm : Cond.instanceMethod y_Ps_setTerm ∈ zGW := zGW_in 619 (by decide +kernel) (by decide +kernel)
theorem se_Ps_setTerm : Cond.selects y_Ps_setTerm.cls y_Ps_setTerm y_Ps_setTerm ∈ zGW := zGW_in 620 (by decide +kernel) (by decide +kernel)
def y_E_terms : MethodName := ⟨zNm 0, "terms", "(II)I"⟩
abbrev b_E_terms : ByteArray := prog_1_method_6_code
theorem d_E_terms_0 : decode b_E_terms 0 = .ok (.iload_n 1, 1) := by decide +kernel
theorem d_E_terms_1 : decode b_E_terms 1 = .ok (.ifCond .lt 20, 3) := by decide +kernel
theorem d_E_terms_4 : decode b_E_terms 4 = .ok (.iload_n 1, 1) := by decide +kernel
theorem d_E_terms_5 : decode b_E_terms 5 = .ok (.iconst 2, 1) := by decide +kernel
theorem d_E_terms_6 : decode b_E_terms 6 = .ok (.if_icmp .gt 15, 3) := by decide +kernel
theorem d_E_terms_9 : decode b_E_terms 9 = .ok (.iload_n 2, 1) := by decide +kernel
theorem d_E_terms_10 : decode b_E_terms 10 = .ok (.ifCond .lt 11, 3) := by decide +kernel
theorem d_E_terms_13 : decode b_E_terms 13 = .ok (.iload_n 2, 1) := by decide +kernel
theorem d_E_terms_14 : decode b_E_terms 14 = .ok (.iload_n 1, 1) := by decide +kernel
theorem d_E_terms_15 : decode b_E_terms 15 = .ok (.invokestatic 160, 3) := by decide +kernel
theorem d_E_terms_18 : decode b_E_terms 18 = .ok (.if_icmp .le 9, 3) := by decide +kernel
theorem d_E_terms_21 : decode b_E_terms 21 = .ok (.aload_n 0, 1) := by decide +kernel
theorem d_E_terms_22 : decode b_E_terms 22 = .ok (.iconst (-1), 1) := by decide +kernel
theorem d_E_terms_23 : decode b_E_terms 23 = .ok (.invokevirtual 109, 3) := by decide +kernel
theorem d_E_terms_26 : decode b_E_terms 26 = .ok (.ireturn, 1) := by decide +kernel
theorem d_E_terms_27 : decode b_E_terms 27 = .ok (.aload_n 0, 1) := by decide +kernel
theorem d_E_terms_28 : decode b_E_terms 28 = .ok (.getfield 12, 3) := by decide +kernel
theorem d_E_terms_31 : decode b_E_terms 31 = .ok (.iload_n 1, 1) := by decide +kernel
theorem d_E_terms_32 : decode b_E_terms 32 = .ok (.invokevirtual 163, 3) := by decide +kernel
theorem d_E_terms_35 : decode b_E_terms 35 = .ok (.istore_n 3, 1) := by decide +kernel
theorem d_E_terms_36 : decode b_E_terms 36 = .ok (.aload_n 0, 1) := by decide +kernel
theorem d_E_terms_37 : decode b_E_terms 37 = .ok (.getfield 12, 3) := by decide +kernel
theorem d_E_terms_40 : decode b_E_terms 40 = .ok (.iload_n 1, 1) := by decide +kernel
theorem d_E_terms_41 : decode b_E_terms 41 = .ok (.iload_n 2, 1) := by decide +kernel
theorem d_E_terms_42 : decode b_E_terms 42 = .ok (.invokevirtual 166, 3) := by decide +kernel
theorem d_E_terms_45 : decode b_E_terms 45 = .ok (.aload_n 0, 1) := by decide +kernel
theorem d_E_terms_46 : decode b_E_terms 46 = .ok (.getfield 29, 3) := by decide +kernel
theorem d_E_terms_49 : decode b_E_terms 49 = .ok (.invokevirtual 116, 3) := by decide +kernel
theorem d_E_terms_52 : decode b_E_terms 52 = .ok (.aload_n 0, 1) := by decide +kernel
theorem d_E_terms_53 : decode b_E_terms 53 = .ok (.iload_n 3, 1) := by decide +kernel
theorem d_E_terms_54 : decode b_E_terms 54 = .ok (.invokevirtual 123, 3) := by decide +kernel
theorem d_E_terms_57 : decode b_E_terms 57 = .ok (.ireturn, 1) := by decide +kernel
theorem mf_E_terms : zMF y_E_terms b_E_terms 4 (some .int) 2 := ⟨zGW_in 610 (by decide +kernel) (by decide +kernel), zGW_in 124 (by decide +kernel) (by decide +kernel), by decide +kernel⟩
theorem in_E_terms : Cond.instanceMethod y_E_terms ∈ zGW := zGW_in 608 (by decide +kernel) (by decide +kernel)
theorem se_E_terms : Cond.selects y_E_terms.cls y_E_terms y_E_terms ∈ zGW := zGW_in 609 (by decide +kernel) (by decide +kernel)
def y_Ta_put : MethodName := ⟨zNm 9, "put", "(I)V"⟩
abbrev b_Ta_put : ByteArray := prog_10_method_2_code
theorem d_Ta_put_0 : decode b_Ta_put 0 = .ok (.bipush 24, 2) := by decide +kernel
theorem d_Ta_put_2 : decode b_Ta_put 2 = .ok (.istore_n 2, 1) := by decide +kernel
theorem d_Ta_put_3 : decode b_Ta_put 3 = .ok (.iload_n 2, 1) := by decide +kernel
theorem d_Ta_put_4 : decode b_Ta_put 4 = .ok (.ifCond .lt 51, 3) := by decide +kernel
theorem d_Ta_put_7 : decode b_Ta_put 7 = .ok (.aload_n 0, 1) := by decide +kernel
theorem d_Ta_put_8 : decode b_Ta_put 8 = .ok (.getfield 15, 3) := by decide +kernel
theorem d_Ta_put_11 : decode b_Ta_put 11 = .ok (.ifCond .lt 38, 3) := by decide +kernel
theorem d_Ta_put_14 : decode b_Ta_put 14 = .ok (.aload_n 0, 1) := by decide +kernel
theorem d_Ta_put_15 : decode b_Ta_put 15 = .ok (.getfield 15, 3) := by decide +kernel
theorem d_Ta_put_18 : decode b_Ta_put 18 = .ok (.aload_n 0, 1) := by decide +kernel
theorem d_Ta_put_19 : decode b_Ta_put 19 = .ok (.getfield 9, 3) := by decide +kernel
theorem d_Ta_put_22 : decode b_Ta_put 22 = .ok (.arraylength, 1) := by decide +kernel
theorem d_Ta_put_23 : decode b_Ta_put 23 = .ok (.if_icmp .ge 26, 3) := by decide +kernel
theorem d_Ta_put_26 : decode b_Ta_put 26 = .ok (.aload_n 0, 1) := by decide +kernel
theorem d_Ta_put_27 : decode b_Ta_put 27 = .ok (.getfield 9, 3) := by decide +kernel
theorem d_Ta_put_30 : decode b_Ta_put 30 = .ok (.aload_n 0, 1) := by decide +kernel
theorem d_Ta_put_31 : decode b_Ta_put 31 = .ok (.getfield 15, 3) := by decide +kernel
theorem d_Ta_put_34 : decode b_Ta_put 34 = .ok (.iload_n 1, 1) := by decide +kernel
theorem d_Ta_put_35 : decode b_Ta_put 35 = .ok (.iload_n 2, 1) := by decide +kernel
theorem d_Ta_put_36 : decode b_Ta_put 36 = .ok (.ishr, 1) := by decide +kernel
theorem d_Ta_put_37 : decode b_Ta_put 37 = .ok (.i2b, 1) := by decide +kernel
theorem d_Ta_put_38 : decode b_Ta_put 38 = .ok (.bastore, 1) := by decide +kernel
theorem d_Ta_put_39 : decode b_Ta_put 39 = .ok (.aload_n 0, 1) := by decide +kernel
theorem d_Ta_put_40 : decode b_Ta_put 40 = .ok (.dup, 1) := by decide +kernel
theorem d_Ta_put_41 : decode b_Ta_put 41 = .ok (.getfield 15, 3) := by decide +kernel
theorem d_Ta_put_44 : decode b_Ta_put 44 = .ok (.iconst 1, 1) := by decide +kernel
theorem d_Ta_put_45 : decode b_Ta_put 45 = .ok (.iadd, 1) := by decide +kernel
theorem d_Ta_put_46 : decode b_Ta_put 46 = .ok (.putfield 15, 3) := by decide +kernel
theorem d_Ta_put_49 : decode b_Ta_put 49 = .ok (.iinc 2 (-8), 3) := by decide +kernel
theorem d_Ta_put_52 : decode b_Ta_put 52 = .ok (.goto (-49), 3) := by decide +kernel
theorem d_Ta_put_55 : decode b_Ta_put 55 = .ok (.return_, 1) := by decide +kernel
theorem mf_Ta_put : zMF y_Ta_put b_Ta_put 3 none 1 := ⟨zGW_in 629 (by decide +kernel) (by decide +kernel), zGW_in 127 (by decide +kernel) (by decide +kernel), by decide +kernel⟩
theorem in_Ta_put : Cond.instanceMethod y_Ta_put ∈ zGW := zGW_in 627 (by decide +kernel) (by decide +kernel)
theorem se_Ta_put : Cond.selects y_Ta_put.cls y_Ta_put y_Ta_put ∈ zGW := zGW_in 628 (by decide +kernel) (by decide +kernel)
def y_E_feed : MethodName := ⟨zNm 0, "feed", "(IIIII)I"⟩
abbrev b_E_feed : ByteArray := prog_1_method_7_code
theorem d_E_feed_0 : decode b_E_feed 0 = .ok (.aload_n 0, 1) := by decide +kernel
theorem d_E_feed_1 : decode b_E_feed 1 = .ok (.getfield 39, 3) := by decide +kernel
theorem d_E_feed_4 : decode b_E_feed 4 = .ok (.getfield 170, 3) := by decide +kernel
theorem d_E_feed_7 : decode b_E_feed 7 = .ok (.bipush 20, 2) := by decide +kernel
theorem d_E_feed_9 : decode b_E_feed 9 = .ok (.iadd, 1) := by decide +kernel
theorem d_E_feed_10 : decode b_E_feed 10 = .ok (.sipush 400, 3) := by decide +kernel
theorem d_E_feed_13 : decode b_E_feed 13 = .ok (.if_icmp .le 5, 3) := by decide +kernel
theorem d_E_feed_16 : decode b_E_feed 16 = .ok (.iconst (-1), 1) := by decide +kernel
theorem d_E_feed_17 : decode b_E_feed 17 = .ok (.ireturn, 1) := by decide +kernel
theorem d_E_feed_18 : decode b_E_feed 18 = .ok (.aload_n 0, 1) := by decide +kernel
theorem d_E_feed_19 : decode b_E_feed 19 = .ok (.getfield 39, 3) := by decide +kernel
theorem d_E_feed_22 : decode b_E_feed 22 = .ok (.iload_n 1, 1) := by decide +kernel
theorem d_E_feed_23 : decode b_E_feed 23 = .ok (.invokevirtual 173, 3) := by decide +kernel
theorem d_E_feed_26 : decode b_E_feed 26 = .ok (.aload_n 0, 1) := by decide +kernel
theorem d_E_feed_27 : decode b_E_feed 27 = .ok (.getfield 39, 3) := by decide +kernel
theorem d_E_feed_30 : decode b_E_feed 30 = .ok (.iload_n 2, 1) := by decide +kernel
theorem d_E_feed_31 : decode b_E_feed 31 = .ok (.invokevirtual 173, 3) := by decide +kernel
theorem d_E_feed_34 : decode b_E_feed 34 = .ok (.aload_n 0, 1) := by decide +kernel
theorem d_E_feed_35 : decode b_E_feed 35 = .ok (.getfield 39, 3) := by decide +kernel
theorem d_E_feed_38 : decode b_E_feed 38 = .ok (.iload_n 3, 1) := by decide +kernel
theorem d_E_feed_39 : decode b_E_feed 39 = .ok (.invokevirtual 173, 3) := by decide +kernel
theorem d_E_feed_42 : decode b_E_feed 42 = .ok (.aload_n 0, 1) := by decide +kernel
theorem d_E_feed_43 : decode b_E_feed 43 = .ok (.getfield 39, 3) := by decide +kernel
theorem d_E_feed_46 : decode b_E_feed 46 = .ok (.iload 4, 2) := by decide +kernel
theorem d_E_feed_48 : decode b_E_feed 48 = .ok (.invokevirtual 173, 3) := by decide +kernel
theorem d_E_feed_51 : decode b_E_feed 51 = .ok (.aload_n 0, 1) := by decide +kernel
theorem d_E_feed_52 : decode b_E_feed 52 = .ok (.getfield 39, 3) := by decide +kernel
theorem d_E_feed_55 : decode b_E_feed 55 = .ok (.iload 5, 2) := by decide +kernel
theorem d_E_feed_57 : decode b_E_feed 57 = .ok (.invokevirtual 173, 3) := by decide +kernel
theorem d_E_feed_60 : decode b_E_feed 60 = .ok (.aload_n 0, 1) := by decide +kernel
theorem d_E_feed_61 : decode b_E_feed 61 = .ok (.getfield 39, 3) := by decide +kernel
theorem d_E_feed_64 : decode b_E_feed 64 = .ok (.getfield 170, 3) := by decide +kernel
theorem d_E_feed_67 : decode b_E_feed 67 = .ok (.ireturn, 1) := by decide +kernel
theorem mf_E_feed : zMF y_E_feed b_E_feed 6 (some .int) 5 := ⟨zGW_in 625 (by decide +kernel) (by decide +kernel), zGW_in 124 (by decide +kernel) (by decide +kernel), by decide +kernel⟩
theorem in_E_feed : Cond.instanceMethod y_E_feed ∈ zGW := zGW_in 623 (by decide +kernel) (by decide +kernel)
theorem se_E_feed : Cond.selects y_E_feed.cls y_E_feed y_E_feed ∈ zGW := zGW_in 624 (by decide +kernel) (by decide +kernel)
def y_E_end : MethodName := ⟨zNm 0, "end", "(I)I"⟩
abbrev b_E_end : ByteArray := prog_1_method_8_code
theorem d_E_end_0 : decode b_E_end 0 = .ok (.iload_n 1, 1) := by decide +kernel
theorem d_E_end_1 : decode b_E_end 1 = .ok (.ifCond .lt 14, 3) := by decide +kernel
theorem d_E_end_4 : decode b_E_end 4 = .ok (.iload_n 1, 1) := by decide +kernel
theorem d_E_end_5 : decode b_E_end 5 = .ok (.aload_n 0, 1) := by decide +kernel
theorem d_E_end_6 : decode b_E_end 6 = .ok (.getfield 39, 3) := by decide +kernel
theorem d_E_end_9 : decode b_E_end 9 = .ok (.getfield 170, 3) := by decide +kernel
theorem d_E_end_12 : decode b_E_end 12 = .ok (.if_icmp .le 5, 3) := by decide +kernel
theorem d_E_end_15 : decode b_E_end 15 = .ok (.iconst (-1), 1) := by decide +kernel
theorem d_E_end_16 : decode b_E_end 16 = .ok (.ireturn, 1) := by decide +kernel
theorem d_E_end_17 : decode b_E_end 17 = .ok (.aload_n 0, 1) := by decide +kernel
theorem d_E_end_18 : decode b_E_end 18 = .ok (.getfield 39, 3) := by decide +kernel
theorem d_E_end_21 : decode b_E_end 21 = .ok (.iload_n 1, 1) := by decide +kernel
theorem d_E_end_22 : decode b_E_end 22 = .ok (.putfield 170, 3) := by decide +kernel
theorem d_E_end_25 : decode b_E_end 25 = .ok (.iload_n 1, 1) := by decide +kernel
theorem d_E_end_26 : decode b_E_end 26 = .ok (.ireturn, 1) := by decide +kernel
theorem mf_E_end : zMF y_E_end b_E_end 2 (some .int) 1 := ⟨zGW_in 633 (by decide +kernel) (by decide +kernel), zGW_in 124 (by decide +kernel) (by decide +kernel), by decide +kernel⟩
theorem in_E_end : Cond.instanceMethod y_E_end ∈ zGW := zGW_in 631 (by decide +kernel) (by decide +kernel)
theorem se_E_end : Cond.selects y_E_end.cls y_E_end y_E_end ∈ zGW := zGW_in 632 (by decide +kernel) (by decide +kernel)
def y_Ta_byteAt : MethodName := ⟨zNm 9, "byteAt", "(I)I"⟩
abbrev b_Ta_byteAt : ByteArray := prog_10_method_3_code
theorem d_Ta_byteAt_0 : decode b_Ta_byteAt 0 = .ok (.iload_n 1, 1) := by decide +kernel
theorem d_Ta_byteAt_1 : decode b_Ta_byteAt 1 = .ok (.ifCond .lt 33, 3) := by decide +kernel
theorem d_Ta_byteAt_4 : decode b_Ta_byteAt 4 = .ok (.iload_n 1, 1) := by decide +kernel
theorem d_Ta_byteAt_5 : decode b_Ta_byteAt 5 = .ok (.aload_n 0, 1) := by decide +kernel
theorem d_Ta_byteAt_6 : decode b_Ta_byteAt 6 = .ok (.getfield 15, 3) := by decide +kernel
theorem d_Ta_byteAt_9 : decode b_Ta_byteAt 9 = .ok (.if_icmp .ge 25, 3) := by decide +kernel
theorem d_Ta_byteAt_12 : decode b_Ta_byteAt 12 = .ok (.iload_n 1, 1) := by decide +kernel
theorem d_Ta_byteAt_13 : decode b_Ta_byteAt 13 = .ok (.aload_n 0, 1) := by decide +kernel
theorem d_Ta_byteAt_14 : decode b_Ta_byteAt 14 = .ok (.getfield 9, 3) := by decide +kernel
theorem d_Ta_byteAt_17 : decode b_Ta_byteAt 17 = .ok (.arraylength, 1) := by decide +kernel
theorem d_Ta_byteAt_18 : decode b_Ta_byteAt 18 = .ok (.if_icmp .ge 16, 3) := by decide +kernel
theorem d_Ta_byteAt_21 : decode b_Ta_byteAt 21 = .ok (.aload_n 0, 1) := by decide +kernel
theorem d_Ta_byteAt_22 : decode b_Ta_byteAt 22 = .ok (.getfield 9, 3) := by decide +kernel
theorem d_Ta_byteAt_25 : decode b_Ta_byteAt 25 = .ok (.iload_n 1, 1) := by decide +kernel
theorem d_Ta_byteAt_26 : decode b_Ta_byteAt 26 = .ok (.baload, 1) := by decide +kernel
theorem d_Ta_byteAt_27 : decode b_Ta_byteAt 27 = .ok (.sipush 255, 3) := by decide +kernel
theorem d_Ta_byteAt_30 : decode b_Ta_byteAt 30 = .ok (.iand, 1) := by decide +kernel
theorem d_Ta_byteAt_31 : decode b_Ta_byteAt 31 = .ok (.goto 6, 3) := by decide +kernel
theorem d_Ta_byteAt_34 : decode b_Ta_byteAt 34 = .ok (.sipush 256, 3) := by decide +kernel
theorem d_Ta_byteAt_37 : decode b_Ta_byteAt 37 = .ok (.ireturn, 1) := by decide +kernel
theorem mf_Ta_byteAt : zMF y_Ta_byteAt b_Ta_byteAt 2 (some .int) 1 := ⟨zGW_in 645 (by decide +kernel) (by decide +kernel), zGW_in 127 (by decide +kernel) (by decide +kernel), by decide +kernel⟩
theorem in_Ta_byteAt : Cond.instanceMethod y_Ta_byteAt ∈ zGW := zGW_in 643 (by decide +kernel) (by decide +kernel)
theorem se_Ta_byteAt : Cond.selects y_Ta_byteAt.cls y_Ta_byteAt y_Ta_byteAt ∈ zGW := zGW_in 644 (by decide +kernel) (by decide +kernel)
def y_E_digFromTape : MethodName := ⟨zNm 0, "digFromTape", "(I)Z"⟩
abbrev b_E_digFromTape : ByteArray := prog_1_method_48_code
theorem d_E_digFromTape_0 : decode b_E_digFromTape 0 = .ok (.aload_n 0, 1) := by decide +kernel
theorem d_E_digFromTape_1 : decode b_E_digFromTape 1 = .ok (.getfield 39, 3) := by decide +kernel
theorem d_E_digFromTape_4 : decode b_E_digFromTape 4 = .ok (.iload_n 1, 1) := by decide +kernel
theorem d_E_digFromTape_5 : decode b_E_digFromTape 5 = .ok (.invokevirtual 363, 3) := by decide +kernel
theorem d_E_digFromTape_8 : decode b_E_digFromTape 8 = .ok (.istore_n 2, 1) := by decide +kernel
theorem d_E_digFromTape_9 : decode b_E_digFromTape 9 = .ok (.aload_n 0, 1) := by decide +kernel
theorem d_E_digFromTape_10 : decode b_E_digFromTape 10 = .ok (.getfield 39, 3) := by decide +kernel
theorem d_E_digFromTape_13 : decode b_E_digFromTape 13 = .ok (.iload_n 1, 1) := by decide +kernel
theorem d_E_digFromTape_14 : decode b_E_digFromTape 14 = .ok (.iconst 1, 1) := by decide +kernel
theorem d_E_digFromTape_15 : decode b_E_digFromTape 15 = .ok (.iadd, 1) := by decide +kernel
theorem d_E_digFromTape_16 : decode b_E_digFromTape 16 = .ok (.invokevirtual 363, 3) := by decide +kernel
theorem d_E_digFromTape_19 : decode b_E_digFromTape 19 = .ok (.istore_n 3, 1) := by decide +kernel
theorem d_E_digFromTape_20 : decode b_E_digFromTape 20 = .ok (.aload_n 0, 1) := by decide +kernel
theorem d_E_digFromTape_21 : decode b_E_digFromTape 21 = .ok (.getfield 39, 3) := by decide +kernel
theorem d_E_digFromTape_24 : decode b_E_digFromTape 24 = .ok (.iload_n 1, 1) := by decide +kernel
theorem d_E_digFromTape_25 : decode b_E_digFromTape 25 = .ok (.iconst 2, 1) := by decide +kernel
theorem d_E_digFromTape_26 : decode b_E_digFromTape 26 = .ok (.iadd, 1) := by decide +kernel
theorem d_E_digFromTape_27 : decode b_E_digFromTape 27 = .ok (.invokevirtual 363, 3) := by decide +kernel
theorem d_E_digFromTape_30 : decode b_E_digFromTape 30 = .ok (.istore 4, 2) := by decide +kernel
theorem d_E_digFromTape_32 : decode b_E_digFromTape 32 = .ok (.aload_n 0, 1) := by decide +kernel
theorem d_E_digFromTape_33 : decode b_E_digFromTape 33 = .ok (.getfield 12, 3) := by decide +kernel
theorem d_E_digFromTape_36 : decode b_E_digFromTape 36 = .ok (.iload_n 2, 1) := by decide +kernel
theorem d_E_digFromTape_37 : decode b_E_digFromTape 37 = .ok (.iload_n 3, 1) := by decide +kernel
theorem d_E_digFromTape_38 : decode b_E_digFromTape 38 = .ok (.invokevirtual 148, 3) := by decide +kernel
theorem d_E_digFromTape_41 : decode b_E_digFromTape 41 = .ok (.iconst (-1), 1) := by decide +kernel
theorem d_E_digFromTape_42 : decode b_E_digFromTape 42 = .ok (.if_icmp .eq 10, 3) := by decide +kernel
theorem d_E_digFromTape_45 : decode b_E_digFromTape 45 = .ok (.iload 4, 2) := by decide +kernel
theorem d_E_digFromTape_47 : decode b_E_digFromTape 47 = .ok (.bipush 50, 2) := by decide +kernel
theorem d_E_digFromTape_49 : decode b_E_digFromTape 49 = .ok (.if_icmp .le 5, 3) := by decide +kernel
theorem d_E_digFromTape_52 : decode b_E_digFromTape 52 = .ok (.iconst 0, 1) := by decide +kernel
theorem d_E_digFromTape_53 : decode b_E_digFromTape 53 = .ok (.ireturn, 1) := by decide +kernel
theorem d_E_digFromTape_54 : decode b_E_digFromTape 54 = .ok (.aload_n 0, 1) := by decide +kernel
theorem d_E_digFromTape_55 : decode b_E_digFromTape 55 = .ok (.getfield 12, 3) := by decide +kernel
theorem d_E_digFromTape_58 : decode b_E_digFromTape 58 = .ok (.iload_n 2, 1) := by decide +kernel
theorem d_E_digFromTape_59 : decode b_E_digFromTape 59 = .ok (.iload_n 3, 1) := by decide +kernel
theorem d_E_digFromTape_60 : decode b_E_digFromTape 60 = .ok (.iload 4, 2) := by decide +kernel
theorem d_E_digFromTape_62 : decode b_E_digFromTape 62 = .ok (.invokevirtual 130, 3) := by decide +kernel
theorem d_E_digFromTape_65 : decode b_E_digFromTape 65 = .ok (.pop, 1) := by decide +kernel
theorem d_E_digFromTape_66 : decode b_E_digFromTape 66 = .ok (.iconst 1, 1) := by decide +kernel
theorem d_E_digFromTape_67 : decode b_E_digFromTape 67 = .ok (.ireturn, 1) := by decide +kernel
theorem mf_E_digFromTape : zMF y_E_digFromTape b_E_digFromTape 5 (some .boolean) 1 := ⟨zGW_in 641 (by decide +kernel) (by decide +kernel), zGW_in 124 (by decide +kernel) (by decide +kernel), by decide +kernel⟩
theorem in_E_digFromTape : Cond.instanceMethod y_E_digFromTape ∈ zGW := zGW_in 640 (by decide +kernel) (by decide +kernel)
theorem se_E_digFromTape : Cond.selects y_E_digFromTape.cls y_E_digFromTape y_E_digFromTape ∈ zGW := zGW_in 5 (by decide +kernel) (by decide +kernel)
theorem zc_5_76 : Cond.constantLong (zNm 5) 76 (15 : Int64) ∈ zGW := zGW_in 508 (by decide +kernel) (by decide +kernel)
theorem zc_5_78 : Cond.constantLong (zNm 5) 78 (-1 : Int64) ∈ zGW := zGW_in 509 (by decide +kernel) (by decide +kernel)
theorem lk_5_72 : Cond.methodLink (zNm 5) 72 y_Ps_setMud ∈ zGW := zGW_in 504 (by decide +kernel) (by decide +kernel)
theorem lk_0_109 : Cond.methodLink (zNm 0) 109 y_E_refused ∈ zGW := zGW_in 492 (by decide +kernel) (by decide +kernel)
theorem lk_0_116 : Cond.methodLink (zNm 0) 116 y_Jo_clear ∈ zGW := zGW_in 496 (by decide +kernel) (by decide +kernel)
theorem lk_0_119 : Cond.methodLink (zNm 0) 119 y_Ps_addSpring ∈ zGW := zGW_in 500 (by decide +kernel) (by decide +kernel)
theorem lk_0_123 : Cond.methodLink (zNm 0) 123 y_E_granted ∈ zGW := zGW_in 510 (by decide +kernel) (by decide +kernel)
theorem lk_5_80 : Cond.methodLink (zNm 5) 80 y_Ps_pairOf ∈ zGW := zGW_in 526 (by decide +kernel) (by decide +kernel)
theorem lk_0_126 : Cond.methodLink (zNm 0) 126 y_Ps_has ∈ zGW := zGW_in 518 (by decide +kernel) (by decide +kernel)
theorem lk_0_130 : Cond.methodLink (zNm 0) 130 y_Ps_dig ∈ zGW := zGW_in 522 (by decide +kernel) (by decide +kernel)
theorem lk_5_84 : Cond.methodLink (zNm 5) 84 y_Ps_lawOf ∈ zGW := zGW_in 546 (by decide +kernel) (by decide +kernel)
theorem lk_5_95 : Cond.methodLink (zNm 5) 95 y_Ps_mudOf ∈ zGW := zGW_in 558 (by decide +kernel) (by decide +kernel)
theorem lk_5_88 : Cond.methodLink (zNm 5) 88 y_Ps_farOf ∈ zGW := zGW_in 563 (by decide +kernel) (by decide +kernel)
theorem lk_5_92 : Cond.methodLink (zNm 5) 92 y_Ps_levelOf ∈ zGW := zGW_in 567 (by decide +kernel) (by decide +kernel)
theorem zc_10_54 : Cond.constantLong (zNm 10) 54 (-9000000000000000000 : Int64) ∈ zGW := zGW_in 580 (by decide +kernel) (by decide +kernel)
theorem zc_10_60 : Cond.constantLong (zNm 10) 60 (1000000000 : Int64) ∈ zGW := zGW_in 584 (by decide +kernel) (by decide +kernel)
theorem zc_10_62 : Cond.constantLong (zNm 10) 62 (-1000000000 : Int64) ∈ zGW := zGW_in 585 (by decide +kernel) (by decide +kernel)
theorem lk_10_50 : Cond.methodLink (zNm 10) 50 y_Tx_startOf ∈ zGW := zGW_in 576 (by decide +kernel) (by decide +kernel)
theorem lk_10_56 : Cond.methodLink (zNm 10) 56 y_Tx_joined ∈ zGW := zGW_in 581 (by decide +kernel) (by decide +kernel)
theorem lk_1_19 : Cond.methodLink (zNm 1) 19 y_Ps_tellSpring ∈ zGW := zGW_in 554 (by decide +kernel) (by decide +kernel)
theorem lk_1_25 : Cond.methodLink (zNm 1) 25 y_Ps_tellChannel ∈ zGW := zGW_in 559 (by decide +kernel) (by decide +kernel)
theorem lk_1_35 : Cond.methodLink (zNm 1) 35 y_Tx_kindOf ∈ zGW := zGW_in 568 (by decide +kernel) (by decide +kernel)
theorem lk_1_39 : Cond.methodLink (zNm 1) 39 y_Tx_value ∈ zGW := zGW_in 572 (by decide +kernel) (by decide +kernel)
theorem zc_1_43 : Cond.constantLong (zNm 1) 43 (-9000000000000000000 : Int64) ∈ zGW := zGW_in 586 (by decide +kernel) (by decide +kernel)
theorem lk_1_45 : Cond.methodLink (zNm 1) 45 y_As_nearest ∈ zGW := zGW_in 587 (by decide +kernel) (by decide +kernel)
theorem lk_1_49 : Cond.methodLink (zNm 1) 49 y_As_without ∈ zGW := zGW_in 590 (by decide +kernel) (by decide +kernel)
theorem lk_0_134 : Cond.methodLink (zNm 0) 134 y_Ps_levelOf ∈ zGW := zGW_in 534 (by decide +kernel) (by decide +kernel)
theorem lk_0_137 : Cond.methodLink (zNm 0) 137 y_Ps_mudOf ∈ zGW := zGW_in 538 (by decide +kernel) (by decide +kernel)
theorem lk_0_140 : Cond.methodLink (zNm 0) 140 y_Ps_lawInForce ∈ zGW := zGW_in 542 (by decide +kernel) (by decide +kernel)
theorem lk_0_144 : Cond.methodLink (zNm 0) 144 y_As_told ∈ zGW := zGW_in 550 (by decide +kernel) (by decide +kernel)
theorem lk_0_148 : Cond.methodLink (zNm 0) 148 y_Ps_pairOf ∈ zGW := zGW_in 598 (by decide +kernel) (by decide +kernel)
theorem lk_0_151 : Cond.methodLink (zNm 0) 151 y_Ps_farOf ∈ zGW := zGW_in 599 (by decide +kernel) (by decide +kernel)
theorem lk_0_154 : Cond.methodLink (zNm 0) 154 y_Ps_isShut ∈ zGW := zGW_in 600 (by decide +kernel) (by decide +kernel)
theorem lk_0_157 : Cond.methodLink (zNm 0) 157 y_E_kindTold ∈ zGW := zGW_in 604 (by decide +kernel) (by decide +kernel)
theorem lk_0_160 : Cond.methodLink (zNm 0) 160 y_E_topOfTerm ∈ zGW := zGW_in 611 (by decide +kernel) (by decide +kernel)
theorem lk_0_163 : Cond.methodLink (zNm 0) 163 y_Ps_term ∈ zGW := zGW_in 614 (by decide +kernel) (by decide +kernel)
theorem lk_0_166 : Cond.methodLink (zNm 0) 166 y_Ps_setTerm ∈ zGW := zGW_in 618 (by decide +kernel) (by decide +kernel)
theorem lk_0_173 : Cond.methodLink (zNm 0) 173 y_Ta_put ∈ zGW := zGW_in 626 (by decide +kernel) (by decide +kernel)
theorem lk_0_363 : Cond.methodLink (zNm 0) 363 y_Ta_byteAt ∈ zGW := zGW_in 642 (by decide +kernel) (by decide +kernel)
def f_E_refused (a1 : Int32) (S : zSt) : Option (Int32 × zSt) := if ((-a1) - (1 : Int32)) < 0 then some (a1, zwI S 0 19 a1) else if (6 : Int32) ≤ ((-a1) - (1 : Int32)) then some (a1, zwI S 0 19 a1) else zgd (0 ≤ ((-a1) - (1 : Int32)) ∧ ((-a1) - (1 : Int32)).toNatClampNeg < 6) (zgd (0 ≤ ((-a1) - (1 : Int32)) ∧ ((-a1) - (1 : Int32)).toNatClampNeg < 6) (some (a1, zwI (zwI S 71 ((-a1) - (1 : Int32)).toNatClampNeg ((zI S 71 ((-a1) - (1 : Int32)).toNatClampNeg) + (1 : Int32))) 0 19 a1)))
set_option maxRecDepth 100000 in
set_option maxHeartbeats 4000000 in
theorem m_E_refused (l : Launch) {a1 : Int32} {S : zSt} {r : Int32} {S1 : zSt} (h : f_E_refused a1 S = some (r, S1)) : zPM l y_E_refused b_E_refused 3 (some .int) rm_E_refused true true [zr (some 0), zi a1] S (some (zi r)) S1 := by
  refine zPM_of (by decide) (Nat.le_of_ble_eq_true rfl) (fun p e s m args below meth c G C hret hname => ?_)
  unfold f_E_refused at h
  refine (?_ : zJ p l e rm_E_refused s m args below meth c G true 3 0 0 (zQm below G args s rm_E_refused true (some (zi r)) S1) S 0 [(0, zr (some 0)), (1, zi a1)] [])
  refine z_iload_n C 1 rfl d_E_refused_0 rfl ?_
  refine z_ineg C d_E_refused_1 ?_
  refine z_iconst C (1 : Int32) (by decide) d_E_refused_2 ?_
  refine z_isub C d_E_refused_3 ?_
  refine z_istore_n C [(2, zi ((-a1) - (1 : Int32))), (0, zr (some 0)), (1, zi a1)] d_E_refused_4 rfl (by decide) rfl ?_
  refine z_iload_n C 0 rfl d_E_refused_5 rfl ?_
  rcases zite h with ⟨c1, h⟩ | ⟨c1, h⟩
  · refine z_if_ltt C 28 c1 d_E_refused_6 (by decide) ?_
    refine z_aload_n C 1 rfl d_E_refused_28 rfl ?_
    refine z_iload_n C 2 rfl d_E_refused_29 rfl ?_
    refine z_putI C 0 (by decide) 19 (by decide) rfl (Or.inl rfl) zo_0 zk_0 zfl_0_106 (Or.inl rfl) d_E_refused_30 ?_
    refine z_iload_n C 2 rfl d_E_refused_33 rfl ?_
    cases h
    exact z_iret C .int hret rfl ⟨Nat.zero_le _, Nat.zero_le _⟩ d_E_refused_34
  · refine z_if_ltf C 28 c1 d_E_refused_6 (by decide) ?_
    refine z_iload_n C 0 rfl d_E_refused_9 rfl ?_
    refine z_aload_n C 1 rfl d_E_refused_10 rfl ?_
    refine z_getF2 C 0 (by decide) 15 (by decide) rfl 71 6 rfl (71) rfl zp_0 zk_0 zfl_0_93 d_E_refused_11 ?_
    refine z_fact (fun hSR => ?_)
    refine z_alen50S C (6 : Int32) (by decide) zo_71 zk_71 (za_71 hSR) d_E_refused_14 ?_
    rcases zite h with ⟨c2, h⟩ | ⟨c2, h⟩
    · refine z_icmp_get C 28 c2 d_E_refused_15 (by decide) ?_
      refine z_aload_n C 1 rfl d_E_refused_28 rfl ?_
      refine z_iload_n C 2 rfl d_E_refused_29 rfl ?_
      refine z_putI C 0 (by decide) 19 (by decide) rfl (Or.inl rfl) zo_0 zk_0 zfl_0_106 (Or.inl rfl) d_E_refused_30 ?_
      refine z_iload_n C 2 rfl d_E_refused_33 rfl ?_
      cases h
      exact z_iret C .int hret rfl ⟨Nat.zero_le _, Nat.zero_le _⟩ d_E_refused_34
    · refine z_icmp_gef C 28 c2 d_E_refused_15 (by decide) ?_
      refine z_aload_n C 1 rfl d_E_refused_18 rfl ?_
      refine z_getF2 C 0 (by decide) 15 (by decide) rfl 71 6 rfl (71) rfl zp_0 zk_0 zfl_0_93 d_E_refused_19 ?_
      refine z_iload_n C 0 rfl d_E_refused_22 rfl ?_
      refine z_dup2 C rfl rfl d_E_refused_23 ?_
      refine z_fact (fun hSR => ?_)
      obtain ⟨g3, h⟩ := zgd_some h
      refine z_ialoadS C zo_71 zk_71 (za_71 hSR) g3 d_E_refused_24 ?_
      refine z_iconst C (1 : Int32) (by decide) d_E_refused_25 ?_
      refine z_iadd C d_E_refused_26 ?_
      refine z_fact (fun hSR => ?_)
      obtain ⟨g4, h⟩ := zgd_some h
      refine z_iastoreS C zo_71 zk_71 (za_71 hSR) g4 d_E_refused_27 ?_
      refine z_aload_n C 1 rfl d_E_refused_28 rfl ?_
      refine z_iload_n C 2 rfl d_E_refused_29 rfl ?_
      refine z_putI C 0 (by decide) 19 (by decide) rfl (Or.inl rfl) zo_0 zk_0 zfl_0_106 (Or.inl rfl) d_E_refused_30 ?_
      refine z_iload_n C 2 rfl d_E_refused_33 rfl ?_
      cases h
      exact z_iret C .int hret rfl ⟨Nat.zero_le _, Nat.zero_le _⟩ d_E_refused_34
def f_Jo_clear (a0 : Nat) (S : zSt) : Option zSt := some (zwI S a0 0 (0 : Int32))
set_option maxRecDepth 100000 in
set_option maxHeartbeats 4000000 in
theorem m_Jo_clear (l : Launch) {a0 : Nat} {S : zSt} {S1 : zSt} (ha0 : zK a0 = 2) (ga0 : a0 < zN0) (h : f_Jo_clear a0  S = some S1) : zPM l y_Jo_clear b_Jo_clear 1 none rm_Jo_clear true true [zr (some a0)] S none S1 := by
  refine zPM_of (by decide) (Nat.le_of_ble_eq_true rfl) (fun p e s m args below meth c G C hret hname => ?_)
  unfold f_Jo_clear at h
  refine (?_ : zJ p l e rm_Jo_clear s m args below meth c G true 1 0 0 (zQm below G args s rm_Jo_clear true none S1) S 0 [(0, zr (some a0))] [])
  refine z_aload_n C 0 rfl d_Jo_clear_0 rfl ?_
  refine z_iconst C (0 : Int32) (by decide) d_Jo_clear_1 ?_
  refine z_putI C 2 (by decide) 0 (by decide) rfl (Or.inl rfl) (Or.inl ⟨rfl, ga0⟩) ha0 zfl_2_11 (Or.inl rfl) d_Jo_clear_2 ?_
  cases h
  exact z_vret C hret ⟨Nat.zero_le _, Nat.zero_le _⟩ d_Jo_clear_5
def f_Ps_setMud (a0 : Nat) (a1 : Int32) (a2 : Int32) (S : zSt) : Option zSt := some (zwL S a0 3 (((zL S a0 3) &&& (((15 : Int64) <<< (((4 : Int32) * a1).toInt64 &&& 63)) ^^^ (-1 : Int64))) ||| (a2.toInt64 <<< (((4 : Int32) * a1).toInt64 &&& 63))))
set_option maxRecDepth 100000 in
set_option maxHeartbeats 4000000 in
theorem m_Ps_setMud (l : Launch) {a0 : Nat} {a1 : Int32} {a2 : Int32} {S : zSt} {S1 : zSt} (ha0 : zK a0 = 5) (ga0 : a0 < zN0) (h : f_Ps_setMud a0 a1 a2 S = some S1) : zPM l y_Ps_setMud b_Ps_setMud 3 none rm_Ps_setMud true true [zr (some a0), zi a1, zi a2] S none S1 := by
  refine zPM_of (by decide) (Nat.le_of_ble_eq_true rfl) (fun p e s m args below meth c G C hret hname => ?_)
  unfold f_Ps_setMud at h
  refine (?_ : zJ p l e rm_Ps_setMud s m args below meth c G true 3 0 0 (zQm below G args s rm_Ps_setMud true none S1) S 0 [(0, zr (some a0)), (1, zi a1), (2, zi a2)] [])
  refine z_aload_n C 0 rfl d_Ps_setMud_0 rfl ?_
  refine z_aload_n C 0 rfl d_Ps_setMud_1 rfl ?_
  refine z_getL C 5 (by decide) 3 (by decide) rfl (Or.inl ⟨rfl, ga0⟩) ha0 zfl_5_22 d_Ps_setMud_2 ?_
  refine z_ldc2 C zc_5_76 d_Ps_setMud_5 ?_
  refine z_iconst C (4 : Int32) (by decide) d_Ps_setMud_8 ?_
  refine z_iload_n C 1 rfl d_Ps_setMud_9 rfl ?_
  refine z_imul C d_Ps_setMud_10 ?_
  refine z_lshl C d_Ps_setMud_11 ?_
  refine z_ldc2 C zc_5_78 d_Ps_setMud_12 ?_
  refine z_lxor C d_Ps_setMud_15 ?_
  refine z_land C d_Ps_setMud_16 ?_
  refine z_iload_n C 2 rfl d_Ps_setMud_17 rfl ?_
  refine z_i2l C d_Ps_setMud_18 ?_
  refine z_iconst C (4 : Int32) (by decide) d_Ps_setMud_19 ?_
  refine z_iload_n C 1 rfl d_Ps_setMud_20 rfl ?_
  refine z_imul C d_Ps_setMud_21 ?_
  refine z_lshl C d_Ps_setMud_22 ?_
  refine z_lor C d_Ps_setMud_23 ?_
  refine z_putL C 5 (by decide) 3 (by decide) rfl (Or.inl ⟨rfl, ga0⟩) ha0 zfl_5_22 (Or.inl rfl) d_Ps_setMud_24 ?_
  cases h
  exact z_vret C hret ⟨Nat.zero_le _, Nat.zero_le _⟩ d_Ps_setMud_27
def f_Ps_addSpring (a0 : Nat) (a1 : Int32) (a2 : Int32) (S : zSt) : Option (Int32 × zSt) := if (zI S a0 0) < 0 then some ((-1 : Int32), S) else if (zI S a0 0) < (9 : Int32) then zgd (0 ≤ (zI S a0 0) ∧ (zI S a0 0).toNatClampNeg < 9) (zb1 (f_Ps_setMud a0 (zI S a0 0) a2 (zwI (zwI S (a0 + 1) (zI S a0 0).toNatClampNeg a1) a0 0 ((zI S a0 0) + (1 : Int32)))) (fun S5 => some (zI S a0 0, S5))) else some ((-1 : Int32), S)
set_option maxRecDepth 100000 in
set_option maxHeartbeats 4000000 in
theorem m_Ps_addSpring (l : Launch) {a0 : Nat} {a1 : Int32} {a2 : Int32} {S : zSt} {r : Int32} {S1 : zSt} (ha0 : zK a0 = 5) (ga0 : a0 < zN0) (h : f_Ps_addSpring a0 a1 a2 S = some (r, S1)) : zPM l y_Ps_addSpring b_Ps_addSpring 4 (some .int) rm_Ps_addSpring true true [zr (some a0), zi a1, zi a2] S (some (zi r)) S1 := by
  refine zPM_of (by decide) (Nat.le_of_ble_eq_true rfl) (fun p e s m args below meth c G C hret hname => ?_)
  unfold f_Ps_addSpring at h
  refine (?_ : zJ p l e rm_Ps_addSpring s m args below meth c G true 4 0 0 (zQm below G args s rm_Ps_addSpring true (some (zi r)) S1) S 0 [(0, zr (some a0)), (1, zi a1), (2, zi a2)] [])
  refine z_aload_n C 0 rfl d_Ps_addSpring_0 rfl ?_
  refine z_getI C 5 (by decide) 0 (by decide) rfl (Or.inl ⟨rfl, ga0⟩) ha0 zfl_5_9 d_Ps_addSpring_1 ?_
  refine z_istore_n C [(3, zi (zI S a0 0)), (0, zr (some a0)), (1, zi a1), (2, zi a2)] d_Ps_addSpring_4 rfl (by decide) rfl ?_
  refine z_iload_n C 0 rfl d_Ps_addSpring_5 rfl ?_
  rcases zite h with ⟨c1, h⟩ | ⟨c1, h⟩
  · refine z_if_ltt C 18 c1 d_Ps_addSpring_6 (by decide) ?_
    refine z_iconst C (-1 : Int32) (by decide) d_Ps_addSpring_18 ?_
    cases h
    exact z_iret C .int hret rfl ⟨Nat.zero_le _, Nat.zero_le _⟩ d_Ps_addSpring_19
  · refine z_if_ltf C 18 c1 d_Ps_addSpring_6 (by decide) ?_
    refine z_iload_n C 0 rfl d_Ps_addSpring_9 rfl ?_
    refine z_aload_n C 1 rfl d_Ps_addSpring_10 rfl ?_
    refine z_getF2 C 5 (by decide) 1 (by decide) rfl 1 9 rfl (a0 + 1) rfl (Or.inl ga0) ha0 zfl_5_15 d_Ps_addSpring_11 ?_
    refine z_fact (fun hSR => ?_)
    refine z_alen50S C (9 : Int32) (by decide) (Or.inl ⟨rfl, (zko_5_1 ha0 ga0).1⟩) (zko_5_1 ha0 ga0).2 (zsa_5_1 hSR ha0 ga0) d_Ps_addSpring_14 ?_
    rcases zite h with ⟨c2, h⟩ | ⟨c2, h⟩
    · refine z_icmp_ltt C 20 c2 d_Ps_addSpring_15 (by decide) ?_
      refine z_aload_n C 1 rfl d_Ps_addSpring_20 rfl ?_
      refine z_getF2 C 5 (by decide) 1 (by decide) rfl 1 9 rfl (a0 + 1) rfl (Or.inl ga0) ha0 zfl_5_15 d_Ps_addSpring_21 ?_
      refine z_iload_n C 0 rfl d_Ps_addSpring_24 rfl ?_
      refine z_iload_n C 2 rfl d_Ps_addSpring_25 rfl ?_
      refine z_fact (fun hSR => ?_)
      obtain ⟨g3, h⟩ := zgd_some h
      refine z_iastoreS C (Or.inl ⟨rfl, (zko_5_1 ha0 ga0).1⟩) (zko_5_1 ha0 ga0).2 (zsa_5_1 hSR ha0 ga0) g3 d_Ps_addSpring_26 ?_
      refine z_aload_n C 1 rfl d_Ps_addSpring_27 rfl ?_
      refine z_iload_n C 0 rfl d_Ps_addSpring_28 rfl ?_
      refine z_iconst C (1 : Int32) (by decide) d_Ps_addSpring_29 ?_
      refine z_iadd C d_Ps_addSpring_30 ?_
      refine z_putI C 5 (by decide) 0 (by decide) rfl (Or.inl rfl) (Or.inl ⟨rfl, ga0⟩) ha0 zfl_5_9 (Or.inl rfl) d_Ps_addSpring_31 ?_
      refine z_aload_n C 1 rfl d_Ps_addSpring_34 rfl ?_
      refine z_iload_n C 0 rfl d_Ps_addSpring_35 rfl ?_
      refine z_iload_n C 3 rfl d_Ps_addSpring_36 rfl ?_
      obtain ⟨S5, h4, h⟩ := zb1_some h
      refine z_cV C 5 (by decide) (m_Ps_setMud l ha0 ga0 h4) mf_Ps_setMud lk_5_72 in_Ps_setMud se_Ps_setMud rfl (Or.inl ⟨rfl, ga0⟩) ha0 ⟨rfl, rfl⟩ ⟨by decide, by decide⟩ ⟨Nat.zero_le _, Nat.zero_le _⟩ rfl _ [] rfl (Nat.le_of_ble_eq_true rfl) d_Ps_addSpring_37 ?_
      refine z_iload_n C 0 rfl d_Ps_addSpring_40 rfl ?_
      cases h
      exact z_iret C .int hret rfl ⟨Nat.zero_le _, Nat.zero_le _⟩ d_Ps_addSpring_41
    · refine z_icmp_ltf C 20 c2 d_Ps_addSpring_15 (by decide) ?_
      refine z_iconst C (-1 : Int32) (by decide) d_Ps_addSpring_18 ?_
      cases h
      exact z_iret C .int hret rfl ⟨Nat.zero_le _, Nat.zero_le _⟩ d_Ps_addSpring_19
def f_E_granted (a1 : Int32) (S : zSt) : Option (Int32 × zSt) := some (a1, zwI S 0 19 (0 : Int32))
set_option maxRecDepth 100000 in
set_option maxHeartbeats 4000000 in
theorem m_E_granted (l : Launch) {a1 : Int32} {S : zSt} {r : Int32} {S1 : zSt} (h : f_E_granted a1 S = some (r, S1)) : zPM l y_E_granted b_E_granted 2 (some .int) rm_E_granted true true [zr (some 0), zi a1] S (some (zi r)) S1 := by
  refine zPM_of (by decide) (Nat.le_of_ble_eq_true rfl) (fun p e s m args below meth c G C hret hname => ?_)
  unfold f_E_granted at h
  refine (?_ : zJ p l e rm_E_granted s m args below meth c G true 2 0 0 (zQm below G args s rm_E_granted true (some (zi r)) S1) S 0 [(0, zr (some 0)), (1, zi a1)] [])
  refine z_aload_n C 0 rfl d_E_granted_0 rfl ?_
  refine z_iconst C (0 : Int32) (by decide) d_E_granted_1 ?_
  refine z_putI C 0 (by decide) 19 (by decide) rfl (Or.inl rfl) zo_0 zk_0 zfl_0_106 (Or.inl rfl) d_E_granted_2 ?_
  refine z_iload_n C 1 rfl d_E_granted_5 rfl ?_
  cases h
  exact z_iret C .int hret rfl ⟨Nat.zero_le _, Nat.zero_le _⟩ d_E_granted_6
def f_E_spring (a1 : Int32) (a2 : Int32) (S : zSt) : Option (Int32 × zSt) := if a1 < 0 then zb2 (f_E_refused (-1 : Int32) S) (fun r3 S4 => some (r3, S4)) else if (9 : Int32) < a1 then zb2 (f_E_refused (-1 : Int32) S) (fun r7 S8 => some (r7, S8)) else if a2 < 0 then zb2 (f_E_refused (-1 : Int32) S) (fun r11 S12 => some (r11, S12)) else if a2 ≤ (9 : Int32) then if (zI S 1 0) < (9 : Int32) then zb1 (f_Jo_clear 32 S) (fun S16 => zb2 (f_Ps_addSpring 1 a1 a2 S16) (fun r18 S19 => zb2 (f_E_granted r18 S19) (fun r21 S22 => some (r21, S22)))) else zb2 (f_E_refused (-5 : Int32) S) (fun r24 S25 => some (r24, S25)) else zb2 (f_E_refused (-1 : Int32) S) (fun r27 S28 => some (r27, S28))
set_option maxRecDepth 100000 in
set_option maxHeartbeats 4000000 in
theorem m_E_spring (l : Launch) {a1 : Int32} {a2 : Int32} {S : zSt} {r : Int32} {S1 : zSt} (h : f_E_spring a1 a2 S = some (r, S1)) : zPM l y_E_spring b_E_spring 3 (some .int) rm_E_spring true true [zr (some 0), zi a1, zi a2] S (some (zi r)) S1 := by
  refine zPM_of (by decide) (Nat.le_of_ble_eq_true rfl) (fun p e s m args below meth c G C hret hname => ?_)
  unfold f_E_spring at h
  refine (?_ : zJ p l e rm_E_spring s m args below meth c G true 3 0 0 (zQm below G args s rm_E_spring true (some (zi r)) S1) S 0 [(0, zr (some 0)), (1, zi a1), (2, zi a2)] [])
  refine z_iload_n C 1 rfl d_E_spring_0 rfl ?_
  rcases zite h with ⟨c1, h⟩ | ⟨c1, h⟩
  · refine z_if_ltt C 20 c1 d_E_spring_1 (by decide) ?_
    refine z_aload_n C 0 rfl d_E_spring_20 rfl ?_
    refine z_iconst C (-1 : Int32) (by decide) d_E_spring_21 ?_
    obtain ⟨r3, S4, h2, h⟩ := zb2_some h
    refine z_cV C 0 (by decide) (m_E_refused l h2) mf_E_refused lk_0_109 in_E_refused se_E_refused rfl zo_0 zk_0 ⟨rfl, rfl⟩ ⟨by decide, by decide⟩ ⟨Nat.zero_le _, Nat.zero_le _⟩ rfl _ [] rfl (Nat.le_of_ble_eq_true rfl) d_E_spring_22 ?_
    cases h
    exact z_iret C .int hret rfl ⟨Nat.zero_le _, Nat.zero_le _⟩ d_E_spring_25
  · refine z_if_ltf C 20 c1 d_E_spring_1 (by decide) ?_
    refine z_iload_n C 1 rfl d_E_spring_4 rfl ?_
    refine z_bipush C (9 : Int32) (by decide) d_E_spring_5 ?_
    rcases zite h with ⟨c5, h⟩ | ⟨c5, h⟩
    · refine z_icmp_gtt C 20 c5 d_E_spring_7 (by decide) ?_
      refine z_aload_n C 0 rfl d_E_spring_20 rfl ?_
      refine z_iconst C (-1 : Int32) (by decide) d_E_spring_21 ?_
      obtain ⟨r7, S8, h6, h⟩ := zb2_some h
      refine z_cV C 0 (by decide) (m_E_refused l h6) mf_E_refused lk_0_109 in_E_refused se_E_refused rfl zo_0 zk_0 ⟨rfl, rfl⟩ ⟨by decide, by decide⟩ ⟨Nat.zero_le _, Nat.zero_le _⟩ rfl _ [] rfl (Nat.le_of_ble_eq_true rfl) d_E_spring_22 ?_
      cases h
      exact z_iret C .int hret rfl ⟨Nat.zero_le _, Nat.zero_le _⟩ d_E_spring_25
    · refine z_icmp_gtf C 20 c5 d_E_spring_7 (by decide) ?_
      refine z_iload_n C 2 rfl d_E_spring_10 rfl ?_
      rcases zite h with ⟨c9, h⟩ | ⟨c9, h⟩
      · refine z_if_ltt C 20 c9 d_E_spring_11 (by decide) ?_
        refine z_aload_n C 0 rfl d_E_spring_20 rfl ?_
        refine z_iconst C (-1 : Int32) (by decide) d_E_spring_21 ?_
        obtain ⟨r11, S12, h10, h⟩ := zb2_some h
        refine z_cV C 0 (by decide) (m_E_refused l h10) mf_E_refused lk_0_109 in_E_refused se_E_refused rfl zo_0 zk_0 ⟨rfl, rfl⟩ ⟨by decide, by decide⟩ ⟨Nat.zero_le _, Nat.zero_le _⟩ rfl _ [] rfl (Nat.le_of_ble_eq_true rfl) d_E_spring_22 ?_
        cases h
        exact z_iret C .int hret rfl ⟨Nat.zero_le _, Nat.zero_le _⟩ d_E_spring_25
      · refine z_if_ltf C 20 c9 d_E_spring_11 (by decide) ?_
        refine z_iload_n C 2 rfl d_E_spring_14 rfl ?_
        refine z_bipush C (9 : Int32) (by decide) d_E_spring_15 ?_
        rcases zite h with ⟨c13, h⟩ | ⟨c13, h⟩
        · refine z_icmp_let C 26 c13 d_E_spring_17 (by decide) ?_
          refine z_aload_n C 0 rfl d_E_spring_26 rfl ?_
          refine z_getF2 C 0 (by decide) 0 (by decide) rfl 1 0 rfl (1) rfl zp_0 zk_0 zfl_0_12 d_E_spring_27 ?_
          refine z_getI C 5 (by decide) 0 (by decide) rfl zo_1 zk_1 zfl_0_113 d_E_spring_30 ?_
          refine z_bipush C (9 : Int32) (by decide) d_E_spring_33 ?_
          rcases zite h with ⟨c14, h⟩ | ⟨c14, h⟩
          · refine z_icmp_ltt C 45 c14 d_E_spring_35 (by decide) ?_
            refine z_aload_n C 0 rfl d_E_spring_45 rfl ?_
            refine z_getF2 C 0 (by decide) 4 (by decide) rfl 32 0 rfl (32) rfl zp_0 zk_0 zfl_0_29 d_E_spring_46 ?_
            obtain ⟨S16, h15, h⟩ := zb1_some h
            refine z_cV C 2 (by decide) (m_Jo_clear l zk_32 (Nat.le_of_ble_eq_true rfl) h15) mf_Jo_clear lk_0_116 in_Jo_clear se_Jo_clear rfl zo_32 zk_32 ⟨rfl, rfl⟩ ⟨by decide, by decide⟩ ⟨Nat.zero_le _, Nat.zero_le _⟩ rfl _ [] rfl (Nat.le_of_ble_eq_true rfl) d_E_spring_49 ?_
            refine z_aload_n C 0 rfl d_E_spring_52 rfl ?_
            refine z_aload_n C 0 rfl d_E_spring_53 rfl ?_
            refine z_getF2 C 0 (by decide) 0 (by decide) rfl 1 0 rfl (1) rfl zp_0 zk_0 zfl_0_12 d_E_spring_54 ?_
            refine z_iload_n C 1 rfl d_E_spring_57 rfl ?_
            refine z_iload_n C 2 rfl d_E_spring_58 rfl ?_
            obtain ⟨r18, S19, h17, h⟩ := zb2_some h
            refine z_cV C 5 (by decide) (m_Ps_addSpring l zk_1 (Nat.le_of_ble_eq_true rfl) h17) mf_Ps_addSpring lk_0_119 in_Ps_addSpring se_Ps_addSpring rfl zo_1 zk_1 ⟨rfl, rfl⟩ ⟨by decide, by decide⟩ ⟨Nat.zero_le _, Nat.zero_le _⟩ rfl _ [zr (some 0)] rfl (Nat.le_of_ble_eq_true rfl) d_E_spring_59 ?_
            obtain ⟨r21, S22, h20, h⟩ := zb2_some h
            refine z_cV C 0 (by decide) (m_E_granted l h20) mf_E_granted lk_0_123 in_E_granted se_E_granted rfl zo_0 zk_0 ⟨rfl, rfl⟩ ⟨by decide, by decide⟩ ⟨Nat.zero_le _, Nat.zero_le _⟩ rfl _ [] rfl (Nat.le_of_ble_eq_true rfl) d_E_spring_62 ?_
            cases h
            exact z_iret C .int hret rfl ⟨Nat.zero_le _, Nat.zero_le _⟩ d_E_spring_65
          · refine z_icmp_ltf C 45 c14 d_E_spring_35 (by decide) ?_
            refine z_aload_n C 0 rfl d_E_spring_38 rfl ?_
            refine z_bipush C (-5 : Int32) (by decide) d_E_spring_39 ?_
            obtain ⟨r24, S25, h23, h⟩ := zb2_some h
            refine z_cV C 0 (by decide) (m_E_refused l h23) mf_E_refused lk_0_109 in_E_refused se_E_refused rfl zo_0 zk_0 ⟨rfl, rfl⟩ ⟨by decide, by decide⟩ ⟨Nat.zero_le _, Nat.zero_le _⟩ rfl _ [] rfl (Nat.le_of_ble_eq_true rfl) d_E_spring_41 ?_
            cases h
            exact z_iret C .int hret rfl ⟨Nat.zero_le _, Nat.zero_le _⟩ d_E_spring_44
        · refine z_icmp_lef C 26 c13 d_E_spring_17 (by decide) ?_
          refine z_aload_n C 0 rfl d_E_spring_20 rfl ?_
          refine z_iconst C (-1 : Int32) (by decide) d_E_spring_21 ?_
          obtain ⟨r27, S28, h26, h⟩ := zb2_some h
          refine z_cV C 0 (by decide) (m_E_refused l h26) mf_E_refused lk_0_109 in_E_refused se_E_refused rfl zo_0 zk_0 ⟨rfl, rfl⟩ ⟨by decide, by decide⟩ ⟨Nat.zero_le _, Nat.zero_le _⟩ rfl _ [] rfl (Nat.le_of_ble_eq_true rfl) d_E_spring_22 ?_
          cases h
          exact z_iret C .int hret rfl ⟨Nat.zero_le _, Nat.zero_le _⟩ d_E_spring_25
def f_Ps_has (a0 : Nat) (a1 : Int32) (S : zSt) : Option Int32 := if a1 < 0 then some (0 : Int32) else if (zI S a0 0) ≤ a1 then some (0 : Int32) else some (1 : Int32)
set_option maxRecDepth 100000 in
set_option maxHeartbeats 4000000 in
theorem m_Ps_has (l : Launch) {a0 : Nat} {a1 : Int32} {S : zSt} {r : Int32} (ha0 : zK a0 = 5) (ga0 : a0 < zN0) (h : f_Ps_has a0 a1 S = some r) : zPM l y_Ps_has b_Ps_has 2 (some .boolean) rm_Ps_has true true [zr (some a0), zi a1] S (some (zi r)) S := by
  refine zPM_of (by decide) (Nat.le_of_ble_eq_true rfl) (fun p e s m args below meth c G C hret hname => ?_)
  unfold f_Ps_has at h
  refine (?_ : zJ p l e rm_Ps_has s m args below meth c G true 2 0 0 (zQm below G args s rm_Ps_has true (some (zi r)) S) S 0 [(0, zr (some a0)), (1, zi a1)] [])
  refine z_iload_n C 1 rfl d_Ps_has_0 rfl ?_
  rcases zite h with ⟨c1, h⟩ | ⟨c1, h⟩
  · refine z_if_ltt C 16 c1 d_Ps_has_1 (by decide) ?_
    refine z_iconst C (0 : Int32) (by decide) d_Ps_has_16 ?_
    cases h
    exact z_iret C .boolean hret rfl ⟨Nat.zero_le _, Nat.zero_le _⟩ d_Ps_has_17
  · refine z_if_ltf C 16 c1 d_Ps_has_1 (by decide) ?_
    refine z_iload_n C 1 rfl d_Ps_has_4 rfl ?_
    refine z_aload_n C 0 rfl d_Ps_has_5 rfl ?_
    refine z_getI C 5 (by decide) 0 (by decide) rfl (Or.inl ⟨rfl, ga0⟩) ha0 zfl_5_9 d_Ps_has_6 ?_
    rcases zite h with ⟨c2, h⟩ | ⟨c2, h⟩
    · refine z_icmp_get C 16 c2 d_Ps_has_9 (by decide) ?_
      refine z_iconst C (0 : Int32) (by decide) d_Ps_has_16 ?_
      cases h
      exact z_iret C .boolean hret rfl ⟨Nat.zero_le _, Nat.zero_le _⟩ d_Ps_has_17
    · refine z_icmp_gef C 16 c2 d_Ps_has_9 (by decide) ?_
      refine z_iconst C (1 : Int32) (by decide) d_Ps_has_12 ?_
      refine z_goto C 17 d_Ps_has_13 (by decide) ?_
      cases h
      exact z_iret C .boolean hret rfl ⟨Nat.zero_le _, Nat.zero_le _⟩ d_Ps_has_17
def f_Ps_pairOf_41 (a0 : Nat) (a1 : Int32) (a2 : Int32) (k0 : Int32) (S : zSt) : Option Int32 := if a1 ≤ a2 then some (((k0 * (k0 - (1 : Int32))) / (2 : Int32)) + a1) else some (((k0 * (k0 - (1 : Int32))) / (2 : Int32)) + a2)
def f_Ps_pairOf (a0 : Nat) (a1 : Int32) (a2 : Int32) (S : zSt) : Option Int32 := if a1 = a2 then some (-1 : Int32) else if a1 < 0 then some (-1 : Int32) else if a2 < 0 then some (-1 : Int32) else if (zI S a0 0) ≤ a1 then some (-1 : Int32) else if a2 < (zI S a0 0) then if a1 ≤ a2 then f_Ps_pairOf_41 a0 a1 a2 a2 S else f_Ps_pairOf_41 a0 a1 a2 a1 S else some (-1 : Int32)
set_option maxRecDepth 100000 in
set_option maxHeartbeats 4000000 in
theorem c_Ps_pairOf_41 {p : Program} {l : Launch} {e : Env} {s : State} {m : MethodId} {args : Array Value} {below : List Frame} {meth : Method} {c : Code} {G : zG} (C : zC p s m args meth c G b_Ps_pairOf 5 y_Ps_pairOf.cls) (hret : meth.sig.returnType = (some .int)) {a0 : Nat} {r : Int32} (ha0 : zK a0 = 5) (ga0 : a0 < zN0) : ∀ (a1 : Int32) (a2 : Int32) (k0 : Int32) (S : zSt) , f_Ps_pairOf_41 a0 a1 a2 k0 S = some r → zJ p l e rm_Ps_pairOf s m args below meth c G true 5 0 0 (zQm below G args s rm_Ps_pairOf true (some (zi r)) S) S 41 [(1, zi a1), (2, zi a2)] [zi k0] := by
  intro a1 a2 k0 S h
  unfold f_Ps_pairOf_41 at h
  refine z_istore_n C [(3, zi k0), (1, zi a1), (2, zi a2)] d_Ps_pairOf_41 rfl (by decide) rfl ?_
  refine z_iload_n C 1 rfl d_Ps_pairOf_42 rfl ?_
  refine z_iload_n C 2 rfl d_Ps_pairOf_43 rfl ?_
  rcases zite h with ⟨c1, h⟩ | ⟨c1, h⟩
  · refine z_icmp_let C 51 c1 d_Ps_pairOf_44 (by decide) ?_
    refine z_iload_n C 1 rfl d_Ps_pairOf_51 rfl ?_
    refine z_istore C [(4, zi a1), (3, zi k0), (1, zi a1), (2, zi a2)] d_Ps_pairOf_52 (by decide) rfl ?_
    refine z_iload_n C 1 rfl d_Ps_pairOf_54 rfl ?_
    refine z_iload_n C 1 rfl d_Ps_pairOf_55 rfl ?_
    refine z_iconst C (1 : Int32) (by decide) d_Ps_pairOf_56 ?_
    refine z_isub C d_Ps_pairOf_57 ?_
    refine z_imul C d_Ps_pairOf_58 ?_
    refine z_iconst C (2 : Int32) (by decide) d_Ps_pairOf_59 ?_
    refine z_idiv C (by decide) d_Ps_pairOf_60 ?_
    refine z_iload C 0 rfl d_Ps_pairOf_61 ?_
    refine z_iadd C d_Ps_pairOf_63 ?_
    cases h
    exact z_iret C .int hret rfl ⟨Nat.zero_le _, Nat.zero_le _⟩ d_Ps_pairOf_64
  · refine z_icmp_lef C 51 c1 d_Ps_pairOf_44 (by decide) ?_
    refine z_iload_n C 2 rfl d_Ps_pairOf_47 rfl ?_
    refine z_goto C 52 d_Ps_pairOf_48 (by decide) ?_
    refine z_istore C [(4, zi a2), (3, zi k0), (1, zi a1), (2, zi a2)] d_Ps_pairOf_52 (by decide) rfl ?_
    refine z_iload_n C 1 rfl d_Ps_pairOf_54 rfl ?_
    refine z_iload_n C 1 rfl d_Ps_pairOf_55 rfl ?_
    refine z_iconst C (1 : Int32) (by decide) d_Ps_pairOf_56 ?_
    refine z_isub C d_Ps_pairOf_57 ?_
    refine z_imul C d_Ps_pairOf_58 ?_
    refine z_iconst C (2 : Int32) (by decide) d_Ps_pairOf_59 ?_
    refine z_idiv C (by decide) d_Ps_pairOf_60 ?_
    refine z_iload C 0 rfl d_Ps_pairOf_61 ?_
    refine z_iadd C d_Ps_pairOf_63 ?_
    cases h
    exact z_iret C .int hret rfl ⟨Nat.zero_le _, Nat.zero_le _⟩ d_Ps_pairOf_64
set_option maxRecDepth 100000 in
set_option maxHeartbeats 4000000 in
theorem m_Ps_pairOf (l : Launch) {a0 : Nat} {a1 : Int32} {a2 : Int32} {S : zSt} {r : Int32} (ha0 : zK a0 = 5) (ga0 : a0 < zN0) (h : f_Ps_pairOf a0 a1 a2 S = some r) : zPM l y_Ps_pairOf b_Ps_pairOf 5 (some .int) rm_Ps_pairOf true true [zr (some a0), zi a1, zi a2] S (some (zi r)) S := by
  refine zPM_of (by decide) (Nat.le_of_ble_eq_true rfl) (fun p e s m args below meth c G C hret hname => ?_)
  unfold f_Ps_pairOf at h
  refine (?_ : zJ p l e rm_Ps_pairOf s m args below meth c G true 5 0 0 (zQm below G args s rm_Ps_pairOf true (some (zi r)) S) S 0 [(0, zr (some a0)), (1, zi a1), (2, zi a2)] [])
  refine z_iload_n C 1 rfl d_Ps_pairOf_0 rfl ?_
  refine z_iload_n C 2 rfl d_Ps_pairOf_1 rfl ?_
  rcases zite h with ⟨c1, h⟩ | ⟨c1, h⟩
  · refine z_icmp_eqt C 29 c1 d_Ps_pairOf_2 (by decide) ?_
    refine z_iconst C (-1 : Int32) (by decide) d_Ps_pairOf_29 ?_
    cases h
    exact z_iret C .int hret rfl ⟨Nat.zero_le _, Nat.zero_le _⟩ d_Ps_pairOf_30
  · refine z_icmp_eqf C 29 c1 d_Ps_pairOf_2 (by decide) ?_
    refine z_iload_n C 1 rfl d_Ps_pairOf_5 rfl ?_
    rcases zite h with ⟨c2, h⟩ | ⟨c2, h⟩
    · refine z_if_ltt C 29 c2 d_Ps_pairOf_6 (by decide) ?_
      refine z_iconst C (-1 : Int32) (by decide) d_Ps_pairOf_29 ?_
      cases h
      exact z_iret C .int hret rfl ⟨Nat.zero_le _, Nat.zero_le _⟩ d_Ps_pairOf_30
    · refine z_if_ltf C 29 c2 d_Ps_pairOf_6 (by decide) ?_
      refine z_iload_n C 2 rfl d_Ps_pairOf_9 rfl ?_
      rcases zite h with ⟨c3, h⟩ | ⟨c3, h⟩
      · refine z_if_ltt C 29 c3 d_Ps_pairOf_10 (by decide) ?_
        refine z_iconst C (-1 : Int32) (by decide) d_Ps_pairOf_29 ?_
        cases h
        exact z_iret C .int hret rfl ⟨Nat.zero_le _, Nat.zero_le _⟩ d_Ps_pairOf_30
      · refine z_if_ltf C 29 c3 d_Ps_pairOf_10 (by decide) ?_
        refine z_iload_n C 1 rfl d_Ps_pairOf_13 rfl ?_
        refine z_aload_n C 0 rfl d_Ps_pairOf_14 rfl ?_
        refine z_getI C 5 (by decide) 0 (by decide) rfl (Or.inl ⟨rfl, ga0⟩) ha0 zfl_5_9 d_Ps_pairOf_15 ?_
        rcases zite h with ⟨c4, h⟩ | ⟨c4, h⟩
        · refine z_icmp_get C 29 c4 d_Ps_pairOf_18 (by decide) ?_
          refine z_iconst C (-1 : Int32) (by decide) d_Ps_pairOf_29 ?_
          cases h
          exact z_iret C .int hret rfl ⟨Nat.zero_le _, Nat.zero_le _⟩ d_Ps_pairOf_30
        · refine z_icmp_gef C 29 c4 d_Ps_pairOf_18 (by decide) ?_
          refine z_iload_n C 2 rfl d_Ps_pairOf_21 rfl ?_
          refine z_aload_n C 0 rfl d_Ps_pairOf_22 rfl ?_
          refine z_getI C 5 (by decide) 0 (by decide) rfl (Or.inl ⟨rfl, ga0⟩) ha0 zfl_5_9 d_Ps_pairOf_23 ?_
          rcases zite h with ⟨c5, h⟩ | ⟨c5, h⟩
          · refine z_icmp_ltt C 31 c5 d_Ps_pairOf_26 (by decide) ?_
            refine z_iload_n C 1 rfl d_Ps_pairOf_31 rfl ?_
            refine z_iload_n C 2 rfl d_Ps_pairOf_32 rfl ?_
            rcases zite h with ⟨c6, h⟩ | ⟨c6, h⟩
            · refine z_icmp_let C 40 c6 d_Ps_pairOf_33 (by decide) ?_
              refine z_iload_n C 2 rfl d_Ps_pairOf_40 rfl ?_
              refine zq_lsub [1, 2] [(1, zi a1), (2, zi a2)] rfl ?_
              exact c_Ps_pairOf_41 C hret ha0 ga0  a1 a2 a2 S h
            · refine z_icmp_lef C 40 c6 d_Ps_pairOf_33 (by decide) ?_
              refine z_iload_n C 1 rfl d_Ps_pairOf_36 rfl ?_
              refine z_goto C 41 d_Ps_pairOf_37 (by decide) ?_
              refine zq_lsub [1, 2] [(1, zi a1), (2, zi a2)] rfl ?_
              exact c_Ps_pairOf_41 C hret ha0 ga0  a1 a2 a1 S h
          · refine z_icmp_ltf C 31 c5 d_Ps_pairOf_26 (by decide) ?_
            refine z_iconst C (-1 : Int32) (by decide) d_Ps_pairOf_29 ?_
            cases h
            exact z_iret C .int hret rfl ⟨Nat.zero_le _, Nat.zero_le _⟩ d_Ps_pairOf_30
def f_Ps_dig (a0 : Nat) (a1 : Int32) (a2 : Int32) (a3 : Int32) (S : zSt) : Option (Int32 × zSt) := zb1 (f_Ps_pairOf a0 a1 a2 S) (fun r2 => if r2 < 0 then some ((0 : Int32), S) else if r2 < (36 : Int32) then zgd (0 ≤ r2 ∧ r2.toNatClampNeg < 36) (zgd (0 ≤ r2 ∧ r2.toNatClampNeg < 36) (some (zI S (a0 + 2) r2.toNatClampNeg, zwL (zwI S (a0 + 2) r2.toNatClampNeg a3) a0 4 ((zL (zwI S (a0 + 2) r2.toNatClampNeg a3) a0 4) &&& (((1 : Int64) <<< (r2.toInt64 &&& 63)) ^^^ (-1 : Int64)))))) else some ((0 : Int32), S))
set_option maxRecDepth 100000 in
set_option maxHeartbeats 4000000 in
theorem m_Ps_dig (l : Launch) {a0 : Nat} {a1 : Int32} {a2 : Int32} {a3 : Int32} {S : zSt} {r : Int32} {S1 : zSt} (ha0 : zK a0 = 5) (ga0 : a0 < zN0) (h : f_Ps_dig a0 a1 a2 a3 S = some (r, S1)) : zPM l y_Ps_dig b_Ps_dig 6 (some .int) rm_Ps_dig true true [zr (some a0), zi a1, zi a2, zi a3] S (some (zi r)) S1 := by
  refine zPM_of (by decide) (Nat.le_of_ble_eq_true rfl) (fun p e s m args below meth c G C hret hname => ?_)
  unfold f_Ps_dig at h
  refine (?_ : zJ p l e rm_Ps_dig s m args below meth c G true 6 0 0 (zQm below G args s rm_Ps_dig true (some (zi r)) S1) S 0 [(0, zr (some a0)), (1, zi a1), (2, zi a2), (3, zi a3)] [])
  refine z_aload_n C 0 rfl d_Ps_dig_0 rfl ?_
  refine z_iload_n C 1 rfl d_Ps_dig_1 rfl ?_
  refine z_iload_n C 2 rfl d_Ps_dig_2 rfl ?_
  obtain ⟨r2, h1, h⟩ := zb1_some h
  refine z_cV C 5 (by decide) (m_Ps_pairOf l ha0 ga0 h1) mf_Ps_pairOf lk_5_80 in_Ps_pairOf se_Ps_pairOf rfl (Or.inl ⟨rfl, ga0⟩) ha0 ⟨rfl, rfl⟩ ⟨by decide, by decide⟩ ⟨Nat.zero_le _, Nat.zero_le _⟩ rfl _ [] rfl (Nat.le_of_ble_eq_true rfl) d_Ps_dig_3 ?_
  refine z_istore C [(4, zi r2), (0, zr (some a0)), (1, zi a1), (2, zi a2), (3, zi a3)] d_Ps_dig_6 (by decide) rfl ?_
  refine z_iload C 0 rfl d_Ps_dig_8 ?_
  rcases zite h with ⟨c3, h⟩ | ⟨c3, h⟩
  · refine z_if_ltt C 23 c3 d_Ps_dig_10 (by decide) ?_
    refine z_iconst C (0 : Int32) (by decide) d_Ps_dig_23 ?_
    cases h
    exact z_iret C .int hret rfl ⟨Nat.zero_le _, Nat.zero_le _⟩ d_Ps_dig_24
  · refine z_if_ltf C 23 c3 d_Ps_dig_10 (by decide) ?_
    refine z_iload C 0 rfl d_Ps_dig_13 ?_
    refine z_aload_n C 1 rfl d_Ps_dig_15 rfl ?_
    refine z_getF2 C 5 (by decide) 2 (by decide) rfl 2 36 rfl (a0 + 2) rfl (Or.inl ga0) ha0 zfl_5_19 d_Ps_dig_16 ?_
    refine z_fact (fun hSR => ?_)
    refine z_alen50S C (36 : Int32) (by decide) (Or.inl ⟨rfl, (zko_5_2 ha0 ga0).1⟩) (zko_5_2 ha0 ga0).2 (zsa_5_2 hSR ha0 ga0) d_Ps_dig_19 ?_
    rcases zite h with ⟨c4, h⟩ | ⟨c4, h⟩
    · refine z_icmp_ltt C 25 c4 d_Ps_dig_20 (by decide) ?_
      refine z_aload_n C 1 rfl d_Ps_dig_25 rfl ?_
      refine z_getF2 C 5 (by decide) 2 (by decide) rfl 2 36 rfl (a0 + 2) rfl (Or.inl ga0) ha0 zfl_5_19 d_Ps_dig_26 ?_
      refine z_iload C 0 rfl d_Ps_dig_29 ?_
      refine z_fact (fun hSR => ?_)
      obtain ⟨g5, h⟩ := zgd_some h
      refine z_ialoadS C (Or.inl ⟨rfl, (zko_5_2 ha0 ga0).1⟩) (zko_5_2 ha0 ga0).2 (zsa_5_2 hSR ha0 ga0) g5 d_Ps_dig_31 ?_
      refine z_istore C [(5, zi (zI S (a0 + 2) r2.toNatClampNeg)), (4, zi r2), (0, zr (some a0)), (1, zi a1), (2, zi a2), (3, zi a3)] d_Ps_dig_32 (by decide) rfl ?_
      refine z_aload_n C 2 rfl d_Ps_dig_34 rfl ?_
      refine z_getF2 C 5 (by decide) 2 (by decide) rfl 2 36 rfl (a0 + 2) rfl (Or.inl ga0) ha0 zfl_5_19 d_Ps_dig_35 ?_
      refine z_iload C 1 rfl d_Ps_dig_38 ?_
      refine z_iload_n C 5 rfl d_Ps_dig_40 rfl ?_
      refine z_fact (fun hSR => ?_)
      obtain ⟨g6, h⟩ := zgd_some h
      refine z_iastoreS C (Or.inl ⟨rfl, (zko_5_2 ha0 ga0).1⟩) (zko_5_2 ha0 ga0).2 (zsa_5_2 hSR ha0 ga0) g6 d_Ps_dig_41 ?_
      refine z_aload_n C 2 rfl d_Ps_dig_42 rfl ?_
      refine z_dup C rfl d_Ps_dig_43 ?_
      refine z_getL C 5 (by decide) 4 (by decide) rfl (Or.inl ⟨rfl, ga0⟩) ha0 zfl_5_26 d_Ps_dig_44 ?_
      refine z_lconst C (1 : Int64) (by decide) d_Ps_dig_47 ?_
      refine z_iload C 1 rfl d_Ps_dig_48 ?_
      refine z_lshl C d_Ps_dig_50 ?_
      refine z_ldc2 C zc_5_78 d_Ps_dig_51 ?_
      refine z_lxor C d_Ps_dig_54 ?_
      refine z_land C d_Ps_dig_55 ?_
      refine z_putL C 5 (by decide) 4 (by decide) rfl (Or.inl ⟨rfl, ga0⟩) ha0 zfl_5_26 (Or.inl rfl) d_Ps_dig_56 ?_
      refine z_iload C 0 rfl d_Ps_dig_59 ?_
      cases h
      exact z_iret C .int hret rfl ⟨Nat.zero_le _, Nat.zero_le _⟩ d_Ps_dig_61
    · refine z_icmp_ltf C 25 c4 d_Ps_dig_20 (by decide) ?_
      refine z_iconst C (0 : Int32) (by decide) d_Ps_dig_23 ?_
      cases h
      exact z_iret C .int hret rfl ⟨Nat.zero_le _, Nat.zero_le _⟩ d_Ps_dig_24
def f_E_channel (a1 : Int32) (a2 : Int32) (a3 : Int32) (S : zSt) : Option (Int32 × zSt) := if a1 = a2 then zb2 (f_E_refused (-1 : Int32) S) (fun r3 S4 => some (r3, S4)) else if a3 < 0 then zb2 (f_E_refused (-1 : Int32) S) (fun r7 S8 => some (r7, S8)) else if a3 ≤ (50 : Int32) then zb1 (f_Ps_has 1 a1 S) (fun r11 => if r11 = 0 then zb2 (f_E_refused (-2 : Int32) S) (fun r14 S15 => some (r14, S15)) else zb1 (f_Ps_has 1 a2 S) (fun r17 => if r17 = 0 then zb2 (f_E_refused (-2 : Int32) S) (fun r28 S29 => some (r28, S29)) else zb1 (f_Jo_clear 32 S) (fun S20 => zb2 (f_Ps_dig 1 a1 a2 a3 S20) (fun r22 S23 => zb2 (f_E_granted r22 S23) (fun r25 S26 => some (r25, S26)))))) else zb2 (f_E_refused (-1 : Int32) S) (fun r31 S32 => some (r31, S32))
set_option maxRecDepth 100000 in
set_option maxHeartbeats 4000000 in
theorem m_E_channel (l : Launch) {a1 : Int32} {a2 : Int32} {a3 : Int32} {S : zSt} {r : Int32} {S1 : zSt} (h : f_E_channel a1 a2 a3 S = some (r, S1)) : zPM l y_E_channel b_E_channel 4 (some .int) rm_E_channel true true [zr (some 0), zi a1, zi a2, zi a3] S (some (zi r)) S1 := by
  refine zPM_of (by decide) (Nat.le_of_ble_eq_true rfl) (fun p e s m args below meth c G C hret hname => ?_)
  unfold f_E_channel at h
  refine (?_ : zJ p l e rm_E_channel s m args below meth c G true 4 0 0 (zQm below G args s rm_E_channel true (some (zi r)) S1) S 0 [(0, zr (some 0)), (1, zi a1), (2, zi a2), (3, zi a3)] [])
  refine z_iload_n C 1 rfl d_E_channel_0 rfl ?_
  refine z_iload_n C 2 rfl d_E_channel_1 rfl ?_
  rcases zite h with ⟨c1, h⟩ | ⟨c1, h⟩
  · refine z_icmp_eqt C 15 c1 d_E_channel_2 (by decide) ?_
    refine z_aload_n C 0 rfl d_E_channel_15 rfl ?_
    refine z_iconst C (-1 : Int32) (by decide) d_E_channel_16 ?_
    obtain ⟨r3, S4, h2, h⟩ := zb2_some h
    refine z_cV C 0 (by decide) (m_E_refused l h2) mf_E_refused lk_0_109 in_E_refused se_E_refused rfl zo_0 zk_0 ⟨rfl, rfl⟩ ⟨by decide, by decide⟩ ⟨Nat.zero_le _, Nat.zero_le _⟩ rfl _ [] rfl (Nat.le_of_ble_eq_true rfl) d_E_channel_17 ?_
    cases h
    exact z_iret C .int hret rfl ⟨Nat.zero_le _, Nat.zero_le _⟩ d_E_channel_20
  · refine z_icmp_eqf C 15 c1 d_E_channel_2 (by decide) ?_
    refine z_iload_n C 3 rfl d_E_channel_5 rfl ?_
    rcases zite h with ⟨c5, h⟩ | ⟨c5, h⟩
    · refine z_if_ltt C 15 c5 d_E_channel_6 (by decide) ?_
      refine z_aload_n C 0 rfl d_E_channel_15 rfl ?_
      refine z_iconst C (-1 : Int32) (by decide) d_E_channel_16 ?_
      obtain ⟨r7, S8, h6, h⟩ := zb2_some h
      refine z_cV C 0 (by decide) (m_E_refused l h6) mf_E_refused lk_0_109 in_E_refused se_E_refused rfl zo_0 zk_0 ⟨rfl, rfl⟩ ⟨by decide, by decide⟩ ⟨Nat.zero_le _, Nat.zero_le _⟩ rfl _ [] rfl (Nat.le_of_ble_eq_true rfl) d_E_channel_17 ?_
      cases h
      exact z_iret C .int hret rfl ⟨Nat.zero_le _, Nat.zero_le _⟩ d_E_channel_20
    · refine z_if_ltf C 15 c5 d_E_channel_6 (by decide) ?_
      refine z_iload_n C 3 rfl d_E_channel_9 rfl ?_
      refine z_bipush C (50 : Int32) (by decide) d_E_channel_10 ?_
      rcases zite h with ⟨c9, h⟩ | ⟨c9, h⟩
      · refine z_icmp_let C 21 c9 d_E_channel_12 (by decide) ?_
        refine z_aload_n C 0 rfl d_E_channel_21 rfl ?_
        refine z_getF2 C 0 (by decide) 0 (by decide) rfl 1 0 rfl (1) rfl zp_0 zk_0 zfl_0_12 d_E_channel_22 ?_
        refine z_iload_n C 1 rfl d_E_channel_25 rfl ?_
        obtain ⟨r11, h10, h⟩ := zb1_some h
        refine z_cV C 5 (by decide) (m_Ps_has l zk_1 (Nat.le_of_ble_eq_true rfl) h10) mf_Ps_has lk_0_126 in_Ps_has se_Ps_has rfl zo_1 zk_1 ⟨rfl, rfl⟩ ⟨by decide, by decide⟩ ⟨Nat.zero_le _, Nat.zero_le _⟩ rfl _ [] rfl (Nat.le_of_ble_eq_true rfl) d_E_channel_26 ?_
        rcases zite h with ⟨c12, h⟩ | ⟨c12, h⟩
        · refine z_if_eqt C 43 c12 d_E_channel_29 (by decide) ?_
          refine z_aload_n C 0 rfl d_E_channel_43 rfl ?_
          refine z_bipush C (-2 : Int32) (by decide) d_E_channel_44 ?_
          obtain ⟨r14, S15, h13, h⟩ := zb2_some h
          refine z_cV C 0 (by decide) (m_E_refused l h13) mf_E_refused lk_0_109 in_E_refused se_E_refused rfl zo_0 zk_0 ⟨rfl, rfl⟩ ⟨by decide, by decide⟩ ⟨Nat.zero_le _, Nat.zero_le _⟩ rfl _ [] rfl (Nat.le_of_ble_eq_true rfl) d_E_channel_46 ?_
          cases h
          exact z_iret C .int hret rfl ⟨Nat.zero_le _, Nat.zero_le _⟩ d_E_channel_49
        · refine z_if_eqf C 43 c12 d_E_channel_29 (by decide) ?_
          refine z_aload_n C 0 rfl d_E_channel_32 rfl ?_
          refine z_getF2 C 0 (by decide) 0 (by decide) rfl 1 0 rfl (1) rfl zp_0 zk_0 zfl_0_12 d_E_channel_33 ?_
          refine z_iload_n C 2 rfl d_E_channel_36 rfl ?_
          obtain ⟨r17, h16, h⟩ := zb1_some h
          refine z_cV C 5 (by decide) (m_Ps_has l zk_1 (Nat.le_of_ble_eq_true rfl) h16) mf_Ps_has lk_0_126 in_Ps_has se_Ps_has rfl zo_1 zk_1 ⟨rfl, rfl⟩ ⟨by decide, by decide⟩ ⟨Nat.zero_le _, Nat.zero_le _⟩ rfl _ [] rfl (Nat.le_of_ble_eq_true rfl) d_E_channel_37 ?_
          rcases zite h with ⟨c18, h⟩ | ⟨c18, h⟩
          · refine z_if_nef C 50 c18 d_E_channel_40 (by decide) ?_
            refine z_aload_n C 0 rfl d_E_channel_43 rfl ?_
            refine z_bipush C (-2 : Int32) (by decide) d_E_channel_44 ?_
            obtain ⟨r28, S29, h27, h⟩ := zb2_some h
            refine z_cV C 0 (by decide) (m_E_refused l h27) mf_E_refused lk_0_109 in_E_refused se_E_refused rfl zo_0 zk_0 ⟨rfl, rfl⟩ ⟨by decide, by decide⟩ ⟨Nat.zero_le _, Nat.zero_le _⟩ rfl _ [] rfl (Nat.le_of_ble_eq_true rfl) d_E_channel_46 ?_
            cases h
            exact z_iret C .int hret rfl ⟨Nat.zero_le _, Nat.zero_le _⟩ d_E_channel_49
          · refine z_if_net C 50 c18 d_E_channel_40 (by decide) ?_
            refine z_aload_n C 0 rfl d_E_channel_50 rfl ?_
            refine z_getF2 C 0 (by decide) 4 (by decide) rfl 32 0 rfl (32) rfl zp_0 zk_0 zfl_0_29 d_E_channel_51 ?_
            obtain ⟨S20, h19, h⟩ := zb1_some h
            refine z_cV C 2 (by decide) (m_Jo_clear l zk_32 (Nat.le_of_ble_eq_true rfl) h19) mf_Jo_clear lk_0_116 in_Jo_clear se_Jo_clear rfl zo_32 zk_32 ⟨rfl, rfl⟩ ⟨by decide, by decide⟩ ⟨Nat.zero_le _, Nat.zero_le _⟩ rfl _ [] rfl (Nat.le_of_ble_eq_true rfl) d_E_channel_54 ?_
            refine z_aload_n C 0 rfl d_E_channel_57 rfl ?_
            refine z_aload_n C 0 rfl d_E_channel_58 rfl ?_
            refine z_getF2 C 0 (by decide) 0 (by decide) rfl 1 0 rfl (1) rfl zp_0 zk_0 zfl_0_12 d_E_channel_59 ?_
            refine z_iload_n C 1 rfl d_E_channel_62 rfl ?_
            refine z_iload_n C 2 rfl d_E_channel_63 rfl ?_
            refine z_iload_n C 3 rfl d_E_channel_64 rfl ?_
            obtain ⟨r22, S23, h21, h⟩ := zb2_some h
            refine z_cV C 5 (by decide) (m_Ps_dig l zk_1 (Nat.le_of_ble_eq_true rfl) h21) mf_Ps_dig lk_0_130 in_Ps_dig se_Ps_dig rfl zo_1 zk_1 ⟨rfl, rfl⟩ ⟨by decide, by decide⟩ ⟨Nat.zero_le _, Nat.zero_le _⟩ rfl _ [zr (some 0)] rfl (Nat.le_of_ble_eq_true rfl) d_E_channel_65 ?_
            obtain ⟨r25, S26, h24, h⟩ := zb2_some h
            refine z_cV C 0 (by decide) (m_E_granted l h24) mf_E_granted lk_0_123 in_E_granted se_E_granted rfl zo_0 zk_0 ⟨rfl, rfl⟩ ⟨by decide, by decide⟩ ⟨Nat.zero_le _, Nat.zero_le _⟩ rfl _ [] rfl (Nat.le_of_ble_eq_true rfl) d_E_channel_68 ?_
            cases h
            exact z_iret C .int hret rfl ⟨Nat.zero_le _, Nat.zero_le _⟩ d_E_channel_71
      · refine z_icmp_lef C 21 c9 d_E_channel_12 (by decide) ?_
        refine z_aload_n C 0 rfl d_E_channel_15 rfl ?_
        refine z_iconst C (-1 : Int32) (by decide) d_E_channel_16 ?_
        obtain ⟨r31, S32, h30, h⟩ := zb2_some h
        refine z_cV C 0 (by decide) (m_E_refused l h30) mf_E_refused lk_0_109 in_E_refused se_E_refused rfl zo_0 zk_0 ⟨rfl, rfl⟩ ⟨by decide, by decide⟩ ⟨Nat.zero_le _, Nat.zero_le _⟩ rfl _ [] rfl (Nat.le_of_ble_eq_true rfl) d_E_channel_17 ?_
        cases h
        exact z_iret C .int hret rfl ⟨Nat.zero_le _, Nat.zero_le _⟩ d_E_channel_20
def f_Ps_levelOf (a0 : Nat) (a1 : Int32) (S : zSt) : Option Int32 := if a1 < 0 then some (0 : Int32) else if (9 : Int32) ≤ a1 then some (0 : Int32) else zgd (0 ≤ a1 ∧ a1.toNatClampNeg < 9) (some (zI S (a0 + 1) a1.toNatClampNeg))
set_option maxRecDepth 100000 in
set_option maxHeartbeats 4000000 in
theorem m_Ps_levelOf (l : Launch) {a0 : Nat} {a1 : Int32} {S : zSt} {r : Int32} (ha0 : zK a0 = 5) (ga0 : a0 < zN0) (h : f_Ps_levelOf a0 a1 S = some r) : zPM l y_Ps_levelOf b_Ps_levelOf 2 (some .int) rm_Ps_levelOf true true [zr (some a0), zi a1] S (some (zi r)) S := by
  refine zPM_of (by decide) (Nat.le_of_ble_eq_true rfl) (fun p e s m args below meth c G C hret hname => ?_)
  unfold f_Ps_levelOf at h
  refine (?_ : zJ p l e rm_Ps_levelOf s m args below meth c G true 2 0 0 (zQm below G args s rm_Ps_levelOf true (some (zi r)) S) S 0 [(0, zr (some a0)), (1, zi a1)] [])
  refine z_iload_n C 1 rfl d_Ps_levelOf_0 rfl ?_
  rcases zite h with ⟨c1, h⟩ | ⟨c1, h⟩
  · refine z_if_ltt C 22 c1 d_Ps_levelOf_1 (by decide) ?_
    refine z_iconst C (0 : Int32) (by decide) d_Ps_levelOf_22 ?_
    cases h
    exact z_iret C .int hret rfl ⟨Nat.zero_le _, Nat.zero_le _⟩ d_Ps_levelOf_23
  · refine z_if_ltf C 22 c1 d_Ps_levelOf_1 (by decide) ?_
    refine z_iload_n C 1 rfl d_Ps_levelOf_4 rfl ?_
    refine z_aload_n C 0 rfl d_Ps_levelOf_5 rfl ?_
    refine z_getF2 C 5 (by decide) 1 (by decide) rfl 1 9 rfl (a0 + 1) rfl (Or.inl ga0) ha0 zfl_5_15 d_Ps_levelOf_6 ?_
    refine z_fact (fun hSR => ?_)
    refine z_alen50S C (9 : Int32) (by decide) (Or.inl ⟨rfl, (zko_5_1 ha0 ga0).1⟩) (zko_5_1 ha0 ga0).2 (zsa_5_1 hSR ha0 ga0) d_Ps_levelOf_9 ?_
    rcases zite h with ⟨c2, h⟩ | ⟨c2, h⟩
    · refine z_icmp_get C 22 c2 d_Ps_levelOf_10 (by decide) ?_
      refine z_iconst C (0 : Int32) (by decide) d_Ps_levelOf_22 ?_
      cases h
      exact z_iret C .int hret rfl ⟨Nat.zero_le _, Nat.zero_le _⟩ d_Ps_levelOf_23
    · refine z_icmp_gef C 22 c2 d_Ps_levelOf_10 (by decide) ?_
      refine z_aload_n C 0 rfl d_Ps_levelOf_13 rfl ?_
      refine z_getF2 C 5 (by decide) 1 (by decide) rfl 1 9 rfl (a0 + 1) rfl (Or.inl ga0) ha0 zfl_5_15 d_Ps_levelOf_14 ?_
      refine z_iload_n C 1 rfl d_Ps_levelOf_17 rfl ?_
      refine z_fact (fun hSR => ?_)
      obtain ⟨g3, h⟩ := zgd_some h
      refine z_ialoadS C (Or.inl ⟨rfl, (zko_5_1 ha0 ga0).1⟩) (zko_5_1 ha0 ga0).2 (zsa_5_1 hSR ha0 ga0) g3 d_Ps_levelOf_18 ?_
      refine z_goto C 23 d_Ps_levelOf_19 (by decide) ?_
      cases h
      exact z_iret C .int hret rfl ⟨Nat.zero_le _, Nat.zero_le _⟩ d_Ps_levelOf_23
def f_Ps_mudOf (a0 : Nat) (a1 : Int32) (S : zSt) : Option Int32 := if a1 < 0 then some (-1 : Int32) else if (zI S a0 0) ≤ a1 then some (-1 : Int32) else some (((((zL S a0 3).toUInt64 >>> (((4 : Int32) * a1).toInt64.toUInt64 &&& Int64.toUInt64 63)).toInt64).toInt32) &&& (15 : Int32))
set_option maxRecDepth 100000 in
set_option maxHeartbeats 4000000 in
theorem m_Ps_mudOf (l : Launch) {a0 : Nat} {a1 : Int32} {S : zSt} {r : Int32} (ha0 : zK a0 = 5) (ga0 : a0 < zN0) (h : f_Ps_mudOf a0 a1 S = some r) : zPM l y_Ps_mudOf b_Ps_mudOf 2 (some .int) rm_Ps_mudOf true true [zr (some a0), zi a1] S (some (zi r)) S := by
  refine zPM_of (by decide) (Nat.le_of_ble_eq_true rfl) (fun p e s m args below meth c G C hret hname => ?_)
  unfold f_Ps_mudOf at h
  refine (?_ : zJ p l e rm_Ps_mudOf s m args below meth c G true 2 0 0 (zQm below G args s rm_Ps_mudOf true (some (zi r)) S) S 0 [(0, zr (some a0)), (1, zi a1)] [])
  refine z_iload_n C 1 rfl d_Ps_mudOf_0 rfl ?_
  rcases zite h with ⟨c1, h⟩ | ⟨c1, h⟩
  · refine z_if_ltt C 27 c1 d_Ps_mudOf_1 (by decide) ?_
    refine z_iconst C (-1 : Int32) (by decide) d_Ps_mudOf_27 ?_
    cases h
    exact z_iret C .int hret rfl ⟨Nat.zero_le _, Nat.zero_le _⟩ d_Ps_mudOf_28
  · refine z_if_ltf C 27 c1 d_Ps_mudOf_1 (by decide) ?_
    refine z_iload_n C 1 rfl d_Ps_mudOf_4 rfl ?_
    refine z_aload_n C 0 rfl d_Ps_mudOf_5 rfl ?_
    refine z_getI C 5 (by decide) 0 (by decide) rfl (Or.inl ⟨rfl, ga0⟩) ha0 zfl_5_9 d_Ps_mudOf_6 ?_
    rcases zite h with ⟨c2, h⟩ | ⟨c2, h⟩
    · refine z_icmp_get C 27 c2 d_Ps_mudOf_9 (by decide) ?_
      refine z_iconst C (-1 : Int32) (by decide) d_Ps_mudOf_27 ?_
      cases h
      exact z_iret C .int hret rfl ⟨Nat.zero_le _, Nat.zero_le _⟩ d_Ps_mudOf_28
    · refine z_icmp_gef C 27 c2 d_Ps_mudOf_9 (by decide) ?_
      refine z_aload_n C 0 rfl d_Ps_mudOf_12 rfl ?_
      refine z_getL C 5 (by decide) 3 (by decide) rfl (Or.inl ⟨rfl, ga0⟩) ha0 zfl_5_22 d_Ps_mudOf_13 ?_
      refine z_iconst C (4 : Int32) (by decide) d_Ps_mudOf_16 ?_
      refine z_iload_n C 1 rfl d_Ps_mudOf_17 rfl ?_
      refine z_imul C d_Ps_mudOf_18 ?_
      refine z_lushr C d_Ps_mudOf_19 ?_
      refine z_l2i C d_Ps_mudOf_20 ?_
      refine z_bipush C (15 : Int32) (by decide) d_Ps_mudOf_21 ?_
      refine z_iand C d_Ps_mudOf_23 ?_
      refine z_goto C 28 d_Ps_mudOf_24 (by decide) ?_
      cases h
      exact z_iret C .int hret rfl ⟨Nat.zero_le _, Nat.zero_le _⟩ d_Ps_mudOf_28
def f_Ps_lawOf (a0 : Nat) (a1 : Int32) (S : zSt) : Option (Option Nat) := if a1 < 0 then some none else if (zI S a0 12) ≤ a1 then some none else if (6 : Int32) ≤ a1 then some none else zgd (0 ≤ a1 ∧ a1.toNatClampNeg < 6) (some (zR S (a0 + 5) a1.toNatClampNeg))
set_option maxRecDepth 100000 in
set_option maxHeartbeats 4000000 in
theorem m_Ps_lawOf (l : Launch) {a0 : Nat} {a1 : Int32} {S : zSt} {r : Option Nat} (ha0 : zK a0 = 5) (ga0 : a0 < zN0) (h : f_Ps_lawOf a0 a1 S = some r) : zPM l y_Ps_lawOf b_Ps_lawOf 2 (some (.object "EelClerk$Text")) rm_Ps_lawOf true true [zr (some a0), zi a1] S (some (zr r)) S := by
  refine zPM_of (by decide) (Nat.le_of_ble_eq_true rfl) (fun p e s m args below meth c G C hret hname => ?_)
  unfold f_Ps_lawOf at h
  refine (?_ : zJ p l e rm_Ps_lawOf s m args below meth c G true 2 0 0 (zQm below G args s rm_Ps_lawOf true (some (zr r)) S) S 0 [(0, zr (some a0)), (1, zi a1)] [])
  refine z_iload_n C 1 rfl d_Ps_lawOf_0 rfl ?_
  rcases zite h with ⟨c1, h⟩ | ⟨c1, h⟩
  · refine z_if_ltt C 30 c1 d_Ps_lawOf_1 (by decide) ?_
    refine z_null C d_Ps_lawOf_30 ?_
    cases h
    exact z_aret C _ hret ⟨Nat.zero_le _, Nat.zero_le _⟩ d_Ps_lawOf_31
  · refine z_if_ltf C 30 c1 d_Ps_lawOf_1 (by decide) ?_
    refine z_iload_n C 1 rfl d_Ps_lawOf_4 rfl ?_
    refine z_aload_n C 0 rfl d_Ps_lawOf_5 rfl ?_
    refine z_getI C 5 (by decide) 12 (by decide) rfl (Or.inl ⟨rfl, ga0⟩) ha0 zfl_5_50 d_Ps_lawOf_6 ?_
    rcases zite h with ⟨c2, h⟩ | ⟨c2, h⟩
    · refine z_icmp_get C 30 c2 d_Ps_lawOf_9 (by decide) ?_
      refine z_null C d_Ps_lawOf_30 ?_
      cases h
      exact z_aret C _ hret ⟨Nat.zero_le _, Nat.zero_le _⟩ d_Ps_lawOf_31
    · refine z_icmp_gef C 30 c2 d_Ps_lawOf_9 (by decide) ?_
      refine z_iload_n C 1 rfl d_Ps_lawOf_12 rfl ?_
      refine z_aload_n C 0 rfl d_Ps_lawOf_13 rfl ?_
      refine z_getF2 C 5 (by decide) 13 (by decide) rfl 5 6 rfl (a0 + 5) rfl (Or.inl ga0) ha0 zfl_5_55 d_Ps_lawOf_14 ?_
      refine z_fact (fun hSR => ?_)
      refine z_alen55S C (6 : Int32) (by decide) (Or.inl ⟨rfl, (zko_5_5 ha0 ga0).1⟩) (zko_5_5 ha0 ga0).2 (zsa_5_5 hSR ha0 ga0) d_Ps_lawOf_17 ?_
      rcases zite h with ⟨c3, h⟩ | ⟨c3, h⟩
      · refine z_icmp_get C 30 c3 d_Ps_lawOf_18 (by decide) ?_
        refine z_null C d_Ps_lawOf_30 ?_
        cases h
        exact z_aret C _ hret ⟨Nat.zero_le _, Nat.zero_le _⟩ d_Ps_lawOf_31
      · refine z_icmp_gef C 30 c3 d_Ps_lawOf_18 (by decide) ?_
        refine z_aload_n C 0 rfl d_Ps_lawOf_21 rfl ?_
        refine z_getF2 C 5 (by decide) 13 (by decide) rfl 5 6 rfl (a0 + 5) rfl (Or.inl ga0) ha0 zfl_5_55 d_Ps_lawOf_22 ?_
        refine z_iload_n C 1 rfl d_Ps_lawOf_25 rfl ?_
        refine z_fact (fun hSR => ?_)
        obtain ⟨g4, h⟩ := zgd_some h
        refine z_taloadS C (Or.inl ⟨rfl, (zko_5_5 ha0 ga0).1⟩) (zko_5_5 ha0 ga0).2 (zsa_5_5 hSR ha0 ga0) g4 d_Ps_lawOf_26 ?_
        refine z_goto C 31 d_Ps_lawOf_27 (by decide) ?_
        cases h
        exact z_aret C _ hret ⟨Nat.zero_le _, Nat.zero_le _⟩ d_Ps_lawOf_31
def f_Ps_lawInForce (a0 : Nat) (S : zSt) : Option (Option Nat) := zb1 (f_Ps_lawOf a0 (zI S a0 14) S) (fun r2 => some r2)
set_option maxRecDepth 100000 in
set_option maxHeartbeats 4000000 in
theorem m_Ps_lawInForce (l : Launch) {a0 : Nat} {S : zSt} {r : Option Nat} (ha0 : zK a0 = 5) (ga0 : a0 < zN0) (h : f_Ps_lawInForce a0  S = some r) : zPM l y_Ps_lawInForce b_Ps_lawInForce 1 (some (.object "EelClerk$Text")) rm_Ps_lawInForce true true [zr (some a0)] S (some (zr r)) S := by
  refine zPM_of (by decide) (Nat.le_of_ble_eq_true rfl) (fun p e s m args below meth c G C hret hname => ?_)
  unfold f_Ps_lawInForce at h
  refine (?_ : zJ p l e rm_Ps_lawInForce s m args below meth c G true 1 0 0 (zQm below G args s rm_Ps_lawInForce true (some (zr r)) S) S 0 [(0, zr (some a0))] [])
  refine z_aload_n C 0 rfl d_Ps_lawInForce_0 rfl ?_
  refine z_aload_n C 0 rfl d_Ps_lawInForce_1 rfl ?_
  refine z_getI C 5 (by decide) 14 (by decide) rfl (Or.inl ⟨rfl, ga0⟩) ha0 zfl_5_59 d_Ps_lawInForce_2 ?_
  obtain ⟨r2, h1, h⟩ := zb1_some h
  refine z_cV C 5 (by decide) (m_Ps_lawOf l ha0 ga0 h1) mf_Ps_lawOf lk_5_84 in_Ps_lawOf se_Ps_lawOf rfl (Or.inl ⟨rfl, ga0⟩) ha0 ⟨rfl, rfl⟩ ⟨by decide, by decide⟩ ⟨Nat.zero_le _, Nat.zero_le _⟩ rfl _ [] rfl (Nat.le_of_ble_eq_true rfl) d_Ps_lawInForce_5 ?_
  cases h
  exact z_aret C _ hret ⟨Nat.zero_le _, Nat.zero_le _⟩ d_Ps_lawInForce_8
def f_Ps_tellSpring (a0 : Nat) (a2 : Nat) (a1 : Int32) (S : zSt) : Option zSt := if (7 : Int32) ≤ ((zA S a2).toInt32) then zgd (0 ≤ (0 : Int32) ∧ (0 : Int32).toNatClampNeg < zA S a2) (zgd (0 ≤ (1 : Int32) ∧ (1 : Int32).toNatClampNeg < zA (zwI S a2 (0 : Int32).toNatClampNeg a1) a2) (zgd (0 ≤ (2 : Int32) ∧ (2 : Int32).toNatClampNeg < zA (zwI (zwI S a2 (0 : Int32).toNatClampNeg a1) a2 (1 : Int32).toNatClampNeg (-1 : Int32)) a2) (zgd (0 ≤ (3 : Int32) ∧ (3 : Int32).toNatClampNeg < zA (zwI (zwI (zwI S a2 (0 : Int32).toNatClampNeg a1) a2 (1 : Int32).toNatClampNeg (-1 : Int32)) a2 (2 : Int32).toNatClampNeg (-1 : Int32)) a2) (zb1 (f_Ps_mudOf a0 a1 (zwI (zwI (zwI (zwI S a2 (0 : Int32).toNatClampNeg a1) a2 (1 : Int32).toNatClampNeg (-1 : Int32)) a2 (2 : Int32).toNatClampNeg (-1 : Int32)) a2 (3 : Int32).toNatClampNeg (0 : Int32))) (fun r7 => zgd (0 ≤ (4 : Int32) ∧ (4 : Int32).toNatClampNeg < zA (zwI (zwI (zwI (zwI S a2 (0 : Int32).toNatClampNeg a1) a2 (1 : Int32).toNatClampNeg (-1 : Int32)) a2 (2 : Int32).toNatClampNeg (-1 : Int32)) a2 (3 : Int32).toNatClampNeg (0 : Int32)) a2) (zgd (0 ≤ (5 : Int32) ∧ (5 : Int32).toNatClampNeg < zA (zwI (zwI (zwI (zwI (zwI S a2 (0 : Int32).toNatClampNeg a1) a2 (1 : Int32).toNatClampNeg (-1 : Int32)) a2 (2 : Int32).toNatClampNeg (-1 : Int32)) a2 (3 : Int32).toNatClampNeg (0 : Int32)) a2 (4 : Int32).toNatClampNeg r7) a2) (zgd (0 ≤ (6 : Int32) ∧ (6 : Int32).toNatClampNeg < zA (zwI (zwI (zwI (zwI (zwI (zwI S a2 (0 : Int32).toNatClampNeg a1) a2 (1 : Int32).toNatClampNeg (-1 : Int32)) a2 (2 : Int32).toNatClampNeg (-1 : Int32)) a2 (3 : Int32).toNatClampNeg (0 : Int32)) a2 (4 : Int32).toNatClampNeg r7) a2 (5 : Int32).toNatClampNeg (zI (zwI (zwI (zwI (zwI (zwI S a2 (0 : Int32).toNatClampNeg a1) a2 (1 : Int32).toNatClampNeg (-1 : Int32)) a2 (2 : Int32).toNatClampNeg (-1 : Int32)) a2 (3 : Int32).toNatClampNeg (0 : Int32)) a2 (4 : Int32).toNatClampNeg r7) a0 6)) a2) (some (zwI (zwI (zwI (zwI (zwI (zwI (zwI S a2 (0 : Int32).toNatClampNeg a1) a2 (1 : Int32).toNatClampNeg (-1 : Int32)) a2 (2 : Int32).toNatClampNeg (-1 : Int32)) a2 (3 : Int32).toNatClampNeg (0 : Int32)) a2 (4 : Int32).toNatClampNeg r7) a2 (5 : Int32).toNatClampNeg (zI (zwI (zwI (zwI (zwI (zwI S a2 (0 : Int32).toNatClampNeg a1) a2 (1 : Int32).toNatClampNeg (-1 : Int32)) a2 (2 : Int32).toNatClampNeg (-1 : Int32)) a2 (3 : Int32).toNatClampNeg (0 : Int32)) a2 (4 : Int32).toNatClampNeg r7) a0 6)) a2 (6 : Int32).toNatClampNeg (zI (zwI (zwI (zwI (zwI (zwI (zwI S a2 (0 : Int32).toNatClampNeg a1) a2 (1 : Int32).toNatClampNeg (-1 : Int32)) a2 (2 : Int32).toNatClampNeg (-1 : Int32)) a2 (3 : Int32).toNatClampNeg (0 : Int32)) a2 (4 : Int32).toNatClampNeg r7) a2 (5 : Int32).toNatClampNeg (zI (zwI (zwI (zwI (zwI (zwI S a2 (0 : Int32).toNatClampNeg a1) a2 (1 : Int32).toNatClampNeg (-1 : Int32)) a2 (2 : Int32).toNatClampNeg (-1 : Int32)) a2 (3 : Int32).toNatClampNeg (0 : Int32)) a2 (4 : Int32).toNatClampNeg r7) a0 6)) a0 8)))))))))) else some S
set_option maxRecDepth 100000 in
set_option maxHeartbeats 4000000 in
theorem m_Ps_tellSpring (l : Launch) {a0 : Nat} {a2 : Nat} {a1 : Int32} {S : zSt} {S1 : zSt} (ha0 : zK a0 = 5) (ga0 : a0 < zN0) (ha2 : zK a2 = 50) (ga2 : a2 < zN0) (h : f_Ps_tellSpring a0 a2 a1 S = some S1) : zPM l y_Ps_tellSpring b_Ps_tellSpring 3 none rm_Ps_tellSpring true true [zr (some a0), zi a1, zr (some a2)] S none S1 := by
  refine zPM_of (by decide) (Nat.le_of_ble_eq_true rfl) (fun p e s m args below meth c G C hret hname => ?_)
  unfold f_Ps_tellSpring at h
  refine (?_ : zJ p l e rm_Ps_tellSpring s m args below meth c G true 3 0 0 (zQm below G args s rm_Ps_tellSpring true none S1) S 0 [(0, zr (some a0)), (1, zi a1), (2, zr (some a2))] [])
  refine z_aload_n C 2 rfl d_Ps_tellSpring_0 rfl ?_
  refine z_alen50 C (Or.inl ⟨rfl, ga2⟩) ha2 d_Ps_tellSpring_1 ?_
  refine z_bipush C (7 : Int32) (by decide) d_Ps_tellSpring_2 ?_
  rcases zite h with ⟨c1, h⟩ | ⟨c1, h⟩
  · refine z_icmp_get C 8 c1 d_Ps_tellSpring_4 (by decide) ?_
    refine z_aload_n C 2 rfl d_Ps_tellSpring_8 rfl ?_
    refine z_iconst C (0 : Int32) (by decide) d_Ps_tellSpring_9 ?_
    refine z_iload_n C 1 rfl d_Ps_tellSpring_10 rfl ?_
    obtain ⟨g2, h⟩ := zgd_some h
    refine z_iastoreS C (Or.inl ⟨rfl, ga2⟩) ha2 rfl g2 d_Ps_tellSpring_11 ?_
    refine z_aload_n C 2 rfl d_Ps_tellSpring_12 rfl ?_
    refine z_iconst C (1 : Int32) (by decide) d_Ps_tellSpring_13 ?_
    refine z_iconst C (-1 : Int32) (by decide) d_Ps_tellSpring_14 ?_
    obtain ⟨g3, h⟩ := zgd_some h
    refine z_iastoreS C (Or.inl ⟨rfl, ga2⟩) ha2 rfl g3 d_Ps_tellSpring_15 ?_
    refine z_aload_n C 2 rfl d_Ps_tellSpring_16 rfl ?_
    refine z_iconst C (2 : Int32) (by decide) d_Ps_tellSpring_17 ?_
    refine z_iconst C (-1 : Int32) (by decide) d_Ps_tellSpring_18 ?_
    obtain ⟨g4, h⟩ := zgd_some h
    refine z_iastoreS C (Or.inl ⟨rfl, ga2⟩) ha2 rfl g4 d_Ps_tellSpring_19 ?_
    refine z_aload_n C 2 rfl d_Ps_tellSpring_20 rfl ?_
    refine z_iconst C (3 : Int32) (by decide) d_Ps_tellSpring_21 ?_
    refine z_iconst C (0 : Int32) (by decide) d_Ps_tellSpring_22 ?_
    obtain ⟨g5, h⟩ := zgd_some h
    refine z_iastoreS C (Or.inl ⟨rfl, ga2⟩) ha2 rfl g5 d_Ps_tellSpring_23 ?_
    refine z_aload_n C 2 rfl d_Ps_tellSpring_24 rfl ?_
    refine z_iconst C (4 : Int32) (by decide) d_Ps_tellSpring_25 ?_
    refine z_aload_n C 0 rfl d_Ps_tellSpring_26 rfl ?_
    refine z_iload_n C 1 rfl d_Ps_tellSpring_27 rfl ?_
    obtain ⟨r7, h6, h⟩ := zb1_some h
    refine z_cV C 5 (by decide) (m_Ps_mudOf l ha0 ga0 h6) mf_Ps_mudOf lk_5_95 in_Ps_mudOf se_Ps_mudOf rfl (Or.inl ⟨rfl, ga0⟩) ha0 ⟨rfl, rfl⟩ ⟨by decide, by decide⟩ ⟨Nat.zero_le _, Nat.zero_le _⟩ rfl _ [zi (4 : Int32), zr (some a2)] rfl (Nat.le_of_ble_eq_true rfl) d_Ps_tellSpring_28 ?_
    obtain ⟨g8, h⟩ := zgd_some h
    refine z_iastoreS C (Or.inl ⟨rfl, ga2⟩) ha2 rfl g8 d_Ps_tellSpring_31 ?_
    refine z_aload_n C 2 rfl d_Ps_tellSpring_32 rfl ?_
    refine z_iconst C (5 : Int32) (by decide) d_Ps_tellSpring_33 ?_
    refine z_aload_n C 0 rfl d_Ps_tellSpring_34 rfl ?_
    refine z_getI C 5 (by decide) 6 (by decide) rfl (Or.inl ⟨rfl, ga0⟩) ha0 zfl_5_32 d_Ps_tellSpring_35 ?_
    obtain ⟨g9, h⟩ := zgd_some h
    refine z_iastoreS C (Or.inl ⟨rfl, ga2⟩) ha2 rfl g9 d_Ps_tellSpring_38 ?_
    refine z_aload_n C 2 rfl d_Ps_tellSpring_39 rfl ?_
    refine z_bipush C (6 : Int32) (by decide) d_Ps_tellSpring_40 ?_
    refine z_aload_n C 0 rfl d_Ps_tellSpring_42 rfl ?_
    refine z_getI C 5 (by decide) 8 (by decide) rfl (Or.inl ⟨rfl, ga0⟩) ha0 zfl_5_38 d_Ps_tellSpring_43 ?_
    obtain ⟨g10, h⟩ := zgd_some h
    refine z_iastoreS C (Or.inl ⟨rfl, ga2⟩) ha2 rfl g10 d_Ps_tellSpring_46 ?_
    cases h
    exact z_vret C hret ⟨Nat.zero_le _, Nat.zero_le _⟩ d_Ps_tellSpring_47
  · refine z_icmp_gef C 8 c1 d_Ps_tellSpring_4 (by decide) ?_
    cases h
    exact z_vret C hret ⟨Nat.zero_le _, Nat.zero_le _⟩ d_Ps_tellSpring_7
def f_Ps_farOf (a0 : Nat) (a1 : Int32) (S : zSt) : Option Int32 := if a1 < 0 then some (0 : Int32) else if (36 : Int32) ≤ a1 then some (0 : Int32) else zgd (0 ≤ a1 ∧ a1.toNatClampNeg < 36) (some (zI S (a0 + 2) a1.toNatClampNeg))
set_option maxRecDepth 100000 in
set_option maxHeartbeats 4000000 in
theorem m_Ps_farOf (l : Launch) {a0 : Nat} {a1 : Int32} {S : zSt} {r : Int32} (ha0 : zK a0 = 5) (ga0 : a0 < zN0) (h : f_Ps_farOf a0 a1 S = some r) : zPM l y_Ps_farOf b_Ps_farOf 2 (some .int) rm_Ps_farOf true true [zr (some a0), zi a1] S (some (zi r)) S := by
  refine zPM_of (by decide) (Nat.le_of_ble_eq_true rfl) (fun p e s m args below meth c G C hret hname => ?_)
  unfold f_Ps_farOf at h
  refine (?_ : zJ p l e rm_Ps_farOf s m args below meth c G true 2 0 0 (zQm below G args s rm_Ps_farOf true (some (zi r)) S) S 0 [(0, zr (some a0)), (1, zi a1)] [])
  refine z_iload_n C 1 rfl d_Ps_farOf_0 rfl ?_
  rcases zite h with ⟨c1, h⟩ | ⟨c1, h⟩
  · refine z_if_ltt C 22 c1 d_Ps_farOf_1 (by decide) ?_
    refine z_iconst C (0 : Int32) (by decide) d_Ps_farOf_22 ?_
    cases h
    exact z_iret C .int hret rfl ⟨Nat.zero_le _, Nat.zero_le _⟩ d_Ps_farOf_23
  · refine z_if_ltf C 22 c1 d_Ps_farOf_1 (by decide) ?_
    refine z_iload_n C 1 rfl d_Ps_farOf_4 rfl ?_
    refine z_aload_n C 0 rfl d_Ps_farOf_5 rfl ?_
    refine z_getF2 C 5 (by decide) 2 (by decide) rfl 2 36 rfl (a0 + 2) rfl (Or.inl ga0) ha0 zfl_5_19 d_Ps_farOf_6 ?_
    refine z_fact (fun hSR => ?_)
    refine z_alen50S C (36 : Int32) (by decide) (Or.inl ⟨rfl, (zko_5_2 ha0 ga0).1⟩) (zko_5_2 ha0 ga0).2 (zsa_5_2 hSR ha0 ga0) d_Ps_farOf_9 ?_
    rcases zite h with ⟨c2, h⟩ | ⟨c2, h⟩
    · refine z_icmp_get C 22 c2 d_Ps_farOf_10 (by decide) ?_
      refine z_iconst C (0 : Int32) (by decide) d_Ps_farOf_22 ?_
      cases h
      exact z_iret C .int hret rfl ⟨Nat.zero_le _, Nat.zero_le _⟩ d_Ps_farOf_23
    · refine z_icmp_gef C 22 c2 d_Ps_farOf_10 (by decide) ?_
      refine z_aload_n C 0 rfl d_Ps_farOf_13 rfl ?_
      refine z_getF2 C 5 (by decide) 2 (by decide) rfl 2 36 rfl (a0 + 2) rfl (Or.inl ga0) ha0 zfl_5_19 d_Ps_farOf_14 ?_
      refine z_iload_n C 1 rfl d_Ps_farOf_17 rfl ?_
      refine z_fact (fun hSR => ?_)
      obtain ⟨g3, h⟩ := zgd_some h
      refine z_ialoadS C (Or.inl ⟨rfl, (zko_5_2 ha0 ga0).1⟩) (zko_5_2 ha0 ga0).2 (zsa_5_2 hSR ha0 ga0) g3 d_Ps_farOf_18 ?_
      refine z_goto C 23 d_Ps_farOf_19 (by decide) ?_
      cases h
      exact z_iret C .int hret rfl ⟨Nat.zero_le _, Nat.zero_le _⟩ d_Ps_farOf_23
def f_Ps_tellChannel (a0 : Nat) (a3 : Nat) (a1 : Int32) (a2 : Int32) (S : zSt) : Option zSt := if (7 : Int32) ≤ ((zA S a3).toInt32) then zgd (0 ≤ (0 : Int32) ∧ (0 : Int32).toNatClampNeg < zA S a3) (zgd (0 ≤ (1 : Int32) ∧ (1 : Int32).toNatClampNeg < zA (zwI S a3 (0 : Int32).toNatClampNeg a1) a3) (zb1 (f_Ps_pairOf a0 a1 a2 (zwI (zwI S a3 (0 : Int32).toNatClampNeg a1) a3 (1 : Int32).toNatClampNeg a2)) (fun r5 => zb1 (f_Ps_farOf a0 r5 (zwI (zwI S a3 (0 : Int32).toNatClampNeg a1) a3 (1 : Int32).toNatClampNeg a2)) (fun r7 => zgd (0 ≤ (2 : Int32) ∧ (2 : Int32).toNatClampNeg < zA (zwI (zwI S a3 (0 : Int32).toNatClampNeg a1) a3 (1 : Int32).toNatClampNeg a2) a3) (zb1 (f_Ps_levelOf a0 a1 (zwI (zwI (zwI S a3 (0 : Int32).toNatClampNeg a1) a3 (1 : Int32).toNatClampNeg a2) a3 (2 : Int32).toNatClampNeg r7)) (fun r10 => zb1 (f_Ps_levelOf a0 a2 (zwI (zwI (zwI S a3 (0 : Int32).toNatClampNeg a1) a3 (1 : Int32).toNatClampNeg a2) a3 (2 : Int32).toNatClampNeg r7)) (fun r12 => zgd (0 ≤ (3 : Int32) ∧ (3 : Int32).toNatClampNeg < zA (zwI (zwI (zwI S a3 (0 : Int32).toNatClampNeg a1) a3 (1 : Int32).toNatClampNeg a2) a3 (2 : Int32).toNatClampNeg r7) a3) (zb1 (f_Ps_mudOf a0 a2 (zwI (zwI (zwI (zwI S a3 (0 : Int32).toNatClampNeg a1) a3 (1 : Int32).toNatClampNeg a2) a3 (2 : Int32).toNatClampNeg r7) a3 (3 : Int32).toNatClampNeg (r10 - r12))) (fun r15 => zgd (0 ≤ (4 : Int32) ∧ (4 : Int32).toNatClampNeg < zA (zwI (zwI (zwI (zwI S a3 (0 : Int32).toNatClampNeg a1) a3 (1 : Int32).toNatClampNeg a2) a3 (2 : Int32).toNatClampNeg r7) a3 (3 : Int32).toNatClampNeg (r10 - r12)) a3) (zgd (0 ≤ (5 : Int32) ∧ (5 : Int32).toNatClampNeg < zA (zwI (zwI (zwI (zwI (zwI S a3 (0 : Int32).toNatClampNeg a1) a3 (1 : Int32).toNatClampNeg a2) a3 (2 : Int32).toNatClampNeg r7) a3 (3 : Int32).toNatClampNeg (r10 - r12)) a3 (4 : Int32).toNatClampNeg r15) a3) (zgd (0 ≤ (6 : Int32) ∧ (6 : Int32).toNatClampNeg < zA (zwI (zwI (zwI (zwI (zwI (zwI S a3 (0 : Int32).toNatClampNeg a1) a3 (1 : Int32).toNatClampNeg a2) a3 (2 : Int32).toNatClampNeg r7) a3 (3 : Int32).toNatClampNeg (r10 - r12)) a3 (4 : Int32).toNatClampNeg r15) a3 (5 : Int32).toNatClampNeg (zI (zwI (zwI (zwI (zwI (zwI S a3 (0 : Int32).toNatClampNeg a1) a3 (1 : Int32).toNatClampNeg a2) a3 (2 : Int32).toNatClampNeg r7) a3 (3 : Int32).toNatClampNeg (r10 - r12)) a3 (4 : Int32).toNatClampNeg r15) a0 6)) a3) (some (zwI (zwI (zwI (zwI (zwI (zwI (zwI S a3 (0 : Int32).toNatClampNeg a1) a3 (1 : Int32).toNatClampNeg a2) a3 (2 : Int32).toNatClampNeg r7) a3 (3 : Int32).toNatClampNeg (r10 - r12)) a3 (4 : Int32).toNatClampNeg r15) a3 (5 : Int32).toNatClampNeg (zI (zwI (zwI (zwI (zwI (zwI S a3 (0 : Int32).toNatClampNeg a1) a3 (1 : Int32).toNatClampNeg a2) a3 (2 : Int32).toNatClampNeg r7) a3 (3 : Int32).toNatClampNeg (r10 - r12)) a3 (4 : Int32).toNatClampNeg r15) a0 6)) a3 (6 : Int32).toNatClampNeg (zI (zwI (zwI (zwI (zwI (zwI (zwI S a3 (0 : Int32).toNatClampNeg a1) a3 (1 : Int32).toNatClampNeg a2) a3 (2 : Int32).toNatClampNeg r7) a3 (3 : Int32).toNatClampNeg (r10 - r12)) a3 (4 : Int32).toNatClampNeg r15) a3 (5 : Int32).toNatClampNeg (zI (zwI (zwI (zwI (zwI (zwI S a3 (0 : Int32).toNatClampNeg a1) a3 (1 : Int32).toNatClampNeg a2) a3 (2 : Int32).toNatClampNeg r7) a3 (3 : Int32).toNatClampNeg (r10 - r12)) a3 (4 : Int32).toNatClampNeg r15) a0 6)) a0 8)))))))))))))) else some S
set_option maxRecDepth 100000 in
set_option maxHeartbeats 4000000 in
theorem m_Ps_tellChannel (l : Launch) {a0 : Nat} {a3 : Nat} {a1 : Int32} {a2 : Int32} {S : zSt} {S1 : zSt} (ha0 : zK a0 = 5) (ga0 : a0 < zN0) (ha3 : zK a3 = 50) (ga3 : a3 < zN0) (h : f_Ps_tellChannel a0 a3 a1 a2 S = some S1) : zPM l y_Ps_tellChannel b_Ps_tellChannel 4 none rm_Ps_tellChannel true true [zr (some a0), zi a1, zi a2, zr (some a3)] S none S1 := by
  refine zPM_of (by decide) (Nat.le_of_ble_eq_true rfl) (fun p e s m args below meth c G C hret hname => ?_)
  unfold f_Ps_tellChannel at h
  refine (?_ : zJ p l e rm_Ps_tellChannel s m args below meth c G true 4 0 0 (zQm below G args s rm_Ps_tellChannel true none S1) S 0 [(0, zr (some a0)), (1, zi a1), (2, zi a2), (3, zr (some a3))] [])
  refine z_aload_n C 3 rfl d_Ps_tellChannel_0 rfl ?_
  refine z_alen50 C (Or.inl ⟨rfl, ga3⟩) ha3 d_Ps_tellChannel_1 ?_
  refine z_bipush C (7 : Int32) (by decide) d_Ps_tellChannel_2 ?_
  rcases zite h with ⟨c1, h⟩ | ⟨c1, h⟩
  · refine z_icmp_get C 8 c1 d_Ps_tellChannel_4 (by decide) ?_
    refine z_aload_n C 3 rfl d_Ps_tellChannel_8 rfl ?_
    refine z_iconst C (0 : Int32) (by decide) d_Ps_tellChannel_9 ?_
    refine z_iload_n C 1 rfl d_Ps_tellChannel_10 rfl ?_
    obtain ⟨g2, h⟩ := zgd_some h
    refine z_iastoreS C (Or.inl ⟨rfl, ga3⟩) ha3 rfl g2 d_Ps_tellChannel_11 ?_
    refine z_aload_n C 3 rfl d_Ps_tellChannel_12 rfl ?_
    refine z_iconst C (1 : Int32) (by decide) d_Ps_tellChannel_13 ?_
    refine z_iload_n C 2 rfl d_Ps_tellChannel_14 rfl ?_
    obtain ⟨g3, h⟩ := zgd_some h
    refine z_iastoreS C (Or.inl ⟨rfl, ga3⟩) ha3 rfl g3 d_Ps_tellChannel_15 ?_
    refine z_aload_n C 3 rfl d_Ps_tellChannel_16 rfl ?_
    refine z_iconst C (2 : Int32) (by decide) d_Ps_tellChannel_17 ?_
    refine z_aload_n C 0 rfl d_Ps_tellChannel_18 rfl ?_
    refine z_aload_n C 0 rfl d_Ps_tellChannel_19 rfl ?_
    refine z_iload_n C 1 rfl d_Ps_tellChannel_20 rfl ?_
    refine z_iload_n C 2 rfl d_Ps_tellChannel_21 rfl ?_
    obtain ⟨r5, h4, h⟩ := zb1_some h
    refine z_cV C 5 (by decide) (m_Ps_pairOf l ha0 ga0 h4) mf_Ps_pairOf lk_5_80 in_Ps_pairOf se_Ps_pairOf rfl (Or.inl ⟨rfl, ga0⟩) ha0 ⟨rfl, rfl⟩ ⟨by decide, by decide⟩ ⟨Nat.zero_le _, Nat.zero_le _⟩ rfl _ [zr (some a0), zi (2 : Int32), zr (some a3)] rfl (Nat.le_of_ble_eq_true rfl) d_Ps_tellChannel_22 ?_
    obtain ⟨r7, h6, h⟩ := zb1_some h
    refine z_cV C 5 (by decide) (m_Ps_farOf l ha0 ga0 h6) mf_Ps_farOf lk_5_88 in_Ps_farOf se_Ps_farOf rfl (Or.inl ⟨rfl, ga0⟩) ha0 ⟨rfl, rfl⟩ ⟨by decide, by decide⟩ ⟨Nat.zero_le _, Nat.zero_le _⟩ rfl _ [zi (2 : Int32), zr (some a3)] rfl (Nat.le_of_ble_eq_true rfl) d_Ps_tellChannel_25 ?_
    obtain ⟨g8, h⟩ := zgd_some h
    refine z_iastoreS C (Or.inl ⟨rfl, ga3⟩) ha3 rfl g8 d_Ps_tellChannel_28 ?_
    refine z_aload_n C 3 rfl d_Ps_tellChannel_29 rfl ?_
    refine z_iconst C (3 : Int32) (by decide) d_Ps_tellChannel_30 ?_
    refine z_aload_n C 0 rfl d_Ps_tellChannel_31 rfl ?_
    refine z_iload_n C 1 rfl d_Ps_tellChannel_32 rfl ?_
    obtain ⟨r10, h9, h⟩ := zb1_some h
    refine z_cV C 5 (by decide) (m_Ps_levelOf l ha0 ga0 h9) mf_Ps_levelOf lk_5_92 in_Ps_levelOf se_Ps_levelOf rfl (Or.inl ⟨rfl, ga0⟩) ha0 ⟨rfl, rfl⟩ ⟨by decide, by decide⟩ ⟨Nat.zero_le _, Nat.zero_le _⟩ rfl _ [zi (3 : Int32), zr (some a3)] rfl (Nat.le_of_ble_eq_true rfl) d_Ps_tellChannel_33 ?_
    refine z_aload_n C 0 rfl d_Ps_tellChannel_36 rfl ?_
    refine z_iload_n C 2 rfl d_Ps_tellChannel_37 rfl ?_
    obtain ⟨r12, h11, h⟩ := zb1_some h
    refine z_cV C 5 (by decide) (m_Ps_levelOf l ha0 ga0 h11) mf_Ps_levelOf lk_5_92 in_Ps_levelOf se_Ps_levelOf rfl (Or.inl ⟨rfl, ga0⟩) ha0 ⟨rfl, rfl⟩ ⟨by decide, by decide⟩ ⟨Nat.zero_le _, Nat.zero_le _⟩ rfl _ [zi r10, zi (3 : Int32), zr (some a3)] rfl (Nat.le_of_ble_eq_true rfl) d_Ps_tellChannel_38 ?_
    refine z_isub C d_Ps_tellChannel_41 ?_
    obtain ⟨g13, h⟩ := zgd_some h
    refine z_iastoreS C (Or.inl ⟨rfl, ga3⟩) ha3 rfl g13 d_Ps_tellChannel_42 ?_
    refine z_aload_n C 3 rfl d_Ps_tellChannel_43 rfl ?_
    refine z_iconst C (4 : Int32) (by decide) d_Ps_tellChannel_44 ?_
    refine z_aload_n C 0 rfl d_Ps_tellChannel_45 rfl ?_
    refine z_iload_n C 2 rfl d_Ps_tellChannel_46 rfl ?_
    obtain ⟨r15, h14, h⟩ := zb1_some h
    refine z_cV C 5 (by decide) (m_Ps_mudOf l ha0 ga0 h14) mf_Ps_mudOf lk_5_95 in_Ps_mudOf se_Ps_mudOf rfl (Or.inl ⟨rfl, ga0⟩) ha0 ⟨rfl, rfl⟩ ⟨by decide, by decide⟩ ⟨Nat.zero_le _, Nat.zero_le _⟩ rfl _ [zi (4 : Int32), zr (some a3)] rfl (Nat.le_of_ble_eq_true rfl) d_Ps_tellChannel_47 ?_
    obtain ⟨g16, h⟩ := zgd_some h
    refine z_iastoreS C (Or.inl ⟨rfl, ga3⟩) ha3 rfl g16 d_Ps_tellChannel_50 ?_
    refine z_aload_n C 3 rfl d_Ps_tellChannel_51 rfl ?_
    refine z_iconst C (5 : Int32) (by decide) d_Ps_tellChannel_52 ?_
    refine z_aload_n C 0 rfl d_Ps_tellChannel_53 rfl ?_
    refine z_getI C 5 (by decide) 6 (by decide) rfl (Or.inl ⟨rfl, ga0⟩) ha0 zfl_5_32 d_Ps_tellChannel_54 ?_
    obtain ⟨g17, h⟩ := zgd_some h
    refine z_iastoreS C (Or.inl ⟨rfl, ga3⟩) ha3 rfl g17 d_Ps_tellChannel_57 ?_
    refine z_aload_n C 3 rfl d_Ps_tellChannel_58 rfl ?_
    refine z_bipush C (6 : Int32) (by decide) d_Ps_tellChannel_59 ?_
    refine z_aload_n C 0 rfl d_Ps_tellChannel_61 rfl ?_
    refine z_getI C 5 (by decide) 8 (by decide) rfl (Or.inl ⟨rfl, ga0⟩) ha0 zfl_5_38 d_Ps_tellChannel_62 ?_
    obtain ⟨g18, h⟩ := zgd_some h
    refine z_iastoreS C (Or.inl ⟨rfl, ga3⟩) ha3 rfl g18 d_Ps_tellChannel_65 ?_
    cases h
    exact z_vret C hret ⟨Nat.zero_le _, Nat.zero_le _⟩ d_Ps_tellChannel_66
  · refine z_icmp_gef C 8 c1 d_Ps_tellChannel_4 (by decide) ?_
    cases h
    exact z_vret C hret ⟨Nat.zero_le _, Nat.zero_le _⟩ d_Ps_tellChannel_7
def f_Tx_kindOf (a0 : Nat) (a1 : Int32) (S : zSt) : Option Int32 := if a1 < 0 then some (-1 : Int32) else if (12 : Int32) ≤ a1 then some (-1 : Int32) else zgd (0 ≤ a1 ∧ a1.toNatClampNeg < 12) (some (zI S (a0 + 1) a1.toNatClampNeg))
set_option maxRecDepth 100000 in
set_option maxHeartbeats 4000000 in
theorem m_Tx_kindOf (l : Launch) {a0 : Nat} {a1 : Int32} {S : zSt} {r : Int32} (ha0 : zK a0 = 10) (ga0 : a0 < zN S) (h : f_Tx_kindOf a0 a1 S = some r) : zPM l y_Tx_kindOf b_Tx_kindOf 2 (some .int) rm_Tx_kindOf true true [zr (some a0), zi a1] S (some (zi r)) S := by
  refine zPM_of (by decide) (Nat.le_of_ble_eq_true rfl) (fun p e s m args below meth c G C hret hname => ?_)
  unfold f_Tx_kindOf at h
  refine (?_ : zJ p l e rm_Tx_kindOf s m args below meth c G true 2 0 0 (zQm below G args s rm_Tx_kindOf true (some (zi r)) S) S 0 [(0, zr (some a0)), (1, zi a1)] [])
  refine z_iload_n C 1 rfl d_Tx_kindOf_0 rfl ?_
  rcases zite h with ⟨c1, h⟩ | ⟨c1, h⟩
  · refine z_if_ltt C 19 c1 d_Tx_kindOf_1 (by decide) ?_
    refine z_iconst C (-1 : Int32) (by decide) d_Tx_kindOf_19 ?_
    cases h
    exact z_iret C .int hret rfl ⟨Nat.zero_le _, Nat.zero_le _⟩ d_Tx_kindOf_20
  · refine z_if_ltf C 19 c1 d_Tx_kindOf_1 (by decide) ?_
    refine z_iload_n C 1 rfl d_Tx_kindOf_4 rfl ?_
    refine z_bipush C (12 : Int32) (by decide) d_Tx_kindOf_5 ?_
    rcases zite h with ⟨c2, h⟩ | ⟨c2, h⟩
    · refine z_icmp_get C 19 c2 d_Tx_kindOf_7 (by decide) ?_
      refine z_iconst C (-1 : Int32) (by decide) d_Tx_kindOf_19 ?_
      cases h
      exact z_iret C .int hret rfl ⟨Nat.zero_le _, Nat.zero_le _⟩ d_Tx_kindOf_20
    · refine z_icmp_gef C 19 c2 d_Tx_kindOf_7 (by decide) ?_
      refine z_aload_n C 0 rfl d_Tx_kindOf_10 rfl ?_
      refine z_getF2 C 10 (by decide) 4 (by decide) rfl 1 12 rfl (a0 + 1) rfl (Or.inr ga0) ha0 zfl_10_22 d_Tx_kindOf_11 ?_
      refine z_iload_n C 1 rfl d_Tx_kindOf_14 rfl ?_
      refine z_fact (fun hSR => ?_)
      obtain ⟨g3, h⟩ := zgd_some h
      refine z_ialoadS C (Or.inr (ztx_1 hSR ha0 ga0).1) (ztk_1 ha0) (ztx_1 hSR ha0 ga0).2 g3 d_Tx_kindOf_15 ?_
      refine z_goto C 20 d_Tx_kindOf_16 (by decide) ?_
      cases h
      exact z_iret C .int hret rfl ⟨Nat.zero_le _, Nat.zero_le _⟩ d_Tx_kindOf_20
def f_Tx_startOf (a0 : Nat) (a1 : Int32) (a2 : Int32) (S : zSt) : Option Int32 := if ((a1 * (3 : Int32)) + a2) < 0 then some (-1 : Int32) else if (36 : Int32) ≤ ((a1 * (3 : Int32)) + a2) then some (-1 : Int32) else zgd (0 ≤ ((a1 * (3 : Int32)) + a2) ∧ ((a1 * (3 : Int32)) + a2).toNatClampNeg < 36) (some (zI S (a0 + 3) ((a1 * (3 : Int32)) + a2).toNatClampNeg))
set_option maxRecDepth 100000 in
set_option maxHeartbeats 4000000 in
theorem m_Tx_startOf (l : Launch) {a0 : Nat} {a1 : Int32} {a2 : Int32} {S : zSt} {r : Int32} (ha0 : zK a0 = 10) (ga0 : a0 < zN S) (h : f_Tx_startOf a0 a1 a2 S = some r) : zPM l y_Tx_startOf b_Tx_startOf 4 (some .int) rm_Tx_startOf true true [zr (some a0), zi a1, zi a2] S (some (zi r)) S := by
  refine zPM_of (by decide) (Nat.le_of_ble_eq_true rfl) (fun p e s m args below meth c G C hret hname => ?_)
  unfold f_Tx_startOf at h
  refine (?_ : zJ p l e rm_Tx_startOf s m args below meth c G true 4 0 0 (zQm below G args s rm_Tx_startOf true (some (zi r)) S) S 0 [(0, zr (some a0)), (1, zi a1), (2, zi a2)] [])
  refine z_iload_n C 1 rfl d_Tx_startOf_0 rfl ?_
  refine z_iconst C (3 : Int32) (by decide) d_Tx_startOf_1 ?_
  refine z_imul C d_Tx_startOf_2 ?_
  refine z_iload_n C 2 rfl d_Tx_startOf_3 rfl ?_
  refine z_iadd C d_Tx_startOf_4 ?_
  refine z_istore_n C [(3, zi ((a1 * (3 : Int32)) + a2)), (0, zr (some a0)), (1, zi a1), (2, zi a2)] d_Tx_startOf_5 rfl (by decide) rfl ?_
  refine z_iload_n C 0 rfl d_Tx_startOf_6 rfl ?_
  rcases zite h with ⟨c1, h⟩ | ⟨c1, h⟩
  · refine z_if_ltt C 28 c1 d_Tx_startOf_7 (by decide) ?_
    refine z_iconst C (-1 : Int32) (by decide) d_Tx_startOf_28 ?_
    cases h
    exact z_iret C .int hret rfl ⟨Nat.zero_le _, Nat.zero_le _⟩ d_Tx_startOf_29
  · refine z_if_ltf C 28 c1 d_Tx_startOf_7 (by decide) ?_
    refine z_iload_n C 0 rfl d_Tx_startOf_10 rfl ?_
    refine z_aload_n C 1 rfl d_Tx_startOf_11 rfl ?_
    refine z_getF2 C 10 (by decide) 6 (by decide) rfl 3 36 rfl (a0 + 3) rfl (Or.inr ga0) ha0 zfl_10_29 d_Tx_startOf_12 ?_
    refine z_fact (fun hSR => ?_)
    refine z_alen50S C (36 : Int32) (by decide) (Or.inr (ztx_3 hSR ha0 ga0).1) (ztk_3 ha0) (ztx_3 hSR ha0 ga0).2 d_Tx_startOf_15 ?_
    rcases zite h with ⟨c2, h⟩ | ⟨c2, h⟩
    · refine z_icmp_get C 28 c2 d_Tx_startOf_16 (by decide) ?_
      refine z_iconst C (-1 : Int32) (by decide) d_Tx_startOf_28 ?_
      cases h
      exact z_iret C .int hret rfl ⟨Nat.zero_le _, Nat.zero_le _⟩ d_Tx_startOf_29
    · refine z_icmp_gef C 28 c2 d_Tx_startOf_16 (by decide) ?_
      refine z_aload_n C 1 rfl d_Tx_startOf_19 rfl ?_
      refine z_getF2 C 10 (by decide) 6 (by decide) rfl 3 36 rfl (a0 + 3) rfl (Or.inr ga0) ha0 zfl_10_29 d_Tx_startOf_20 ?_
      refine z_iload_n C 0 rfl d_Tx_startOf_23 rfl ?_
      refine z_fact (fun hSR => ?_)
      obtain ⟨g3, h⟩ := zgd_some h
      refine z_ialoadS C (Or.inr (ztx_3 hSR ha0 ga0).1) (ztk_3 ha0) (ztx_3 hSR ha0 ga0).2 g3 d_Tx_startOf_24 ?_
      refine z_goto C 29 d_Tx_startOf_25 (by decide) ?_
      cases h
      exact z_iret C .int hret rfl ⟨Nat.zero_le _, Nat.zero_le _⟩ d_Tx_startOf_29
def f_Tx_joined_144 (a5 : Int64) : Option Int64 := if 0 < (lg_cmp a5 (1000000000 : Int64)) then some (-9000000000000000000 : Int64) else if 0 ≤ (lg_cmp a5 (-1000000000 : Int64)) then some a5 else some (-9000000000000000000 : Int64)
def f_Tx_joined (a0 : Int32) (a1 : Int64) (a3 : Int64) : Option Int64 := if a0 = (5 : Int32) then f_Tx_joined_144 (a1 + a3) else if a0 = (6 : Int32) then f_Tx_joined_144 (a1 - a3) else if a0 = (7 : Int32) then f_Tx_joined_144 (a1 * a3) else if a0 = (8 : Int32) then if (lg_cmp a3 (0 : Int64)) = 0 then f_Tx_joined_144 (-9000000000000000000 : Int64) else zgd (¬ a3 = 0) (f_Tx_joined_144 (a1 / a3)) else if a0 = (9 : Int32) then if (lg_cmp a3 (0 : Int64)) = 0 then f_Tx_joined_144 (-9000000000000000000 : Int64) else zgd (¬ a3 = 0) (f_Tx_joined_144 (a1 - a1 / a3 * a3)) else if a0 = (10 : Int32) then if 0 ≤ (lg_cmp a1 a3) then some (0 : Int64) else some (1 : Int64) else if a0 = (11 : Int32) then if (lg_cmp a1 a3) ≤ 0 then some (0 : Int64) else some (1 : Int64) else if (lg_cmp a1 a3) = 0 then some (1 : Int64) else some (0 : Int64)
set_option maxRecDepth 100000 in
set_option maxHeartbeats 4000000 in
theorem c_Tx_joined_144 {p : Program} {l : Launch} {e : Env} {s : State} {m : MethodId} {args : Array Value} {below : List Frame} {meth : Method} {c : Code} {G : zG} (C : zC p s m args meth c G b_Tx_joined 7 y_Tx_joined.cls) (hret : meth.sig.returnType = (some .long)) {r : Int64} : ∀ (a5 : Int64) (S : zSt) , f_Tx_joined_144 a5 = some r → zJ p l e rm_Tx_joined s m args below meth c G true 7 0 0 (zQm below G args s rm_Tx_joined true (some (zl r)) S) S 144 [(5, zl a5)] [] := by
  intro a5 S h
  unfold f_Tx_joined_144 at h
  refine z_lload C 0 rfl d_Tx_joined_144 ?_
  refine z_ldc2 C zc_10_60 d_Tx_joined_146 ?_
  refine z_lcmp C d_Tx_joined_149 ?_
  rcases zite h with ⟨c1, h⟩ | ⟨c1, h⟩
  · refine z_if_gtt C 162 c1 d_Tx_joined_150 (by decide) ?_
    refine z_ldc2 C zc_10_54 d_Tx_joined_162 ?_
    refine z_goto C 170 d_Tx_joined_165 (by decide) ?_
    cases h
    exact z_lret C hret ⟨Nat.zero_le _, Nat.zero_le _⟩ d_Tx_joined_170
  · refine z_if_gtf C 162 c1 d_Tx_joined_150 (by decide) ?_
    refine z_lload C 0 rfl d_Tx_joined_153 ?_
    refine z_ldc2 C zc_10_62 d_Tx_joined_155 ?_
    refine z_lcmp C d_Tx_joined_158 ?_
    rcases zite h with ⟨c2, h⟩ | ⟨c2, h⟩
    · refine z_if_get C 168 c2 d_Tx_joined_159 (by decide) ?_
      refine z_lload C 0 rfl d_Tx_joined_168 ?_
      cases h
      exact z_lret C hret ⟨Nat.zero_le _, Nat.zero_le _⟩ d_Tx_joined_170
    · refine z_if_gef C 168 c2 d_Tx_joined_159 (by decide) ?_
      refine z_ldc2 C zc_10_54 d_Tx_joined_162 ?_
      refine z_goto C 170 d_Tx_joined_165 (by decide) ?_
      cases h
      exact z_lret C hret ⟨Nat.zero_le _, Nat.zero_le _⟩ d_Tx_joined_170
set_option maxRecDepth 100000 in
set_option maxHeartbeats 4000000 in
theorem m_Tx_joined (l : Launch) {a0 : Int32} {a1 : Int64} {a3 : Int64} {S : zSt} {r : Int64} (h : f_Tx_joined a0 a1 a3 = some r) : zPM l y_Tx_joined b_Tx_joined 7 (some .long) rm_Tx_joined true true [zi a0, zl a1, zl a3] S (some (zl r)) S := by
  refine zPM_of (by decide) (Nat.le_of_ble_eq_true rfl) (fun p e s m args below meth c G C hret hname => ?_)
  unfold f_Tx_joined at h
  refine (?_ : zJ p l e rm_Tx_joined s m args below meth c G true 7 0 0 (zQm below G args s rm_Tx_joined true (some (zl r)) S) S 0 [(0, zi a0), (1, zl a1), (3, zl a3)] [])
  refine z_iload_n C 0 rfl d_Tx_joined_0 rfl ?_
  rcases zite h with ⟨c1, h⟩ | ⟨c1, h⟩
  · refine z_tab C (5 : Int32) 43 44 c1 (by decide) (by decide) (by decide) (by decide) d_Tx_joined_1 ?_
    refine z_lload_n C 1 rfl d_Tx_joined_44 rfl ?_
    refine z_lload_n C 2 rfl d_Tx_joined_45 rfl ?_
    refine z_ladd C d_Tx_joined_46 ?_
    refine z_lstore C [(5, zl (a1 + a3)), (0, zi a0), (1, zl a1), (3, zl a3)] d_Tx_joined_47 (by decide) rfl ?_
    refine z_goto C 144 d_Tx_joined_49 (by decide) ?_
    refine zq_lsub [0] [(5, zl (a1 + a3))] rfl ?_
    exact c_Tx_joined_144 C hret  (a1 + a3) S h
  · rcases zite h with ⟨c2, h⟩ | ⟨c2, h⟩
    · refine z_tab C (6 : Int32) 51 52 c2 (by decide) (by decide) (by decide) (by decide) d_Tx_joined_1 ?_
      refine z_lload_n C 1 rfl d_Tx_joined_52 rfl ?_
      refine z_lload_n C 2 rfl d_Tx_joined_53 rfl ?_
      refine z_lsub C d_Tx_joined_54 ?_
      refine z_lstore C [(5, zl (a1 - a3)), (0, zi a0), (1, zl a1), (3, zl a3)] d_Tx_joined_55 (by decide) rfl ?_
      refine z_goto C 144 d_Tx_joined_57 (by decide) ?_
      refine zq_lsub [0] [(5, zl (a1 - a3))] rfl ?_
      exact c_Tx_joined_144 C hret  (a1 - a3) S h
    · rcases zite h with ⟨c3, h⟩ | ⟨c3, h⟩
      · refine z_tab C (7 : Int32) 59 60 c3 (by decide) (by decide) (by decide) (by decide) d_Tx_joined_1 ?_
        refine z_lload_n C 1 rfl d_Tx_joined_60 rfl ?_
        refine z_lload_n C 2 rfl d_Tx_joined_61 rfl ?_
        refine z_lmul C d_Tx_joined_62 ?_
        refine z_lstore C [(5, zl (a1 * a3)), (0, zi a0), (1, zl a1), (3, zl a3)] d_Tx_joined_63 (by decide) rfl ?_
        refine z_goto C 144 d_Tx_joined_65 (by decide) ?_
        refine zq_lsub [0] [(5, zl (a1 * a3))] rfl ?_
        exact c_Tx_joined_144 C hret  (a1 * a3) S h
      · rcases zite h with ⟨c4, h⟩ | ⟨c4, h⟩
        · refine z_tab C (8 : Int32) 67 68 c4 (by decide) (by decide) (by decide) (by decide) d_Tx_joined_1 ?_
          refine z_lload_n C 2 rfl d_Tx_joined_68 rfl ?_
          refine z_lconst C (0 : Int64) (by decide) d_Tx_joined_69 ?_
          refine z_lcmp C d_Tx_joined_70 ?_
          rcases zite h with ⟨c5, h⟩ | ⟨c5, h⟩
          · refine z_if_nef C 80 c5 d_Tx_joined_71 (by decide) ?_
            refine z_ldc2 C zc_10_54 d_Tx_joined_74 ?_
            refine z_goto C 83 d_Tx_joined_77 (by decide) ?_
            refine z_lstore C [(5, zl (-9000000000000000000 : Int64)), (0, zi a0), (1, zl a1), (3, zl a3)] d_Tx_joined_83 (by decide) rfl ?_
            refine z_goto C 144 d_Tx_joined_85 (by decide) ?_
            refine zq_lsub [0] [(5, zl (-9000000000000000000 : Int64))] rfl ?_
            exact c_Tx_joined_144 C hret  (-9000000000000000000 : Int64) S h
          · refine z_if_net C 80 c5 d_Tx_joined_71 (by decide) ?_
            refine z_lload_n C 1 rfl d_Tx_joined_80 rfl ?_
            refine z_lload_n C 2 rfl d_Tx_joined_81 rfl ?_
            obtain ⟨g6, h⟩ := zgd_some h
            refine z_ldiv C g6 d_Tx_joined_82 ?_
            refine z_lstore C [(5, zl (a1 / a3)), (0, zi a0), (1, zl a1), (3, zl a3)] d_Tx_joined_83 (by decide) rfl ?_
            refine z_goto C 144 d_Tx_joined_85 (by decide) ?_
            refine zq_lsub [0] [(5, zl (a1 / a3))] rfl ?_
            exact c_Tx_joined_144 C hret  (a1 / a3) S h
        · rcases zite h with ⟨c7, h⟩ | ⟨c7, h⟩
          · refine z_tab C (9 : Int32) 87 88 c7 (by decide) (by decide) (by decide) (by decide) d_Tx_joined_1 ?_
            refine z_lload_n C 2 rfl d_Tx_joined_88 rfl ?_
            refine z_lconst C (0 : Int64) (by decide) d_Tx_joined_89 ?_
            refine z_lcmp C d_Tx_joined_90 ?_
            rcases zite h with ⟨c8, h⟩ | ⟨c8, h⟩
            · refine z_if_nef C 100 c8 d_Tx_joined_91 (by decide) ?_
              refine z_ldc2 C zc_10_54 d_Tx_joined_94 ?_
              refine z_goto C 103 d_Tx_joined_97 (by decide) ?_
              refine z_lstore C [(5, zl (-9000000000000000000 : Int64)), (0, zi a0), (1, zl a1), (3, zl a3)] d_Tx_joined_103 (by decide) rfl ?_
              refine z_goto C 144 d_Tx_joined_105 (by decide) ?_
              refine zq_lsub [0] [(5, zl (-9000000000000000000 : Int64))] rfl ?_
              exact c_Tx_joined_144 C hret  (-9000000000000000000 : Int64) S h
            · refine z_if_net C 100 c8 d_Tx_joined_91 (by decide) ?_
              refine z_lload_n C 1 rfl d_Tx_joined_100 rfl ?_
              refine z_lload_n C 2 rfl d_Tx_joined_101 rfl ?_
              obtain ⟨g9, h⟩ := zgd_some h
              refine z_lrem C g9 d_Tx_joined_102 ?_
              refine z_lstore C [(5, zl (a1 - a1 / a3 * a3)), (0, zi a0), (1, zl a1), (3, zl a3)] d_Tx_joined_103 (by decide) rfl ?_
              refine z_goto C 144 d_Tx_joined_105 (by decide) ?_
              refine zq_lsub [0] [(5, zl (a1 - a1 / a3 * a3))] rfl ?_
              exact c_Tx_joined_144 C hret  (a1 - a1 / a3 * a3) S h
          · rcases zite h with ⟨c10, h⟩ | ⟨c10, h⟩
            · refine z_tab C (10 : Int32) 107 108 c10 (by decide) (by decide) (by decide) (by decide) d_Tx_joined_1 ?_
              refine z_lload_n C 1 rfl d_Tx_joined_108 rfl ?_
              refine z_lload_n C 2 rfl d_Tx_joined_109 rfl ?_
              refine z_lcmp C d_Tx_joined_110 ?_
              rcases zite h with ⟨c11, h⟩ | ⟨c11, h⟩
              · refine z_if_get C 118 c11 d_Tx_joined_111 (by decide) ?_
                refine z_lconst C (0 : Int64) (by decide) d_Tx_joined_118 ?_
                cases h
                exact z_lret C hret ⟨Nat.zero_le _, Nat.zero_le _⟩ d_Tx_joined_119
              · refine z_if_gef C 118 c11 d_Tx_joined_111 (by decide) ?_
                refine z_lconst C (1 : Int64) (by decide) d_Tx_joined_114 ?_
                refine z_goto C 119 d_Tx_joined_115 (by decide) ?_
                cases h
                exact z_lret C hret ⟨Nat.zero_le _, Nat.zero_le _⟩ d_Tx_joined_119
            · rcases zite h with ⟨c12, h⟩ | ⟨c12, h⟩
              · refine z_tab C (11 : Int32) 119 120 c12 (by decide) (by decide) (by decide) (by decide) d_Tx_joined_1 ?_
                refine z_lload_n C 1 rfl d_Tx_joined_120 rfl ?_
                refine z_lload_n C 2 rfl d_Tx_joined_121 rfl ?_
                refine z_lcmp C d_Tx_joined_122 ?_
                rcases zite h with ⟨c13, h⟩ | ⟨c13, h⟩
                · refine z_if_let C 130 c13 d_Tx_joined_123 (by decide) ?_
                  refine z_lconst C (0 : Int64) (by decide) d_Tx_joined_130 ?_
                  cases h
                  exact z_lret C hret ⟨Nat.zero_le _, Nat.zero_le _⟩ d_Tx_joined_131
                · refine z_if_lef C 130 c13 d_Tx_joined_123 (by decide) ?_
                  refine z_lconst C (1 : Int64) (by decide) d_Tx_joined_126 ?_
                  refine z_goto C 131 d_Tx_joined_127 (by decide) ?_
                  cases h
                  exact z_lret C hret ⟨Nat.zero_le _, Nat.zero_le _⟩ d_Tx_joined_131
              · refine z_tabO C (5) 7 (by decide) (fun j hj => by match j, hj with | 0, _ => exact c1 | 1, _ => exact c2 | 2, _ => exact c3 | 3, _ => exact c4 | 4, _ => exact c7 | 5, _ => exact c10 | 6, _ => exact c12 | j + 7, hj => omega) 132 (by decide) d_Tx_joined_1 ?_
                refine z_lload_n C 1 rfl d_Tx_joined_132 rfl ?_
                refine z_lload_n C 2 rfl d_Tx_joined_133 rfl ?_
                refine z_lcmp C d_Tx_joined_134 ?_
                rcases zite h with ⟨c14, h⟩ | ⟨c14, h⟩
                · refine z_if_nef C 142 c14 d_Tx_joined_135 (by decide) ?_
                  refine z_lconst C (1 : Int64) (by decide) d_Tx_joined_138 ?_
                  refine z_goto C 143 d_Tx_joined_139 (by decide) ?_
                  cases h
                  exact z_lret C hret ⟨Nat.zero_le _, Nat.zero_le _⟩ d_Tx_joined_143
                · refine z_if_net C 142 c14 d_Tx_joined_135 (by decide) ?_
                  refine z_lconst C (0 : Int64) (by decide) d_Tx_joined_142 ?_
                  cases h
                  exact z_lret C hret ⟨Nat.zero_le _, Nat.zero_le _⟩ d_Tx_joined_143
def f_Tx_value_111 (fu : Nat) (a0 : Nat) (a3 : Nat) (k21 : Int32 → Int32 → Int32 → zSt → Option (Int64 × zSt)) (a5 : Int32) (a6 : Int32) (a7 : Int32) (a8 : Int32) (a9 : Int32) (S : zSt) : Option (Int64 × zSt) := if a8 = (1 : Int32) then zgd (0 ≤ a9 ∧ a9.toNatClampNeg < zA S a3) (zgd (0 ≤ a6 ∧ a6.toNatClampNeg < 50) (k21 a5 (a6 + (1 : Int32)) (a7 + (1 : Int32)) (zwL S 53 a6.toNatClampNeg ((zI S a3 a9.toNatClampNeg).toInt64)))) else zgd (0 ≤ a6 ∧ a6.toNatClampNeg < 50) (k21 a5 (a6 + (1 : Int32)) (a7 + (1 : Int32)) (zwL S 53 a6.toNatClampNeg a9.toInt64))
def f_Tx_value_183 (fu : Nat) (a0 : Nat) (a3 : Nat) (a6 : Int32) (S : zSt) : Option (Int64 × zSt) := zgd (0 ≤ (a6 - (1 : Int32)) ∧ (a6 - (1 : Int32)).toNatClampNeg < 50) (some (zL S 53 (a6 - (1 : Int32)).toNatClampNeg, S))
def f_Tx_value_271 (fu : Nat) (a0 : Nat) (a3 : Nat) (k21 : Int32 → Int32 → Int32 → zSt → Option (Int64 × zSt)) (a6 : Int32) (a7 : Int32) (a10 : Int32) (k0 : Int32) (S : zSt) : Option (Int64 × zSt) := if a10 = 0 then k21 k0 (a6 - (1 : Int32)) (a7 + (1 : Int32)) S else k21 k0 a6 (a7 + (1 : Int32)) S
def f_Tx_value_250 (fu : Nat) (a0 : Nat) (a3 : Nat) (k21 : Int32 → Int32 → Int32 → zSt → Option (Int64 × zSt)) (a5 : Int32) (a6 : Int32) (a7 : Int32) (a9 : Int32) (k0 : Int32) (S : zSt) : Option (Int64 × zSt) := if k0 = 0 then f_Tx_value_271 fu a0 a3 k21 a6 a7 k0 a5 S else if a9 ≤ a5 then f_Tx_value_271 fu a0 a3 k21 a6 a7 k0 a5 S else f_Tx_value_271 fu a0 a3 k21 a6 a7 k0 a9 S
def f_Tx_value_176 (fu : Nat) (a0 : Nat) (a3 : Nat) (k21 : Int32 → Int32 → Int32 → zSt → Option (Int64 × zSt)) (a5 : Int32) (a6 : Int32) (a7 : Int32) (a8 : Int32) (a9 : Int32) (S : zSt) : Option (Int64 × zSt) := if a8 = (13 : Int32) then f_Tx_value_183 fu a0 a3 a6 S else if a8 = (4 : Int32) then zgd (0 ≤ (a6 - (1 : Int32)) ∧ (a6 - (1 : Int32)).toNatClampNeg < 50) (zgd (0 ≤ (a6 - (1 : Int32)) ∧ (a6 - (1 : Int32)).toNatClampNeg < 50) (k21 a5 a6 (a7 + (1 : Int32)) (zwL S 53 (a6 - (1 : Int32)).toNatClampNeg ((1 : Int64) - (zL S 53 (a6 - (1 : Int32)).toNatClampNeg))))) else if (3 : Int32) < a8 then zgd (0 ≤ ((a6 + (-1 : Int32)) - (1 : Int32)) ∧ ((a6 + (-1 : Int32)) - (1 : Int32)).toNatClampNeg < 50) (zgd (0 ≤ (a6 + (-1 : Int32)) ∧ (a6 + (-1 : Int32)).toNatClampNeg < 50) (zb1 (f_Tx_joined a8 (zL S 53 ((a6 + (-1 : Int32)) - (1 : Int32)).toNatClampNeg) (zL S 53 (a6 + (-1 : Int32)).toNatClampNeg)) (fun r7 => zgd (0 ≤ ((a6 + (-1 : Int32)) - (1 : Int32)) ∧ ((a6 + (-1 : Int32)) - (1 : Int32)).toNatClampNeg < 50) (zgd (0 ≤ ((a6 + (-1 : Int32)) - (1 : Int32)) ∧ ((a6 + (-1 : Int32)) - (1 : Int32)).toNatClampNeg < 50) (if (lg_cmp (zL (zwL S 53 ((a6 + (-1 : Int32)) - (1 : Int32)).toNatClampNeg r7) 53 ((a6 + (-1 : Int32)) - (1 : Int32)).toNatClampNeg) (-9000000000000000000 : Int64)) = 0 then some ((-9000000000000000000 : Int64), zwL S 53 ((a6 + (-1 : Int32)) - (1 : Int32)).toNatClampNeg r7) else k21 a5 (a6 + (-1 : Int32)) (a7 + (1 : Int32)) (zwL S 53 ((a6 + (-1 : Int32)) - (1 : Int32)).toNatClampNeg r7)))))) else zgd (0 ≤ (a6 - (1 : Int32)) ∧ (a6 - (1 : Int32)).toNatClampNeg < 50) (if a8 = (3 : Int32) then if (lg_cmp (zL S 53 (a6 - (1 : Int32)).toNatClampNeg) ((1 : Int32).toInt64)) = 0 then f_Tx_value_250 fu a0 a3 k21 a5 a6 a7 a9 (1 : Int32) S else f_Tx_value_250 fu a0 a3 k21 a5 a6 a7 a9 (0 : Int32) S else if (lg_cmp (zL S 53 (a6 - (1 : Int32)).toNatClampNeg) ((0 : Int32).toInt64)) = 0 then f_Tx_value_250 fu a0 a3 k21 a5 a6 a7 a9 (1 : Int32) S else f_Tx_value_250 fu a0 a3 k21 a5 a6 a7 a9 (0 : Int32) S)
def f_Tx_value_21 (fu : Nat) (a0 : Nat) (a3 : Nat) : Nat → Int32 → Int32 → Int32 → zSt → Option (Int64 × zSt)
  | 0, _, _, _, _ => none
  | n + 1, a5, a6, a7, S => if (zI S a0 1) < a7 then some ((-9000000000000000000 : Int64), S) else if (zI S a0 1) ≤ a5 then some ((-9000000000000000000 : Int64), S) else if ((zA S (a0 + 4)).toInt32) ≤ a5 then some ((-9000000000000000000 : Int64), S) else zgd (0 ≤ a5 ∧ a5.toNatClampNeg < zA S (a0 + 4)) (zgd (0 ≤ a5 ∧ a5.toNatClampNeg < zA S (a0 + 4)) (if (1 : Int32) < ((zI S (a0 + 4) a5.toNatClampNeg) &&& (15 : Int32)) then if a6 < (1 : Int32) then some ((-9000000000000000000 : Int64), S) else if (50 : Int32) < a6 then some ((-9000000000000000000 : Int64), S) else if ((zI S (a0 + 4) a5.toNatClampNeg) &&& (15 : Int32)) ≤ (4 : Int32) then f_Tx_value_176 fu a0 a3 (f_Tx_value_21 fu a0 a3 n) (a5 + (1 : Int32)) a6 a7 ((zI S (a0 + 4) a5.toNatClampNeg) &&& (15 : Int32)) ((zI S (a0 + 4) a5.toNatClampNeg) >>> ((4 : Int32) &&& 31)) S else if (13 : Int32) ≤ ((zI S (a0 + 4) a5.toNatClampNeg) &&& (15 : Int32)) then f_Tx_value_176 fu a0 a3 (f_Tx_value_21 fu a0 a3 n) (a5 + (1 : Int32)) a6 a7 ((zI S (a0 + 4) a5.toNatClampNeg) &&& (15 : Int32)) ((zI S (a0 + 4) a5.toNatClampNeg) >>> ((4 : Int32) &&& 31)) S else if (2 : Int32) ≤ a6 then f_Tx_value_176 fu a0 a3 (f_Tx_value_21 fu a0 a3 n) (a5 + (1 : Int32)) a6 a7 ((zI S (a0 + 4) a5.toNatClampNeg) &&& (15 : Int32)) ((zI S (a0 + 4) a5.toNatClampNeg) >>> ((4 : Int32) &&& 31)) S else some ((-9000000000000000000 : Int64), S) else if (50 : Int32) ≤ a6 then some ((-9000000000000000000 : Int64), S) else if ((zI S (a0 + 4) a5.toNatClampNeg) &&& (15 : Int32)) = (1 : Int32) then if ((zI S (a0 + 4) a5.toNatClampNeg) >>> ((4 : Int32) &&& 31)) < 0 then some ((-9000000000000000000 : Int64), S) else if ((zI S (a0 + 4) a5.toNatClampNeg) >>> ((4 : Int32) &&& 31)) < ((zA S a3).toInt32) then f_Tx_value_111 fu a0 a3 (f_Tx_value_21 fu a0 a3 n) (a5 + (1 : Int32)) a6 a7 ((zI S (a0 + 4) a5.toNatClampNeg) &&& (15 : Int32)) ((zI S (a0 + 4) a5.toNatClampNeg) >>> ((4 : Int32) &&& 31)) S else some ((-9000000000000000000 : Int64), S) else f_Tx_value_111 fu a0 a3 (f_Tx_value_21 fu a0 a3 n) (a5 + (1 : Int32)) a6 a7 ((zI S (a0 + 4) a5.toNatClampNeg) &&& (15 : Int32)) ((zI S (a0 + 4) a5.toNatClampNeg) >>> ((4 : Int32) &&& 31)) S))
def f_Tx_value (fu : Nat) (a0 : Nat) (a3 : Nat) (a1 : Int32) (a2 : Int32) (S : zSt) : Option (Int64 × zSt) := zb1 (f_Tx_startOf a0 a1 a2 S) (fun r2 => if 0 ≤ r2 then f_Tx_value_21 fu a0 a3 fu r2 (0 : Int32) (0 : Int32) S else some ((1 : Int64), S))
set_option maxRecDepth 100000 in
set_option maxHeartbeats 4000000 in
theorem c_Tx_value_111 {p : Program} {l : Launch} {e : Env} {s : State} {m : MethodId} {args : Array Value} {below : List Frame} {meth : Method} {c : Code} {G : zG} (C : zC p s m args meth c G b_Tx_value 11 y_Tx_value.cls) (hret : meth.sig.returnType = (some .long)) {fu : Nat} {a0 : Nat} {a3 : Nat} {r : Int64} {S1 : zSt} (ha0 : zK a0 = 10) (ha3 : zK a3 = 50) (ga3 : a3 < zN0) {k21 : Int32 → Int32 → Int32 → zSt → Option (Int64 × zSt)} (hk21 : ∀ (a5 : Int32) (a6 : Int32) (a7 : Int32) (S : zSt) (ga0 : a0 < zN S) , k21 a5 a6 a7 S = some (r, S1) → zJ p l e rm_Tx_value s m args below meth c G true 11 0 0 (zQm below G args s rm_Tx_value true (some (zl r)) S1) S 21 [(0, zr (some a0)), (3, zr (some a3)), (4, zr (some 53)), (5, zi a5), (6, zi a6), (7, zi a7)] []) : ∀ (a5 : Int32) (a6 : Int32) (a7 : Int32) (a8 : Int32) (a9 : Int32) (S : zSt) (ga0 : a0 < zN S) , f_Tx_value_111 fu a0 a3 k21 a5 a6 a7 a8 a9 S = some (r, S1) → zJ p l e rm_Tx_value s m args below meth c G true 11 0 0 (zQm below G args s rm_Tx_value true (some (zl r)) S1) S 111 [(0, zr (some a0)), (3, zr (some a3)), (4, zr (some 53)), (5, zi a5), (6, zi a6), (7, zi a7), (8, zi a8), (9, zi a9)] [] := by
  intro a5 a6 a7 a8 a9 S ga0 h
  unfold f_Tx_value_111 at h
  refine z_aload C 2 rfl d_Tx_value_111 ?_
  refine z_iload C 4 rfl d_Tx_value_113 ?_
  refine z_iload C 6 rfl d_Tx_value_115 ?_
  refine z_iconst C (1 : Int32) (by decide) d_Tx_value_117 ?_
  rcases zite h with ⟨c1, h⟩ | ⟨c1, h⟩
  · refine z_icmp_nef C 129 c1 d_Tx_value_118 (by decide) ?_
    refine z_aload_n C 1 rfl d_Tx_value_121 rfl ?_
    refine z_iload C 7 rfl d_Tx_value_122 ?_
    obtain ⟨g3, h⟩ := zgd_some h
    refine z_ialoadS C (Or.inl ⟨rfl, ga3⟩) ha3 rfl g3 d_Tx_value_124 ?_
    refine z_i2l C d_Tx_value_125 ?_
    refine z_goto C 132 d_Tx_value_126 (by decide) ?_
    refine z_fact (fun hSR => ?_)
    obtain ⟨g4, h⟩ := zgd_some h
    refine z_lastoreS C zo_53 zk_53 (za_53 hSR) g4 d_Tx_value_132 ?_
    refine z_iinc C 4 (a6 + (1 : Int32)) [(6, zi (a6 + (1 : Int32))), (0, zr (some a0)), (3, zr (some a3)), (4, zr (some 53)), (5, zi a5), (7, zi a7), (8, zi a8), (9, zi a9)] rfl d_Tx_value_133 (by first | rfl | decide) (by decide) rfl ?_
    refine z_goto C 337 d_Tx_value_136 (by decide) ?_
    refine z_iinc C 5 (a7 + (1 : Int32)) [(7, zi (a7 + (1 : Int32))), (6, zi (a6 + (1 : Int32))), (0, zr (some a0)), (3, zr (some a3)), (4, zr (some 53)), (5, zi a5), (8, zi a8), (9, zi a9)] rfl d_Tx_value_337 (by first | rfl | decide) (by decide) rfl ?_
    refine z_goto C 21 d_Tx_value_340 (by decide) ?_
    refine zq_lsub [2, 3, 4, 5, 1, 0] [(0, zr (some a0)), (3, zr (some a3)), (4, zr (some 53)), (5, zi a5), (6, zi (a6 + (1 : Int32))), (7, zi (a7 + (1 : Int32)))] rfl ?_
    exact hk21 a5 (a6 + (1 : Int32)) (a7 + (1 : Int32)) (zwL S 53 a6.toNatClampNeg ((zI S a3 a9.toNatClampNeg).toInt64)) ga0 h
  · refine z_icmp_net C 129 c1 d_Tx_value_118 (by decide) ?_
    refine z_iload C 7 rfl d_Tx_value_129 ?_
    refine z_i2l C d_Tx_value_131 ?_
    refine z_fact (fun hSR => ?_)
    obtain ⟨g2, h⟩ := zgd_some h
    refine z_lastoreS C zo_53 zk_53 (za_53 hSR) g2 d_Tx_value_132 ?_
    refine z_iinc C 4 (a6 + (1 : Int32)) [(6, zi (a6 + (1 : Int32))), (0, zr (some a0)), (3, zr (some a3)), (4, zr (some 53)), (5, zi a5), (7, zi a7), (8, zi a8), (9, zi a9)] rfl d_Tx_value_133 (by first | rfl | decide) (by decide) rfl ?_
    refine z_goto C 337 d_Tx_value_136 (by decide) ?_
    refine z_iinc C 5 (a7 + (1 : Int32)) [(7, zi (a7 + (1 : Int32))), (6, zi (a6 + (1 : Int32))), (0, zr (some a0)), (3, zr (some a3)), (4, zr (some 53)), (5, zi a5), (8, zi a8), (9, zi a9)] rfl d_Tx_value_337 (by first | rfl | decide) (by decide) rfl ?_
    refine z_goto C 21 d_Tx_value_340 (by decide) ?_
    refine zq_lsub [2, 3, 4, 5, 1, 0] [(0, zr (some a0)), (3, zr (some a3)), (4, zr (some 53)), (5, zi a5), (6, zi (a6 + (1 : Int32))), (7, zi (a7 + (1 : Int32)))] rfl ?_
    exact hk21 a5 (a6 + (1 : Int32)) (a7 + (1 : Int32)) (zwL S 53 a6.toNatClampNeg a9.toInt64) ga0 h
set_option maxRecDepth 100000 in
set_option maxHeartbeats 4000000 in
theorem c_Tx_value_183 {p : Program} {l : Launch} {e : Env} {s : State} {m : MethodId} {args : Array Value} {below : List Frame} {meth : Method} {c : Code} {G : zG} (C : zC p s m args meth c G b_Tx_value 11 y_Tx_value.cls) (hret : meth.sig.returnType = (some .long)) {fu : Nat} {a0 : Nat} {a3 : Nat} {r : Int64} {S1 : zSt} (ha0 : zK a0 = 10) (ha3 : zK a3 = 50) (ga3 : a3 < zN0) : ∀ (a6 : Int32) (S : zSt) (ga0 : a0 < zN S) , f_Tx_value_183 fu a0 a3 a6 S = some (r, S1) → zJ p l e rm_Tx_value s m args below meth c G true 11 0 0 (zQm below G args s rm_Tx_value true (some (zl r)) S1) S 183 [(4, zr (some 53)), (6, zi a6)] [] := by
  intro a6 S ga0 h
  unfold f_Tx_value_183 at h
  refine z_aload C 0 rfl d_Tx_value_183 ?_
  refine z_iload C 1 rfl d_Tx_value_185 ?_
  refine z_iconst C (1 : Int32) (by decide) d_Tx_value_187 ?_
  refine z_isub C d_Tx_value_188 ?_
  refine z_fact (fun hSR => ?_)
  obtain ⟨g1, h⟩ := zgd_some h
  refine z_laloadS C zo_53 zk_53 (za_53 hSR) g1 d_Tx_value_189 ?_
  cases h
  exact z_lret C hret ⟨Nat.zero_le _, Nat.zero_le _⟩ d_Tx_value_190
set_option maxRecDepth 100000 in
set_option maxHeartbeats 4000000 in
theorem c_Tx_value_271 {p : Program} {l : Launch} {e : Env} {s : State} {m : MethodId} {args : Array Value} {below : List Frame} {meth : Method} {c : Code} {G : zG} (C : zC p s m args meth c G b_Tx_value 11 y_Tx_value.cls) (hret : meth.sig.returnType = (some .long)) {fu : Nat} {a0 : Nat} {a3 : Nat} {r : Int64} {S1 : zSt} (ha0 : zK a0 = 10) (ha3 : zK a3 = 50) (ga3 : a3 < zN0) {k21 : Int32 → Int32 → Int32 → zSt → Option (Int64 × zSt)} (hk21 : ∀ (a5 : Int32) (a6 : Int32) (a7 : Int32) (S : zSt) (ga0 : a0 < zN S) , k21 a5 a6 a7 S = some (r, S1) → zJ p l e rm_Tx_value s m args below meth c G true 11 0 0 (zQm below G args s rm_Tx_value true (some (zl r)) S1) S 21 [(0, zr (some a0)), (3, zr (some a3)), (4, zr (some 53)), (5, zi a5), (6, zi a6), (7, zi a7)] []) : ∀ (a6 : Int32) (a7 : Int32) (a10 : Int32) (k0 : Int32) (S : zSt) (ga0 : a0 < zN S) , f_Tx_value_271 fu a0 a3 k21 a6 a7 a10 k0 S = some (r, S1) → zJ p l e rm_Tx_value s m args below meth c G true 11 0 0 (zQm below G args s rm_Tx_value true (some (zl r)) S1) S 271 [(0, zr (some a0)), (3, zr (some a3)), (4, zr (some 53)), (6, zi a6), (7, zi a7), (10, zi a10)] [zi k0] := by
  intro a6 a7 a10 k0 S ga0 h
  unfold f_Tx_value_271 at h
  refine z_istore C [(5, zi k0), (0, zr (some a0)), (3, zr (some a3)), (4, zr (some 53)), (6, zi a6), (7, zi a7), (10, zi a10)] d_Tx_value_271 (by decide) rfl ?_
  refine z_iload C 6 rfl d_Tx_value_273 ?_
  rcases zite h with ⟨c1, h⟩ | ⟨c1, h⟩
  · refine z_if_eqt C 283 c1 d_Tx_value_275 (by decide) ?_
    refine z_iload C 4 rfl d_Tx_value_283 ?_
    refine z_iconst C (1 : Int32) (by decide) d_Tx_value_285 ?_
    refine z_isub C d_Tx_value_286 ?_
    refine z_istore C [(6, zi (a6 - (1 : Int32))), (5, zi k0), (0, zr (some a0)), (3, zr (some a3)), (4, zr (some 53)), (7, zi a7), (10, zi a10)] d_Tx_value_287 (by decide) rfl ?_
    refine z_goto C 337 d_Tx_value_289 (by decide) ?_
    refine z_iinc C 5 (a7 + (1 : Int32)) [(7, zi (a7 + (1 : Int32))), (6, zi (a6 - (1 : Int32))), (5, zi k0), (0, zr (some a0)), (3, zr (some a3)), (4, zr (some 53)), (10, zi a10)] rfl d_Tx_value_337 (by first | rfl | decide) (by decide) rfl ?_
    refine z_goto C 21 d_Tx_value_340 (by decide) ?_
    refine zq_lsub [3, 4, 5, 2, 1, 0] [(0, zr (some a0)), (3, zr (some a3)), (4, zr (some 53)), (5, zi k0), (6, zi (a6 - (1 : Int32))), (7, zi (a7 + (1 : Int32)))] rfl ?_
    exact hk21 k0 (a6 - (1 : Int32)) (a7 + (1 : Int32)) S ga0 h
  · refine z_if_eqf C 283 c1 d_Tx_value_275 (by decide) ?_
    refine z_iload C 4 rfl d_Tx_value_278 ?_
    refine z_goto C 287 d_Tx_value_280 (by decide) ?_
    refine z_istore C [(6, zi a6), (5, zi k0), (0, zr (some a0)), (3, zr (some a3)), (4, zr (some 53)), (7, zi a7), (10, zi a10)] d_Tx_value_287 (by decide) rfl ?_
    refine z_goto C 337 d_Tx_value_289 (by decide) ?_
    refine z_iinc C 5 (a7 + (1 : Int32)) [(7, zi (a7 + (1 : Int32))), (6, zi a6), (5, zi k0), (0, zr (some a0)), (3, zr (some a3)), (4, zr (some 53)), (10, zi a10)] rfl d_Tx_value_337 (by first | rfl | decide) (by decide) rfl ?_
    refine z_goto C 21 d_Tx_value_340 (by decide) ?_
    refine zq_lsub [3, 4, 5, 2, 1, 0] [(0, zr (some a0)), (3, zr (some a3)), (4, zr (some 53)), (5, zi k0), (6, zi a6), (7, zi (a7 + (1 : Int32)))] rfl ?_
    exact hk21 k0 a6 (a7 + (1 : Int32)) S ga0 h
set_option maxRecDepth 100000 in
set_option maxHeartbeats 4000000 in
theorem c_Tx_value_250 {p : Program} {l : Launch} {e : Env} {s : State} {m : MethodId} {args : Array Value} {below : List Frame} {meth : Method} {c : Code} {G : zG} (C : zC p s m args meth c G b_Tx_value 11 y_Tx_value.cls) (hret : meth.sig.returnType = (some .long)) {fu : Nat} {a0 : Nat} {a3 : Nat} {r : Int64} {S1 : zSt} (ha0 : zK a0 = 10) (ha3 : zK a3 = 50) (ga3 : a3 < zN0) {k21 : Int32 → Int32 → Int32 → zSt → Option (Int64 × zSt)} (hk21 : ∀ (a5 : Int32) (a6 : Int32) (a7 : Int32) (S : zSt) (ga0 : a0 < zN S) , k21 a5 a6 a7 S = some (r, S1) → zJ p l e rm_Tx_value s m args below meth c G true 11 0 0 (zQm below G args s rm_Tx_value true (some (zl r)) S1) S 21 [(0, zr (some a0)), (3, zr (some a3)), (4, zr (some 53)), (5, zi a5), (6, zi a6), (7, zi a7)] []) : ∀ (a5 : Int32) (a6 : Int32) (a7 : Int32) (a9 : Int32) (k0 : Int32) (S : zSt) (ga0 : a0 < zN S) , f_Tx_value_250 fu a0 a3 k21 a5 a6 a7 a9 k0 S = some (r, S1) → zJ p l e rm_Tx_value s m args below meth c G true 11 0 0 (zQm below G args s rm_Tx_value true (some (zl r)) S1) S 250 [(0, zr (some a0)), (3, zr (some a3)), (4, zr (some 53)), (5, zi a5), (6, zi a6), (7, zi a7), (9, zi a9)] [zi k0] := by
  intro a5 a6 a7 a9 k0 S ga0 h
  unfold f_Tx_value_250 at h
  refine z_istore C [(10, zi k0), (0, zr (some a0)), (3, zr (some a3)), (4, zr (some 53)), (5, zi a5), (6, zi a6), (7, zi a7), (9, zi a9)] d_Tx_value_250 (by decide) rfl ?_
  refine z_iload C 0 rfl d_Tx_value_252 ?_
  rcases zite h with ⟨c1, h⟩ | ⟨c1, h⟩
  · refine z_if_eqt C 269 c1 d_Tx_value_254 (by decide) ?_
    refine z_iload C 4 rfl d_Tx_value_269 ?_
    refine zq_lsub [1, 2, 3, 5, 6, 0] [(0, zr (some a0)), (3, zr (some a3)), (4, zr (some 53)), (6, zi a6), (7, zi a7), (10, zi k0)] rfl ?_
    exact c_Tx_value_271 C hret ha0 ha3 ga3 hk21  a6 a7 k0 a5 S ga0 h
  · refine z_if_eqf C 269 c1 d_Tx_value_254 (by decide) ?_
    refine z_iload C 7 rfl d_Tx_value_257 ?_
    refine z_iload C 4 rfl d_Tx_value_259 ?_
    rcases zite h with ⟨c2, h⟩ | ⟨c2, h⟩
    · refine z_icmp_let C 269 c2 d_Tx_value_261 (by decide) ?_
      refine z_iload C 4 rfl d_Tx_value_269 ?_
      refine zq_lsub [1, 2, 3, 5, 6, 0] [(0, zr (some a0)), (3, zr (some a3)), (4, zr (some 53)), (6, zi a6), (7, zi a7), (10, zi k0)] rfl ?_
      exact c_Tx_value_271 C hret ha0 ha3 ga3 hk21  a6 a7 k0 a5 S ga0 h
    · refine z_icmp_lef C 269 c2 d_Tx_value_261 (by decide) ?_
      refine z_iload C 7 rfl d_Tx_value_264 ?_
      refine z_goto C 271 d_Tx_value_266 (by decide) ?_
      refine zq_lsub [1, 2, 3, 5, 6, 0] [(0, zr (some a0)), (3, zr (some a3)), (4, zr (some 53)), (6, zi a6), (7, zi a7), (10, zi k0)] rfl ?_
      exact c_Tx_value_271 C hret ha0 ha3 ga3 hk21  a6 a7 k0 a9 S ga0 h
set_option maxRecDepth 100000 in
set_option maxHeartbeats 4000000 in
theorem c_Tx_value_176 {p : Program} {l : Launch} {e : Env} {s : State} {m : MethodId} {args : Array Value} {below : List Frame} {meth : Method} {c : Code} {G : zG} (C : zC p s m args meth c G b_Tx_value 11 y_Tx_value.cls) (hret : meth.sig.returnType = (some .long)) {fu : Nat} {a0 : Nat} {a3 : Nat} {r : Int64} {S1 : zSt} (ha0 : zK a0 = 10) (ha3 : zK a3 = 50) (ga3 : a3 < zN0) {k21 : Int32 → Int32 → Int32 → zSt → Option (Int64 × zSt)} (hk21 : ∀ (a5 : Int32) (a6 : Int32) (a7 : Int32) (S : zSt) (ga0 : a0 < zN S) , k21 a5 a6 a7 S = some (r, S1) → zJ p l e rm_Tx_value s m args below meth c G true 11 0 0 (zQm below G args s rm_Tx_value true (some (zl r)) S1) S 21 [(0, zr (some a0)), (3, zr (some a3)), (4, zr (some 53)), (5, zi a5), (6, zi a6), (7, zi a7)] []) : ∀ (a5 : Int32) (a6 : Int32) (a7 : Int32) (a8 : Int32) (a9 : Int32) (S : zSt) (ga0 : a0 < zN S) , f_Tx_value_176 fu a0 a3 k21 a5 a6 a7 a8 a9 S = some (r, S1) → zJ p l e rm_Tx_value s m args below meth c G true 11 0 0 (zQm below G args s rm_Tx_value true (some (zl r)) S1) S 176 [(0, zr (some a0)), (3, zr (some a3)), (4, zr (some 53)), (5, zi a5), (6, zi a6), (7, zi a7), (8, zi a8), (9, zi a9)] [] := by
  intro a5 a6 a7 a8 a9 S ga0 h
  unfold f_Tx_value_176 at h
  refine z_iload C 6 rfl d_Tx_value_176 ?_
  refine z_bipush C (13 : Int32) (by decide) d_Tx_value_178 ?_
  rcases zite h with ⟨c1, h⟩ | ⟨c1, h⟩
  · refine z_icmp_nef C 191 c1 d_Tx_value_180 (by decide) ?_
    refine zq_lsub [2, 4] [(4, zr (some 53)), (6, zi a6)] rfl ?_
    exact c_Tx_value_183 C hret ha0 ha3 ga3  a6 S ga0 h
  · refine z_icmp_net C 191 c1 d_Tx_value_180 (by decide) ?_
    refine z_iload C 6 rfl d_Tx_value_191 ?_
    refine z_iconst C (4 : Int32) (by decide) d_Tx_value_193 ?_
    rcases zite h with ⟨c2, h⟩ | ⟨c2, h⟩
    · refine z_icmp_nef C 216 c2 d_Tx_value_194 (by decide) ?_
      refine z_aload C 2 rfl d_Tx_value_197 ?_
      refine z_iload C 4 rfl d_Tx_value_199 ?_
      refine z_iconst C (1 : Int32) (by decide) d_Tx_value_201 ?_
      refine z_isub C d_Tx_value_202 ?_
      refine z_lconst C (1 : Int64) (by decide) d_Tx_value_203 ?_
      refine z_aload C 2 rfl d_Tx_value_204 ?_
      refine z_iload C 4 rfl d_Tx_value_206 ?_
      refine z_iconst C (1 : Int32) (by decide) d_Tx_value_208 ?_
      refine z_isub C d_Tx_value_209 ?_
      refine z_fact (fun hSR => ?_)
      obtain ⟨g15, h⟩ := zgd_some h
      refine z_laloadS C zo_53 zk_53 (za_53 hSR) g15 d_Tx_value_210 ?_
      refine z_lsub C d_Tx_value_211 ?_
      refine z_fact (fun hSR => ?_)
      obtain ⟨g16, h⟩ := zgd_some h
      refine z_lastoreS C zo_53 zk_53 (za_53 hSR) g16 d_Tx_value_212 ?_
      refine z_goto C 337 d_Tx_value_213 (by decide) ?_
      refine z_iinc C 5 (a7 + (1 : Int32)) [(7, zi (a7 + (1 : Int32))), (0, zr (some a0)), (3, zr (some a3)), (4, zr (some 53)), (5, zi a5), (6, zi a6), (8, zi a8), (9, zi a9)] rfl d_Tx_value_337 (by first | rfl | decide) (by decide) rfl ?_
      refine z_goto C 21 d_Tx_value_340 (by decide) ?_
      refine zq_lsub [1, 2, 3, 4, 5, 0] [(0, zr (some a0)), (3, zr (some a3)), (4, zr (some 53)), (5, zi a5), (6, zi a6), (7, zi (a7 + (1 : Int32)))] rfl ?_
      exact hk21 a5 a6 (a7 + (1 : Int32)) (zwL S 53 (a6 - (1 : Int32)).toNatClampNeg ((1 : Int64) - (zL S 53 (a6 - (1 : Int32)).toNatClampNeg))) ga0 h
    · refine z_icmp_net C 216 c2 d_Tx_value_194 (by decide) ?_
      refine z_iload C 6 rfl d_Tx_value_216 ?_
      refine z_iconst C (3 : Int32) (by decide) d_Tx_value_218 ?_
      rcases zite h with ⟨c3, h⟩ | ⟨c3, h⟩
      · refine z_icmp_gtt C 292 c3 d_Tx_value_219 (by decide) ?_
        refine z_iinc C 4 (a6 + (-1 : Int32)) [(6, zi (a6 + (-1 : Int32))), (0, zr (some a0)), (3, zr (some a3)), (4, zr (some 53)), (5, zi a5), (7, zi a7), (8, zi a8), (9, zi a9)] rfl d_Tx_value_292 (by first | rfl | decide) (by decide) rfl ?_
        refine z_aload C 3 rfl d_Tx_value_295 ?_
        refine z_iload C 0 rfl d_Tx_value_297 ?_
        refine z_iconst C (1 : Int32) (by decide) d_Tx_value_299 ?_
        refine z_isub C d_Tx_value_300 ?_
        refine z_iload C 6 rfl d_Tx_value_301 ?_
        refine z_aload C 3 rfl d_Tx_value_303 ?_
        refine z_iload C 0 rfl d_Tx_value_305 ?_
        refine z_iconst C (1 : Int32) (by decide) d_Tx_value_307 ?_
        refine z_isub C d_Tx_value_308 ?_
        refine z_fact (fun hSR => ?_)
        obtain ⟨g4, h⟩ := zgd_some h
        refine z_laloadS C zo_53 zk_53 (za_53 hSR) g4 d_Tx_value_309 ?_
        refine z_aload C 3 rfl d_Tx_value_310 ?_
        refine z_iload C 0 rfl d_Tx_value_312 ?_
        refine z_fact (fun hSR => ?_)
        obtain ⟨g5, h⟩ := zgd_some h
        refine z_laloadS C zo_53 zk_53 (za_53 hSR) g5 d_Tx_value_314 ?_
        obtain ⟨r7, h6, h⟩ := zb1_some h
        refine z_cS C (m_Tx_joined l h6) mf_Tx_joined lk_10_56 st_Tx_joined ⟨rfl, rfl⟩ ⟨by decide, by decide⟩ ⟨Nat.zero_le _, Nat.zero_le _⟩ rfl _ [zi ((a6 + (-1 : Int32)) - (1 : Int32)), zr (some 53)] rfl (Nat.le_of_ble_eq_true rfl) d_Tx_value_315 ?_
        refine z_fact (fun hSR => ?_)
        obtain ⟨g8, h⟩ := zgd_some h
        refine z_lastoreS C zo_53 zk_53 (za_53 hSR) g8 d_Tx_value_318 ?_
        refine z_aload C 3 rfl d_Tx_value_319 ?_
        refine z_iload C 0 rfl d_Tx_value_321 ?_
        refine z_iconst C (1 : Int32) (by decide) d_Tx_value_323 ?_
        refine z_isub C d_Tx_value_324 ?_
        refine z_fact (fun hSR => ?_)
        obtain ⟨g9, h⟩ := zgd_some h
        refine z_laloadS C zo_53 zk_53 (za_53 hSR) g9 d_Tx_value_325 ?_
        refine z_ldc2 C zc_10_54 d_Tx_value_326 ?_
        refine z_lcmp C d_Tx_value_329 ?_
        rcases zite h with ⟨c10, h⟩ | ⟨c10, h⟩
        · refine z_if_nef C 337 c10 d_Tx_value_330 (by decide) ?_
          refine z_ldc2 C zc_10_54 d_Tx_value_333 ?_
          cases h
          exact z_lret C hret ⟨Nat.zero_le _, Nat.zero_le _⟩ d_Tx_value_336
        · refine z_if_net C 337 c10 d_Tx_value_330 (by decide) ?_
          refine z_iinc C 5 (a7 + (1 : Int32)) [(7, zi (a7 + (1 : Int32))), (6, zi (a6 + (-1 : Int32))), (0, zr (some a0)), (3, zr (some a3)), (4, zr (some 53)), (5, zi a5), (8, zi a8), (9, zi a9)] rfl d_Tx_value_337 (by first | rfl | decide) (by decide) rfl ?_
          refine z_goto C 21 d_Tx_value_340 (by decide) ?_
          refine zq_lsub [2, 3, 4, 5, 1, 0] [(0, zr (some a0)), (3, zr (some a3)), (4, zr (some 53)), (5, zi a5), (6, zi (a6 + (-1 : Int32))), (7, zi (a7 + (1 : Int32)))] rfl ?_
          exact hk21 a5 (a6 + (-1 : Int32)) (a7 + (1 : Int32)) (zwL S 53 ((a6 + (-1 : Int32)) - (1 : Int32)).toNatClampNeg r7) ga0 h
      · refine z_icmp_gtf C 292 c3 d_Tx_value_219 (by decide) ?_
        refine z_aload C 2 rfl d_Tx_value_222 ?_
        refine z_iload C 4 rfl d_Tx_value_224 ?_
        refine z_iconst C (1 : Int32) (by decide) d_Tx_value_226 ?_
        refine z_isub C d_Tx_value_227 ?_
        refine z_fact (fun hSR => ?_)
        obtain ⟨g11, h⟩ := zgd_some h
        refine z_laloadS C zo_53 zk_53 (za_53 hSR) g11 d_Tx_value_228 ?_
        refine z_iload C 6 rfl d_Tx_value_229 ?_
        refine z_iconst C (3 : Int32) (by decide) d_Tx_value_231 ?_
        rcases zite h with ⟨c12, h⟩ | ⟨c12, h⟩
        · refine z_icmp_nef C 239 c12 d_Tx_value_232 (by decide) ?_
          refine z_iconst C (1 : Int32) (by decide) d_Tx_value_235 ?_
          refine z_goto C 240 d_Tx_value_236 (by decide) ?_
          refine z_i2l C d_Tx_value_240 ?_
          refine z_lcmp C d_Tx_value_241 ?_
          rcases zite h with ⟨c14, h⟩ | ⟨c14, h⟩
          · refine z_if_nef C 249 c14 d_Tx_value_242 (by decide) ?_
            refine z_iconst C (1 : Int32) (by decide) d_Tx_value_245 ?_
            refine z_goto C 250 d_Tx_value_246 (by decide) ?_
            refine zq_lsub [0, 1, 2, 3, 4, 5, 7] [(0, zr (some a0)), (3, zr (some a3)), (4, zr (some 53)), (5, zi a5), (6, zi a6), (7, zi a7), (9, zi a9)] rfl ?_
            exact c_Tx_value_250 C hret ha0 ha3 ga3 hk21  a5 a6 a7 a9 (1 : Int32) S ga0 h
          · refine z_if_net C 249 c14 d_Tx_value_242 (by decide) ?_
            refine z_iconst C (0 : Int32) (by decide) d_Tx_value_249 ?_
            refine zq_lsub [0, 1, 2, 3, 4, 5, 7] [(0, zr (some a0)), (3, zr (some a3)), (4, zr (some 53)), (5, zi a5), (6, zi a6), (7, zi a7), (9, zi a9)] rfl ?_
            exact c_Tx_value_250 C hret ha0 ha3 ga3 hk21  a5 a6 a7 a9 (0 : Int32) S ga0 h
        · refine z_icmp_net C 239 c12 d_Tx_value_232 (by decide) ?_
          refine z_iconst C (0 : Int32) (by decide) d_Tx_value_239 ?_
          refine z_i2l C d_Tx_value_240 ?_
          refine z_lcmp C d_Tx_value_241 ?_
          rcases zite h with ⟨c13, h⟩ | ⟨c13, h⟩
          · refine z_if_nef C 249 c13 d_Tx_value_242 (by decide) ?_
            refine z_iconst C (1 : Int32) (by decide) d_Tx_value_245 ?_
            refine z_goto C 250 d_Tx_value_246 (by decide) ?_
            refine zq_lsub [0, 1, 2, 3, 4, 5, 7] [(0, zr (some a0)), (3, zr (some a3)), (4, zr (some 53)), (5, zi a5), (6, zi a6), (7, zi a7), (9, zi a9)] rfl ?_
            exact c_Tx_value_250 C hret ha0 ha3 ga3 hk21  a5 a6 a7 a9 (1 : Int32) S ga0 h
          · refine z_if_net C 249 c13 d_Tx_value_242 (by decide) ?_
            refine z_iconst C (0 : Int32) (by decide) d_Tx_value_249 ?_
            refine zq_lsub [0, 1, 2, 3, 4, 5, 7] [(0, zr (some a0)), (3, zr (some a3)), (4, zr (some 53)), (5, zi a5), (6, zi a6), (7, zi a7), (9, zi a9)] rfl ?_
            exact c_Tx_value_250 C hret ha0 ha3 ga3 hk21  a5 a6 a7 a9 (0 : Int32) S ga0 h
set_option maxRecDepth 100000 in
set_option maxHeartbeats 4000000 in
theorem c_Tx_value_21 {p : Program} {l : Launch} {e : Env} {s : State} {m : MethodId} {args : Array Value} {below : List Frame} {meth : Method} {c : Code} {G : zG} (C : zC p s m args meth c G b_Tx_value 11 y_Tx_value.cls) (hret : meth.sig.returnType = (some .long)) {fu : Nat} {a0 : Nat} {a3 : Nat} {r : Int64} {S1 : zSt} (ha0 : zK a0 = 10) (ha3 : zK a3 = 50) (ga3 : a3 < zN0) : ∀ (n : Nat) (a5 : Int32) (a6 : Int32) (a7 : Int32) (S : zSt) (ga0 : a0 < zN S) , f_Tx_value_21 fu a0 a3 n a5 a6 a7 S = some (r, S1) → zJ p l e rm_Tx_value s m args below meth c G true 11 0 0 (zQm below G args s rm_Tx_value true (some (zl r)) S1) S 21 [(0, zr (some a0)), (3, zr (some a3)), (4, zr (some 53)), (5, zi a5), (6, zi a6), (7, zi a7)] [] := by
  intro n
  induction n with
  | zero =>
    intro a5 a6 a7 S ga0 h
    cases h
  | succ n ih =>
    intro a5 a6 a7 S ga0 h
    rw [f_Tx_value_21] at h
    refine z_iload C 5 rfl d_Tx_value_21 ?_
    refine z_aload_n C 0 rfl d_Tx_value_23 rfl ?_
    refine z_getI C 10 (by decide) 1 (by decide) rfl (Or.inr ga0) ha0 zfl_10_9 d_Tx_value_24 ?_
    rcases zite h with ⟨c1, h⟩ | ⟨c1, h⟩
    · refine z_icmp_gtt C 343 c1 d_Tx_value_27 (by decide) ?_
      refine z_ldc2 C zc_10_54 d_Tx_value_343 ?_
      cases h
      exact z_lret C hret ⟨Nat.zero_le _, Nat.zero_le _⟩ d_Tx_value_346
    · refine z_icmp_gtf C 343 c1 d_Tx_value_27 (by decide) ?_
      refine z_iload C 3 rfl d_Tx_value_30 ?_
      refine z_aload_n C 0 rfl d_Tx_value_32 rfl ?_
      refine z_getI C 10 (by decide) 1 (by decide) rfl (Or.inr ga0) ha0 zfl_10_9 d_Tx_value_33 ?_
      rcases zite h with ⟨c2, h⟩ | ⟨c2, h⟩
      · refine z_icmp_get C 343 c2 d_Tx_value_36 (by decide) ?_
        refine z_ldc2 C zc_10_54 d_Tx_value_343 ?_
        cases h
        exact z_lret C hret ⟨Nat.zero_le _, Nat.zero_le _⟩ d_Tx_value_346
      · refine z_icmp_gef C 343 c2 d_Tx_value_36 (by decide) ?_
        refine z_iload C 3 rfl d_Tx_value_39 ?_
        refine z_aload_n C 0 rfl d_Tx_value_41 rfl ?_
        refine z_getF2 C 10 (by decide) 0 (by decide) rfl 4 0 rfl (a0 + 4) rfl (Or.inr ga0) ha0 zfl_10_32 d_Tx_value_42 ?_
        refine z_fact (fun hSR => ?_)
        refine z_alen50 C (Or.inr (ztx_4 hSR ha0 ga0).1) (ztk_4 ha0) d_Tx_value_45 ?_
        rcases zite h with ⟨c3, h⟩ | ⟨c3, h⟩
        · refine z_icmp_get C 343 c3 d_Tx_value_46 (by decide) ?_
          refine z_ldc2 C zc_10_54 d_Tx_value_343 ?_
          cases h
          exact z_lret C hret ⟨Nat.zero_le _, Nat.zero_le _⟩ d_Tx_value_346
        · refine z_icmp_gef C 343 c3 d_Tx_value_46 (by decide) ?_
          refine z_aload_n C 0 rfl d_Tx_value_49 rfl ?_
          refine z_getF2 C 10 (by decide) 0 (by decide) rfl 4 0 rfl (a0 + 4) rfl (Or.inr ga0) ha0 zfl_10_32 d_Tx_value_50 ?_
          refine z_iload C 3 rfl d_Tx_value_53 ?_
          refine z_fact (fun hSR => ?_)
          obtain ⟨g4, h⟩ := zgd_some h
          refine z_ialoadS C (Or.inr (ztx_4 hSR ha0 ga0).1) (ztk_4 ha0) rfl g4 d_Tx_value_55 ?_
          refine z_bipush C (15 : Int32) (by decide) d_Tx_value_56 ?_
          refine z_iand C d_Tx_value_58 ?_
          refine z_istore C [(8, zi ((zI S (a0 + 4) a5.toNatClampNeg) &&& (15 : Int32))), (0, zr (some a0)), (3, zr (some a3)), (4, zr (some 53)), (5, zi a5), (6, zi a6), (7, zi a7)] d_Tx_value_59 (by decide) rfl ?_
          refine z_aload_n C 1 rfl d_Tx_value_61 rfl ?_
          refine z_getF2 C 10 (by decide) 0 (by decide) rfl 4 0 rfl (a0 + 4) rfl (Or.inr ga0) ha0 zfl_10_32 d_Tx_value_62 ?_
          refine z_iload C 4 rfl d_Tx_value_65 ?_
          refine z_fact (fun hSR => ?_)
          obtain ⟨g5, h⟩ := zgd_some h
          refine z_ialoadS C (Or.inr (ztx_4 hSR ha0 ga0).1) (ztk_4 ha0) rfl g5 d_Tx_value_67 ?_
          refine z_iconst C (4 : Int32) (by decide) d_Tx_value_68 ?_
          refine z_ishr C d_Tx_value_69 ?_
          refine z_istore C [(9, zi ((zI S (a0 + 4) a5.toNatClampNeg) >>> ((4 : Int32) &&& 31))), (8, zi ((zI S (a0 + 4) a5.toNatClampNeg) &&& (15 : Int32))), (0, zr (some a0)), (3, zr (some a3)), (4, zr (some 53)), (5, zi a5), (6, zi a6), (7, zi a7)] d_Tx_value_70 (by decide) rfl ?_
          refine z_iinc C 5 (a5 + (1 : Int32)) [(5, zi (a5 + (1 : Int32))), (9, zi ((zI S (a0 + 4) a5.toNatClampNeg) >>> ((4 : Int32) &&& 31))), (8, zi ((zI S (a0 + 4) a5.toNatClampNeg) &&& (15 : Int32))), (0, zr (some a0)), (3, zr (some a3)), (4, zr (some 53)), (6, zi a6), (7, zi a7)] rfl d_Tx_value_72 (by first | rfl | decide) (by decide) rfl ?_
          refine z_iload C 2 rfl d_Tx_value_75 ?_
          refine z_iconst C (1 : Int32) (by decide) d_Tx_value_77 ?_
          rcases zite h with ⟨c6, h⟩ | ⟨c6, h⟩
          · refine z_icmp_gtt C 139 c6 d_Tx_value_78 (by decide) ?_
            refine z_iload C 6 rfl d_Tx_value_139 ?_
            refine z_iconst C (1 : Int32) (by decide) d_Tx_value_141 ?_
            rcases zite h with ⟨c7, h⟩ | ⟨c7, h⟩
            · refine z_icmp_ltt C 172 c7 d_Tx_value_142 (by decide) ?_
              refine z_ldc2 C zc_10_54 d_Tx_value_172 ?_
              cases h
              exact z_lret C hret ⟨Nat.zero_le _, Nat.zero_le _⟩ d_Tx_value_175
            · refine z_icmp_ltf C 172 c7 d_Tx_value_142 (by decide) ?_
              refine z_iload C 6 rfl d_Tx_value_145 ?_
              refine z_aload C 5 rfl d_Tx_value_147 ?_
              refine z_fact (fun hSR => ?_)
              refine z_alen51S C (50 : Int32) (by decide) zo_53 zk_53 (za_53 hSR) d_Tx_value_149 ?_
              rcases zite h with ⟨c8, h⟩ | ⟨c8, h⟩
              · refine z_icmp_gtt C 172 c8 d_Tx_value_150 (by decide) ?_
                refine z_ldc2 C zc_10_54 d_Tx_value_172 ?_
                cases h
                exact z_lret C hret ⟨Nat.zero_le _, Nat.zero_le _⟩ d_Tx_value_175
              · refine z_icmp_gtf C 172 c8 d_Tx_value_150 (by decide) ?_
                refine z_iload C 2 rfl d_Tx_value_153 ?_
                refine z_iconst C (4 : Int32) (by decide) d_Tx_value_155 ?_
                rcases zite h with ⟨c9, h⟩ | ⟨c9, h⟩
                · refine z_icmp_let C 176 c9 d_Tx_value_156 (by decide) ?_
                  refine zq_lsub [3, 4, 5, 0, 6, 7, 2, 1] [(0, zr (some a0)), (3, zr (some a3)), (4, zr (some 53)), (5, zi (a5 + (1 : Int32))), (6, zi a6), (7, zi a7), (8, zi ((zI S (a0 + 4) a5.toNatClampNeg) &&& (15 : Int32))), (9, zi ((zI S (a0 + 4) a5.toNatClampNeg) >>> ((4 : Int32) &&& 31)))] rfl ?_
                  exact c_Tx_value_176 C hret ha0 ha3 ga3 (fun z0 z1 z2 zS zg zh => ih z0 z1 z2 zS zg zh)  (a5 + (1 : Int32)) a6 a7 ((zI S (a0 + 4) a5.toNatClampNeg) &&& (15 : Int32)) ((zI S (a0 + 4) a5.toNatClampNeg) >>> ((4 : Int32) &&& 31)) S ga0 h
                · refine z_icmp_lef C 176 c9 d_Tx_value_156 (by decide) ?_
                  refine z_iload C 2 rfl d_Tx_value_159 ?_
                  refine z_bipush C (13 : Int32) (by decide) d_Tx_value_161 ?_
                  rcases zite h with ⟨c10, h⟩ | ⟨c10, h⟩
                  · refine z_icmp_get C 176 c10 d_Tx_value_163 (by decide) ?_
                    refine zq_lsub [3, 4, 5, 0, 6, 7, 2, 1] [(0, zr (some a0)), (3, zr (some a3)), (4, zr (some 53)), (5, zi (a5 + (1 : Int32))), (6, zi a6), (7, zi a7), (8, zi ((zI S (a0 + 4) a5.toNatClampNeg) &&& (15 : Int32))), (9, zi ((zI S (a0 + 4) a5.toNatClampNeg) >>> ((4 : Int32) &&& 31)))] rfl ?_
                    exact c_Tx_value_176 C hret ha0 ha3 ga3 (fun z0 z1 z2 zS zg zh => ih z0 z1 z2 zS zg zh)  (a5 + (1 : Int32)) a6 a7 ((zI S (a0 + 4) a5.toNatClampNeg) &&& (15 : Int32)) ((zI S (a0 + 4) a5.toNatClampNeg) >>> ((4 : Int32) &&& 31)) S ga0 h
                  · refine z_icmp_gef C 176 c10 d_Tx_value_163 (by decide) ?_
                    refine z_iload C 6 rfl d_Tx_value_166 ?_
                    refine z_iconst C (2 : Int32) (by decide) d_Tx_value_168 ?_
                    rcases zite h with ⟨c11, h⟩ | ⟨c11, h⟩
                    · refine z_icmp_get C 176 c11 d_Tx_value_169 (by decide) ?_
                      refine zq_lsub [3, 4, 5, 0, 6, 7, 2, 1] [(0, zr (some a0)), (3, zr (some a3)), (4, zr (some 53)), (5, zi (a5 + (1 : Int32))), (6, zi a6), (7, zi a7), (8, zi ((zI S (a0 + 4) a5.toNatClampNeg) &&& (15 : Int32))), (9, zi ((zI S (a0 + 4) a5.toNatClampNeg) >>> ((4 : Int32) &&& 31)))] rfl ?_
                      exact c_Tx_value_176 C hret ha0 ha3 ga3 (fun z0 z1 z2 zS zg zh => ih z0 z1 z2 zS zg zh)  (a5 + (1 : Int32)) a6 a7 ((zI S (a0 + 4) a5.toNatClampNeg) &&& (15 : Int32)) ((zI S (a0 + 4) a5.toNatClampNeg) >>> ((4 : Int32) &&& 31)) S ga0 h
                    · refine z_icmp_gef C 176 c11 d_Tx_value_169 (by decide) ?_
                      refine z_ldc2 C zc_10_54 d_Tx_value_172 ?_
                      cases h
                      exact z_lret C hret ⟨Nat.zero_le _, Nat.zero_le _⟩ d_Tx_value_175
          · refine z_icmp_gtf C 139 c6 d_Tx_value_78 (by decide) ?_
            refine z_iload C 6 rfl d_Tx_value_81 ?_
            refine z_aload C 5 rfl d_Tx_value_83 ?_
            refine z_fact (fun hSR => ?_)
            refine z_alen51S C (50 : Int32) (by decide) zo_53 zk_53 (za_53 hSR) d_Tx_value_85 ?_
            rcases zite h with ⟨c12, h⟩ | ⟨c12, h⟩
            · refine z_icmp_get C 107 c12 d_Tx_value_86 (by decide) ?_
              refine z_ldc2 C zc_10_54 d_Tx_value_107 ?_
              cases h
              exact z_lret C hret ⟨Nat.zero_le _, Nat.zero_le _⟩ d_Tx_value_110
            · refine z_icmp_gef C 107 c12 d_Tx_value_86 (by decide) ?_
              refine z_iload C 2 rfl d_Tx_value_89 ?_
              refine z_iconst C (1 : Int32) (by decide) d_Tx_value_91 ?_
              rcases zite h with ⟨c13, h⟩ | ⟨c13, h⟩
              · refine z_icmp_nef C 111 c13 d_Tx_value_92 (by decide) ?_
                refine z_iload C 1 rfl d_Tx_value_95 ?_
                rcases zite h with ⟨c14, h⟩ | ⟨c14, h⟩
                · refine z_if_ltt C 107 c14 d_Tx_value_97 (by decide) ?_
                  refine z_ldc2 C zc_10_54 d_Tx_value_107 ?_
                  cases h
                  exact z_lret C hret ⟨Nat.zero_le _, Nat.zero_le _⟩ d_Tx_value_110
                · refine z_if_ltf C 107 c14 d_Tx_value_97 (by decide) ?_
                  refine z_iload C 1 rfl d_Tx_value_100 ?_
                  refine z_aload_n C 4 rfl d_Tx_value_102 rfl ?_
                  refine z_alen50 C (Or.inl ⟨rfl, ga3⟩) ha3 d_Tx_value_103 ?_
                  rcases zite h with ⟨c15, h⟩ | ⟨c15, h⟩
                  · refine z_icmp_ltt C 111 c15 d_Tx_value_104 (by decide) ?_
                    refine zq_lsub [3, 4, 5, 0, 6, 7, 2, 1] [(0, zr (some a0)), (3, zr (some a3)), (4, zr (some 53)), (5, zi (a5 + (1 : Int32))), (6, zi a6), (7, zi a7), (8, zi ((zI S (a0 + 4) a5.toNatClampNeg) &&& (15 : Int32))), (9, zi ((zI S (a0 + 4) a5.toNatClampNeg) >>> ((4 : Int32) &&& 31)))] rfl ?_
                    exact c_Tx_value_111 C hret ha0 ha3 ga3 (fun z0 z1 z2 zS zg zh => ih z0 z1 z2 zS zg zh)  (a5 + (1 : Int32)) a6 a7 ((zI S (a0 + 4) a5.toNatClampNeg) &&& (15 : Int32)) ((zI S (a0 + 4) a5.toNatClampNeg) >>> ((4 : Int32) &&& 31)) S ga0 h
                  · refine z_icmp_ltf C 111 c15 d_Tx_value_104 (by decide) ?_
                    refine z_ldc2 C zc_10_54 d_Tx_value_107 ?_
                    cases h
                    exact z_lret C hret ⟨Nat.zero_le _, Nat.zero_le _⟩ d_Tx_value_110
              · refine z_icmp_net C 111 c13 d_Tx_value_92 (by decide) ?_
                refine zq_lsub [3, 4, 5, 0, 6, 7, 2, 1] [(0, zr (some a0)), (3, zr (some a3)), (4, zr (some 53)), (5, zi (a5 + (1 : Int32))), (6, zi a6), (7, zi a7), (8, zi ((zI S (a0 + 4) a5.toNatClampNeg) &&& (15 : Int32))), (9, zi ((zI S (a0 + 4) a5.toNatClampNeg) >>> ((4 : Int32) &&& 31)))] rfl ?_
                exact c_Tx_value_111 C hret ha0 ha3 ga3 (fun z0 z1 z2 zS zg zh => ih z0 z1 z2 zS zg zh)  (a5 + (1 : Int32)) a6 a7 ((zI S (a0 + 4) a5.toNatClampNeg) &&& (15 : Int32)) ((zI S (a0 + 4) a5.toNatClampNeg) >>> ((4 : Int32) &&& 31)) S ga0 h
set_option maxRecDepth 100000 in
set_option maxHeartbeats 4000000 in
theorem m_Tx_value (l : Launch) {fu : Nat} {a0 : Nat} {a3 : Nat} {a1 : Int32} {a2 : Int32} {S : zSt} {r : Int64} {S1 : zSt} (ha0 : zK a0 = 10) (ha3 : zK a3 = 50) (ga3 : a3 < zN0) (ga0 : a0 < zN S) (h : f_Tx_value fu a0 a3 a1 a2 S = some (r, S1)) : zPM l y_Tx_value b_Tx_value 11 (some .long) rm_Tx_value true true [zr (some a0), zi a1, zi a2, zr (some a3), zr (some 53)] S (some (zl r)) S1 := by
  refine zPM_of (by decide) (Nat.le_of_ble_eq_true rfl) (fun p e s m args below meth c G C hret hname => ?_)
  unfold f_Tx_value at h
  refine (?_ : zJ p l e rm_Tx_value s m args below meth c G true 11 0 0 (zQm below G args s rm_Tx_value true (some (zl r)) S1) S 0 [(0, zr (some a0)), (1, zi a1), (2, zi a2), (3, zr (some a3)), (4, zr (some 53))] [])
  refine z_aload_n C 0 rfl d_Tx_value_0 rfl ?_
  refine z_iload_n C 1 rfl d_Tx_value_1 rfl ?_
  refine z_iload_n C 2 rfl d_Tx_value_2 rfl ?_
  obtain ⟨r2, h1, h⟩ := zb1_some h
  refine z_cV C 10 (by decide) (m_Tx_startOf l ha0 ga0 h1) mf_Tx_startOf lk_10_50 in_Tx_startOf se_Tx_startOf rfl (Or.inr ga0) ha0 ⟨rfl, rfl⟩ ⟨by decide, by decide⟩ ⟨Nat.zero_le _, Nat.zero_le _⟩ rfl _ [] rfl (Nat.le_of_ble_eq_true rfl) d_Tx_value_3 ?_
  refine z_istore C [(5, zi r2), (0, zr (some a0)), (1, zi a1), (2, zi a2), (3, zr (some a3)), (4, zr (some 53))] d_Tx_value_6 (by decide) rfl ?_
  refine z_iload C 0 rfl d_Tx_value_8 ?_
  rcases zite h with ⟨c3, h⟩ | ⟨c3, h⟩
  · refine z_if_get C 15 c3 d_Tx_value_10 (by decide) ?_
    refine z_iconst C (0 : Int32) (by decide) d_Tx_value_15 ?_
    refine z_istore C [(6, zi (0 : Int32)), (5, zi r2), (0, zr (some a0)), (1, zi a1), (2, zi a2), (3, zr (some a3)), (4, zr (some 53))] d_Tx_value_16 (by decide) rfl ?_
    refine z_iconst C (0 : Int32) (by decide) d_Tx_value_18 ?_
    refine z_istore C [(7, zi (0 : Int32)), (6, zi (0 : Int32)), (5, zi r2), (0, zr (some a0)), (1, zi a1), (2, zi a2), (3, zr (some a3)), (4, zr (some 53))] d_Tx_value_19 (by decide) rfl ?_
    refine zq_lsub [3, 6, 7, 2, 1, 0] [(0, zr (some a0)), (3, zr (some a3)), (4, zr (some 53)), (5, zi r2), (6, zi (0 : Int32)), (7, zi (0 : Int32))] rfl ?_
    exact c_Tx_value_21 C hret ha0 ha3 ga3 fu  r2 (0 : Int32) (0 : Int32) S ga0 h
  · refine z_if_gef C 15 c3 d_Tx_value_10 (by decide) ?_
    refine z_lconst C (1 : Int64) (by decide) d_Tx_value_13 ?_
    cases h
    exact z_lret C hret ⟨Nat.zero_le _, Nat.zero_le _⟩ d_Tx_value_14
def f_As_nearest_22 (a1 : Int64) (a3 : Int32) (k0 : Int32) : Option Int32 := if 0 ≤ (lg_cmp a1 a3.toInt64) then if (lg_cmp a1 k0.toInt64) ≤ 0 then some a1.toInt32 else some k0 else some a3
def f_As_nearest (a0 : Int32) (a1 : Int64) : Option Int32 := if a0 = 0 then if a0 = (2 : Int32) then f_As_nearest_22 a1 (1 : Int32) (9 : Int32) else f_As_nearest_22 a1 (1 : Int32) (99 : Int32) else if a0 = (2 : Int32) then f_As_nearest_22 a1 (0 : Int32) (9 : Int32) else f_As_nearest_22 a1 (0 : Int32) (99 : Int32)
set_option maxRecDepth 100000 in
set_option maxHeartbeats 4000000 in
theorem c_As_nearest_22 {p : Program} {l : Launch} {e : Env} {s : State} {m : MethodId} {args : Array Value} {below : List Frame} {meth : Method} {c : Code} {G : zG} (C : zC p s m args meth c G b_As_nearest 5 y_As_nearest.cls) (hret : meth.sig.returnType = (some .int)) {r : Int32} : ∀ (a1 : Int64) (a3 : Int32) (k0 : Int32) (S : zSt) , f_As_nearest_22 a1 a3 k0 = some r → zJ p l e rm_As_nearest s m args below meth c G true 5 0 0 (zQm below G args s rm_As_nearest true (some (zi r)) S) S 22 [(1, zl a1), (3, zi a3)] [zi k0] := by
  intro a1 a3 k0 S h
  unfold f_As_nearest_22 at h
  refine z_istore C [(4, zi k0), (1, zl a1), (3, zi a3)] d_As_nearest_22 (by decide) rfl ?_
  refine z_lload_n C 1 rfl d_As_nearest_24 rfl ?_
  refine z_iload_n C 2 rfl d_As_nearest_25 rfl ?_
  refine z_i2l C d_As_nearest_26 ?_
  refine z_lcmp C d_As_nearest_27 ?_
  rcases zite h with ⟨c1, h⟩ | ⟨c1, h⟩
  · refine z_if_get C 33 c1 d_As_nearest_28 (by decide) ?_
    refine z_lload_n C 1 rfl d_As_nearest_33 rfl ?_
    refine z_iload C 0 rfl d_As_nearest_34 ?_
    refine z_i2l C d_As_nearest_36 ?_
    refine z_lcmp C d_As_nearest_37 ?_
    rcases zite h with ⟨c2, h⟩ | ⟨c2, h⟩
    · refine z_if_let C 46 c2 d_As_nearest_38 (by decide) ?_
      refine z_lload_n C 1 rfl d_As_nearest_46 rfl ?_
      refine z_l2i C d_As_nearest_47 ?_
      cases h
      exact z_iret C .int hret rfl ⟨Nat.zero_le _, Nat.zero_le _⟩ d_As_nearest_48
    · refine z_if_lef C 46 c2 d_As_nearest_38 (by decide) ?_
      refine z_iload C 0 rfl d_As_nearest_41 ?_
      refine z_goto C 48 d_As_nearest_43 (by decide) ?_
      cases h
      exact z_iret C .int hret rfl ⟨Nat.zero_le _, Nat.zero_le _⟩ d_As_nearest_48
  · refine z_if_gef C 33 c1 d_As_nearest_28 (by decide) ?_
    refine z_iload_n C 2 rfl d_As_nearest_31 rfl ?_
    cases h
    exact z_iret C .int hret rfl ⟨Nat.zero_le _, Nat.zero_le _⟩ d_As_nearest_32
set_option maxRecDepth 100000 in
set_option maxHeartbeats 4000000 in
theorem m_As_nearest (l : Launch) {a0 : Int32} {a1 : Int64} {S : zSt} {r : Int32} (h : f_As_nearest a0 a1 = some r) : zPM l y_As_nearest b_As_nearest 5 (some .int) rm_As_nearest true true [zi a0, zl a1] S (some (zi r)) S := by
  refine zPM_of (by decide) (Nat.le_of_ble_eq_true rfl) (fun p e s m args below meth c G C hret hname => ?_)
  unfold f_As_nearest at h
  refine (?_ : zJ p l e rm_As_nearest s m args below meth c G true 5 0 0 (zQm below G args s rm_As_nearest true (some (zi r)) S) S 0 [(0, zi a0), (1, zl a1)] [])
  refine z_iload_n C 0 rfl d_As_nearest_0 rfl ?_
  rcases zite h with ⟨c1, h⟩ | ⟨c1, h⟩
  · refine z_if_nef C 8 c1 d_As_nearest_1 (by decide) ?_
    refine z_iconst C (1 : Int32) (by decide) d_As_nearest_4 ?_
    refine z_goto C 9 d_As_nearest_5 (by decide) ?_
    refine z_istore_n C [(3, zi (1 : Int32)), (0, zi a0), (1, zl a1)] d_As_nearest_9 rfl (by decide) rfl ?_
    refine z_iload_n C 1 rfl d_As_nearest_10 rfl ?_
    refine z_iconst C (2 : Int32) (by decide) d_As_nearest_11 ?_
    rcases zite h with ⟨c3, h⟩ | ⟨c3, h⟩
    · refine z_icmp_nef C 20 c3 d_As_nearest_12 (by decide) ?_
      refine z_bipush C (9 : Int32) (by decide) d_As_nearest_15 ?_
      refine z_goto C 22 d_As_nearest_17 (by decide) ?_
      refine zq_lsub [2, 0] [(1, zl a1), (3, zi (1 : Int32))] rfl ?_
      exact c_As_nearest_22 C hret  a1 (1 : Int32) (9 : Int32) S h
    · refine z_icmp_net C 20 c3 d_As_nearest_12 (by decide) ?_
      refine z_bipush C (99 : Int32) (by decide) d_As_nearest_20 ?_
      refine zq_lsub [2, 0] [(1, zl a1), (3, zi (1 : Int32))] rfl ?_
      exact c_As_nearest_22 C hret  a1 (1 : Int32) (99 : Int32) S h
  · refine z_if_net C 8 c1 d_As_nearest_1 (by decide) ?_
    refine z_iconst C (0 : Int32) (by decide) d_As_nearest_8 ?_
    refine z_istore_n C [(3, zi (0 : Int32)), (0, zi a0), (1, zl a1)] d_As_nearest_9 rfl (by decide) rfl ?_
    refine z_iload_n C 1 rfl d_As_nearest_10 rfl ?_
    refine z_iconst C (2 : Int32) (by decide) d_As_nearest_11 ?_
    rcases zite h with ⟨c2, h⟩ | ⟨c2, h⟩
    · refine z_icmp_nef C 20 c2 d_As_nearest_12 (by decide) ?_
      refine z_bipush C (9 : Int32) (by decide) d_As_nearest_15 ?_
      refine z_goto C 22 d_As_nearest_17 (by decide) ?_
      refine zq_lsub [2, 0] [(1, zl a1), (3, zi (0 : Int32))] rfl ?_
      exact c_As_nearest_22 C hret  a1 (0 : Int32) (9 : Int32) S h
    · refine z_icmp_net C 20 c2 d_As_nearest_12 (by decide) ?_
      refine z_bipush C (99 : Int32) (by decide) d_As_nearest_20 ?_
      refine zq_lsub [2, 0] [(1, zl a1), (3, zi (0 : Int32))] rfl ?_
      exact c_As_nearest_22 C hret  a1 (0 : Int32) (99 : Int32) S h
def f_As_without (a1 : Int32) (S : zSt) : Option Int32 := if a1 = (0 : Int32) then some (zI S 54 (2 : Int32).toNatClampNeg) else if a1 = (1 : Int32) then some (1 : Int32) else if a1 = (2 : Int32) then some (zI S 54 (4 : Int32).toNatClampNeg) else some (0 : Int32)
set_option maxRecDepth 100000 in
set_option maxHeartbeats 4000000 in
theorem m_As_without (l : Launch) {a1 : Int32} {S : zSt} {r : Int32} (h : f_As_without a1 S = some r) : zPM l y_As_without b_As_without 2 (some .int) rm_As_without true true [zr (some 52), zi a1] S (some (zi r)) S := by
  refine zPM_of (by decide) (Nat.le_of_ble_eq_true rfl) (fun p e s m args below meth c G C hret hname => ?_)
  unfold f_As_without at h
  refine (?_ : zJ p l e rm_As_without s m args below meth c G true 2 0 0 (zQm below G args s rm_As_without true (some (zi r)) S) S 0 [(0, zr (some 52)), (1, zi a1)] [])
  refine z_iload_n C 1 rfl d_As_without_0 rfl ?_
  rcases zite h with ⟨c1, h⟩ | ⟨c1, h⟩
  · refine z_tab C (0 : Int32) 27 28 c1 (by decide) (by decide) (by decide) (by decide) d_As_without_1 ?_
    refine z_aload_n C 0 rfl d_As_without_28 rfl ?_
    refine z_getF2 C 1 (by decide) 1 (by decide) rfl 2 7 rfl (54) rfl zp_52 zk_52 zfl_1_15 d_As_without_29 ?_
    refine z_iconst C (2 : Int32) (by decide) d_As_without_32 ?_
    refine z_fact (fun hSR => ?_)
    refine z_ialoadS C zo_54 zk_54 (za_54 hSR) (by decide) d_As_without_33 ?_
    cases h
    exact z_iret C .int hret rfl ⟨Nat.zero_le _, Nat.zero_le _⟩ d_As_without_34
  · rcases zite h with ⟨c2, h⟩ | ⟨c2, h⟩
    · refine z_tab C (1 : Int32) 34 35 c2 (by decide) (by decide) (by decide) (by decide) d_As_without_1 ?_
      refine z_iconst C (1 : Int32) (by decide) d_As_without_35 ?_
      cases h
      exact z_iret C .int hret rfl ⟨Nat.zero_le _, Nat.zero_le _⟩ d_As_without_36
    · rcases zite h with ⟨c3, h⟩ | ⟨c3, h⟩
      · refine z_tab C (2 : Int32) 36 37 c3 (by decide) (by decide) (by decide) (by decide) d_As_without_1 ?_
        refine z_aload_n C 0 rfl d_As_without_37 rfl ?_
        refine z_getF2 C 1 (by decide) 1 (by decide) rfl 2 7 rfl (54) rfl zp_52 zk_52 zfl_1_15 d_As_without_38 ?_
        refine z_iconst C (4 : Int32) (by decide) d_As_without_41 ?_
        refine z_fact (fun hSR => ?_)
        refine z_ialoadS C zo_54 zk_54 (za_54 hSR) (by decide) d_As_without_42 ?_
        cases h
        exact z_iret C .int hret rfl ⟨Nat.zero_le _, Nat.zero_le _⟩ d_As_without_43
      · refine z_tabO C (0) 3 (by decide) (fun j hj => by match j, hj with | 0, _ => exact c1 | 1, _ => exact c2 | 2, _ => exact c3 | j + 3, hj => omega) 44 (by decide) d_As_without_1 ?_
        refine z_iconst C (0 : Int32) (by decide) d_As_without_44 ?_
        cases h
        exact z_iret C .int hret rfl ⟨Nat.zero_le _, Nat.zero_le _⟩ d_As_without_45
def f_As_told_50 (fu : Nat) (a1 : Nat) : Nat → Option Nat → Int32 → Int32 → zSt → Option (Int32 × zSt)
  | 0, _, _, _, _ => none
  | n + 1, a2, a3, a7, S => if a7 < 0 then zb1 (f_As_without a3 S) (fun r3 => some (r3, S)) else zop a2 (zb1 (f_As_without a3 S) (fun r6 => some (r6, S))) (fun q4 => zgd (zK q4 = 10 ∧ q4 < zN S) (zb1 (f_Tx_kindOf q4 a7 S) (fun r9 => if r9 = a3 then zgd (zK q4 = 10 ∧ q4 < zN S) (zb2 (f_Tx_value fu q4 54 a7 (2 : Int32) S) (fun r13 S14 => if (lg_cmp r13 (1 : Int64)) = 0 then zgd (zK q4 = 10 ∧ q4 < zN S14) (zb2 (f_Tx_value fu q4 54 a7 (0 : Int32) S14) (fun r18 S19 => if (lg_cmp r18 (-9000000000000000000 : Int64)) = 0 then f_As_told_50 fu a1 n (some q4) a3 (a7 + (-1 : Int32)) S19 else zb1 (f_As_nearest a3 r18) (fun r22 => some (r22, S19)))) else f_As_told_50 fu a1 n (some q4) a3 (a7 + (-1 : Int32)) S14)) else f_As_told_50 fu a1 n (some q4) a3 (a7 + (-1 : Int32)) S)))
def f_As_told_30 (fu : Nat) (a1 : Nat) (a2 : Option Nat) (a3 : Int32) (S : zSt) : Option (Int32 × zSt) := zop a2 (f_As_told_50 fu a1 fu none a3 ((0 : Int32) - (1 : Int32)) S) (fun q1 => zgd (zK q1 = 10 ∧ q1 < zN S) (f_As_told_50 fu a1 fu (some q1) a3 ((zI S q1 2) - (1 : Int32)) S))
def f_As_told (fu : Nat) (a1 : Nat) (a2 : Option Nat) (a3 : Int32) (a4 : Int32) (a5 : Int32) (S : zSt) : Option (Int32 × zSt) := if a3 = (2 : Int32) then zb1 (f_Ps_tellSpring a1 54 a4 S) (fun S5 => f_As_told_30 fu a1 a2 a3 S5) else zb1 (f_Ps_tellChannel a1 54 a4 a5 S) (fun S3 => f_As_told_30 fu a1 a2 a3 S3)
set_option maxRecDepth 100000 in
set_option maxHeartbeats 4000000 in
theorem c_As_told_50 {p : Program} {l : Launch} {e : Env} {s : State} {m : MethodId} {args : Array Value} {below : List Frame} {meth : Method} {c : Code} {G : zG} (C : zC p s m args meth c G b_As_told 10 y_As_told.cls) (hret : meth.sig.returnType = (some .int)) {fu : Nat} {a1 : Nat} {r : Int32} {S1 : zSt} (ha1 : zK a1 = 5) (ga1 : a1 < zN0) : ∀ (n : Nat) (a2 : Option Nat) (a3 : Int32) (a7 : Int32) (S : zSt) , f_As_told_50 fu a1 n a2 a3 a7 S = some (r, S1) → zJ p l e rm_As_told s m args below meth c G true 10 0 0 (zQm below G args s rm_As_told true (some (zi r)) S1) S 50 [(0, zr (some 52)), (2, zr a2), (3, zi a3), (7, zi a7)] [] := by
  intro n
  induction n with
  | zero =>
    intro a2 a3 a7 S h
    cases h
  | succ n ih =>
    intro a2 a3 a7 S h
    rw [f_As_told_50] at h
    refine z_iload C 3 rfl d_As_told_50 ?_
    rcases zite h with ⟨c1, h⟩ | ⟨c1, h⟩
    · refine z_if_ltt C 128 c1 d_As_told_52 (by decide) ?_
      refine z_aload_n C 0 rfl d_As_told_128 rfl ?_
      refine z_iload_n C 2 rfl d_As_told_129 rfl ?_
      obtain ⟨r3, h2, h⟩ := zb1_some h
      refine z_cV C 1 (by decide) (m_As_without l h2) mf_As_without lk_1_49 in_As_without se_As_without rfl zo_52 zk_52 ⟨rfl, rfl⟩ ⟨by decide, by decide⟩ ⟨Nat.zero_le _, Nat.zero_le _⟩ rfl _ [] rfl (Nat.le_of_ble_eq_true rfl) d_As_told_130 ?_
      cases h
      exact z_iret C .int hret rfl ⟨Nat.zero_le _, Nat.zero_le _⟩ d_As_told_133
    · refine z_if_ltf C 128 c1 d_As_told_52 (by decide) ?_
      refine z_aload_n C 1 rfl d_As_told_55 rfl ?_
      rcases zop_some h with ⟨rfl, h⟩ | ⟨q4, rfl, h⟩
      · refine z_ifnull_t C 128 d_As_told_56 (by decide) ?_
        refine z_aload_n C 0 rfl d_As_told_128 rfl ?_
        refine z_iload_n C 2 rfl d_As_told_129 rfl ?_
        obtain ⟨r6, h5, h⟩ := zb1_some h
        refine z_cV C 1 (by decide) (m_As_without l h5) mf_As_without lk_1_49 in_As_without se_As_without rfl zo_52 zk_52 ⟨rfl, rfl⟩ ⟨by decide, by decide⟩ ⟨Nat.zero_le _, Nat.zero_le _⟩ rfl _ [] rfl (Nat.le_of_ble_eq_true rfl) d_As_told_130 ?_
        cases h
        exact z_iret C .int hret rfl ⟨Nat.zero_le _, Nat.zero_le _⟩ d_As_told_133
      · refine z_ifnull_f C d_As_told_56 ?_
        refine z_aload_n C 1 rfl d_As_told_59 rfl ?_
        refine z_iload C 3 rfl d_As_told_60 ?_
        obtain ⟨g7, h⟩ := zgd_some h
        obtain ⟨r9, h8, h⟩ := zb1_some h
        refine z_cV C 10 (by decide) (m_Tx_kindOf l g7.1 g7.2 h8) mf_Tx_kindOf lk_1_35 in_Tx_kindOf se_Tx_kindOf rfl (Or.inr g7.2) g7.1 ⟨rfl, rfl⟩ ⟨by decide, by decide⟩ ⟨Nat.zero_le _, Nat.zero_le _⟩ rfl _ [] rfl (Nat.le_of_ble_eq_true rfl) d_As_told_62 ?_
        refine z_iload_n C 2 rfl d_As_told_65 rfl ?_
        rcases zite h with ⟨c10, h⟩ | ⟨c10, h⟩
        · refine z_icmp_nef C 122 c10 d_As_told_66 (by decide) ?_
          refine z_aload_n C 1 rfl d_As_told_69 rfl ?_
          refine z_iload C 3 rfl d_As_told_70 ?_
          refine z_iconst C (2 : Int32) (by decide) d_As_told_72 ?_
          refine z_aload_n C 0 rfl d_As_told_73 rfl ?_
          refine z_getF2 C 1 (by decide) 1 (by decide) rfl 2 7 rfl (54) rfl zp_52 zk_52 zfl_1_15 d_As_told_74 ?_
          refine z_aload_n C 0 rfl d_As_told_77 rfl ?_
          refine z_getF2 C 1 (by decide) 0 (by decide) rfl 1 50 rfl (53) rfl zp_52 zk_52 zfl_1_9 d_As_told_78 ?_
          obtain ⟨g11, h⟩ := zgd_some h
          obtain ⟨r13, S14, h12, h⟩ := zb2_some h
          refine z_cV C 10 (by decide) (m_Tx_value l g11.1 zk_54 (Nat.le_of_ble_eq_true rfl) g11.2 h12) mf_Tx_value lk_1_39 in_Tx_value se_Tx_value rfl (Or.inr g11.2) g11.1 ⟨rfl, rfl⟩ ⟨by decide, by decide⟩ ⟨Nat.zero_le _, Nat.zero_le _⟩ rfl _ [] rfl (Nat.le_of_ble_eq_true rfl) d_As_told_81 ?_
          refine z_lconst C (1 : Int64) (by decide) d_As_told_84 ?_
          refine z_lcmp C d_As_told_85 ?_
          rcases zite h with ⟨c15, h⟩ | ⟨c15, h⟩
          · refine z_if_nef C 122 c15 d_As_told_86 (by decide) ?_
            refine z_aload_n C 1 rfl d_As_told_89 rfl ?_
            refine z_iload C 3 rfl d_As_told_90 ?_
            refine z_iconst C (0 : Int32) (by decide) d_As_told_92 ?_
            refine z_aload_n C 0 rfl d_As_told_93 rfl ?_
            refine z_getF2 C 1 (by decide) 1 (by decide) rfl 2 7 rfl (54) rfl zp_52 zk_52 zfl_1_15 d_As_told_94 ?_
            refine z_aload_n C 0 rfl d_As_told_97 rfl ?_
            refine z_getF2 C 1 (by decide) 0 (by decide) rfl 1 50 rfl (53) rfl zp_52 zk_52 zfl_1_9 d_As_told_98 ?_
            obtain ⟨g16, h⟩ := zgd_some h
            obtain ⟨r18, S19, h17, h⟩ := zb2_some h
            refine z_cV C 10 (by decide) (m_Tx_value l g16.1 zk_54 (Nat.le_of_ble_eq_true rfl) g16.2 h17) mf_Tx_value lk_1_39 in_Tx_value se_Tx_value rfl (Or.inr g16.2) g16.1 ⟨rfl, rfl⟩ ⟨by decide, by decide⟩ ⟨Nat.zero_le _, Nat.zero_le _⟩ rfl _ [] rfl (Nat.le_of_ble_eq_true rfl) d_As_told_101 ?_
            refine z_lstore C [(8, zl r18), (0, zr (some 52)), (2, zr (some q4)), (3, zi a3), (7, zi a7)] d_As_told_104 (by decide) rfl ?_
            refine z_lload C 0 rfl d_As_told_106 ?_
            refine z_ldc2 C zc_1_43 d_As_told_108 ?_
            refine z_lcmp C d_As_told_111 ?_
            rcases zite h with ⟨c20, h⟩ | ⟨c20, h⟩
            · refine z_if_eqt C 122 c20 d_As_told_112 (by decide) ?_
              refine z_iinc C 4 (a7 + (-1 : Int32)) [(7, zi (a7 + (-1 : Int32))), (8, zl r18), (0, zr (some 52)), (2, zr (some q4)), (3, zi a3)] rfl d_As_told_122 (by first | rfl | decide) (by decide) rfl ?_
              refine z_goto C 50 d_As_told_125 (by decide) ?_
              refine zq_lsub [2, 3, 4, 0] [(0, zr (some 52)), (2, zr (some q4)), (3, zi a3), (7, zi (a7 + (-1 : Int32)))] rfl ?_
              exact ih (some q4) a3 (a7 + (-1 : Int32)) S19 h
            · refine z_if_eqf C 122 c20 d_As_told_112 (by decide) ?_
              refine z_iload_n C 3 rfl d_As_told_115 rfl ?_
              refine z_lload C 0 rfl d_As_told_116 ?_
              obtain ⟨r22, h21, h⟩ := zb1_some h
              refine z_cS C (m_As_nearest l h21) mf_As_nearest lk_1_45 st_As_nearest ⟨rfl, rfl⟩ ⟨by decide, by decide⟩ ⟨Nat.zero_le _, Nat.zero_le _⟩ rfl _ [] rfl (Nat.le_of_ble_eq_true rfl) d_As_told_118 ?_
              cases h
              exact z_iret C .int hret rfl ⟨Nat.zero_le _, Nat.zero_le _⟩ d_As_told_121
          · refine z_if_net C 122 c15 d_As_told_86 (by decide) ?_
            refine z_iinc C 3 (a7 + (-1 : Int32)) [(7, zi (a7 + (-1 : Int32))), (0, zr (some 52)), (2, zr (some q4)), (3, zi a3)] rfl d_As_told_122 (by first | rfl | decide) (by decide) rfl ?_
            refine z_goto C 50 d_As_told_125 (by decide) ?_
            refine zq_lsub [1, 2, 3, 0] [(0, zr (some 52)), (2, zr (some q4)), (3, zi a3), (7, zi (a7 + (-1 : Int32)))] rfl ?_
            exact ih (some q4) a3 (a7 + (-1 : Int32)) S14 h
        · refine z_icmp_net C 122 c10 d_As_told_66 (by decide) ?_
          refine z_iinc C 3 (a7 + (-1 : Int32)) [(7, zi (a7 + (-1 : Int32))), (0, zr (some 52)), (2, zr (some q4)), (3, zi a3)] rfl d_As_told_122 (by first | rfl | decide) (by decide) rfl ?_
          refine z_goto C 50 d_As_told_125 (by decide) ?_
          refine zq_lsub [1, 2, 3, 0] [(0, zr (some 52)), (2, zr (some q4)), (3, zi a3), (7, zi (a7 + (-1 : Int32)))] rfl ?_
          exact ih (some q4) a3 (a7 + (-1 : Int32)) S h
set_option maxRecDepth 100000 in
set_option maxHeartbeats 4000000 in
theorem c_As_told_30 {p : Program} {l : Launch} {e : Env} {s : State} {m : MethodId} {args : Array Value} {below : List Frame} {meth : Method} {c : Code} {G : zG} (C : zC p s m args meth c G b_As_told 10 y_As_told.cls) (hret : meth.sig.returnType = (some .int)) {fu : Nat} {a1 : Nat} {r : Int32} {S1 : zSt} (ha1 : zK a1 = 5) (ga1 : a1 < zN0) : ∀ (a2 : Option Nat) (a3 : Int32) (S : zSt) , f_As_told_30 fu a1 a2 a3 S = some (r, S1) → zJ p l e rm_As_told s m args below meth c G true 10 0 0 (zQm below G args s rm_As_told true (some (zi r)) S1) S 30 [(0, zr (some 52)), (2, zr a2), (3, zi a3)] [] := by
  intro a2 a3 S h
  unfold f_As_told_30 at h
  refine z_aload_n C 1 rfl d_As_told_30 rfl ?_
  rcases zop_some h with ⟨rfl, h⟩ | ⟨q1, rfl, h⟩
  · refine z_ifnonnull_f C d_As_told_31 ?_
    refine z_iconst C (0 : Int32) (by decide) d_As_told_34 ?_
    refine z_goto C 42 d_As_told_35 (by decide) ?_
    refine z_istore C [(6, zi (0 : Int32)), (0, zr (some 52)), (2, zr none), (3, zi a3)] d_As_told_42 (by decide) rfl ?_
    refine z_iload C 0 rfl d_As_told_44 ?_
    refine z_iconst C (1 : Int32) (by decide) d_As_told_46 ?_
    refine z_isub C d_As_told_47 ?_
    refine z_istore C [(7, zi ((0 : Int32) - (1 : Int32))), (6, zi (0 : Int32)), (0, zr (some 52)), (2, zr none), (3, zi a3)] d_As_told_48 (by decide) rfl ?_
    refine zq_lsub [2, 3, 4, 0] [(0, zr (some 52)), (2, zr none), (3, zi a3), (7, zi ((0 : Int32) - (1 : Int32)))] rfl ?_
    exact c_As_told_50 C hret ha1 ga1 fu  none a3 ((0 : Int32) - (1 : Int32)) S h
  · refine z_ifnonnull_t C 38 d_As_told_31 (by decide) ?_
    refine z_aload_n C 1 rfl d_As_told_38 rfl ?_
    obtain ⟨g2, h⟩ := zgd_some h
    refine z_getI C 10 (by decide) 2 (by decide) rfl (Or.inr g2.2) g2.1 zfl_1_29 d_As_told_39 ?_
    refine z_istore C [(6, zi (zI S q1 2)), (0, zr (some 52)), (2, zr (some q1)), (3, zi a3)] d_As_told_42 (by decide) rfl ?_
    refine z_iload C 0 rfl d_As_told_44 ?_
    refine z_iconst C (1 : Int32) (by decide) d_As_told_46 ?_
    refine z_isub C d_As_told_47 ?_
    refine z_istore C [(7, zi ((zI S q1 2) - (1 : Int32))), (6, zi (zI S q1 2)), (0, zr (some 52)), (2, zr (some q1)), (3, zi a3)] d_As_told_48 (by decide) rfl ?_
    refine zq_lsub [2, 3, 4, 0] [(0, zr (some 52)), (2, zr (some q1)), (3, zi a3), (7, zi ((zI S q1 2) - (1 : Int32)))] rfl ?_
    exact c_As_told_50 C hret ha1 ga1 fu  (some q1) a3 ((zI S q1 2) - (1 : Int32)) S h
set_option maxRecDepth 100000 in
set_option maxHeartbeats 4000000 in
theorem m_As_told (l : Launch) {fu : Nat} {a1 : Nat} {a2 : Option Nat} {a3 : Int32} {a4 : Int32} {a5 : Int32} {S : zSt} {r : Int32} {S1 : zSt} (ha1 : zK a1 = 5) (ga1 : a1 < zN0) (h : f_As_told fu a1 a2 a3 a4 a5 S = some (r, S1)) : zPM l y_As_told b_As_told 10 (some .int) rm_As_told true true [zr (some 52), zr (some a1), zr a2, zi a3, zi a4, zi a5] S (some (zi r)) S1 := by
  refine zPM_of (by decide) (Nat.le_of_ble_eq_true rfl) (fun p e s m args below meth c G C hret hname => ?_)
  unfold f_As_told at h
  refine (?_ : zJ p l e rm_As_told s m args below meth c G true 10 0 0 (zQm below G args s rm_As_told true (some (zi r)) S1) S 0 [(0, zr (some 52)), (1, zr (some a1)), (2, zr a2), (3, zi a3), (4, zi a4), (5, zi a5)] [])
  refine z_iload_n C 3 rfl d_As_told_0 rfl ?_
  refine z_iconst C (2 : Int32) (by decide) d_As_told_1 ?_
  rcases zite h with ⟨c1, h⟩ | ⟨c1, h⟩
  · refine z_icmp_nef C 18 c1 d_As_told_2 (by decide) ?_
    refine z_aload_n C 1 rfl d_As_told_5 rfl ?_
    refine z_iload C 4 rfl d_As_told_6 ?_
    refine z_aload_n C 0 rfl d_As_told_8 rfl ?_
    refine z_getF2 C 1 (by decide) 1 (by decide) rfl 2 7 rfl (54) rfl zp_52 zk_52 zfl_1_15 d_As_told_9 ?_
    obtain ⟨S5, h4, h⟩ := zb1_some h
    refine z_cV C 5 (by decide) (m_Ps_tellSpring l ha1 ga1 zk_54 (Nat.le_of_ble_eq_true rfl) h4) mf_Ps_tellSpring lk_1_19 in_Ps_tellSpring se_Ps_tellSpring rfl (Or.inl ⟨rfl, ga1⟩) ha1 ⟨rfl, rfl⟩ ⟨by decide, by decide⟩ ⟨Nat.zero_le _, Nat.zero_le _⟩ rfl _ [] rfl (Nat.le_of_ble_eq_true rfl) d_As_told_12 ?_
    refine z_goto C 30 d_As_told_15 (by decide) ?_
    refine zq_lsub [0, 2, 3] [(0, zr (some 52)), (2, zr a2), (3, zi a3)] rfl ?_
    exact c_As_told_30 C hret ha1 ga1  a2 a3 S5 h
  · refine z_icmp_net C 18 c1 d_As_told_2 (by decide) ?_
    refine z_aload_n C 1 rfl d_As_told_18 rfl ?_
    refine z_iload C 4 rfl d_As_told_19 ?_
    refine z_iload C 5 rfl d_As_told_21 ?_
    refine z_aload_n C 0 rfl d_As_told_23 rfl ?_
    refine z_getF2 C 1 (by decide) 1 (by decide) rfl 2 7 rfl (54) rfl zp_52 zk_52 zfl_1_15 d_As_told_24 ?_
    obtain ⟨S3, h2, h⟩ := zb1_some h
    refine z_cV C 5 (by decide) (m_Ps_tellChannel l ha1 ga1 zk_54 (Nat.le_of_ble_eq_true rfl) h2) mf_Ps_tellChannel lk_1_25 in_Ps_tellChannel se_Ps_tellChannel rfl (Or.inl ⟨rfl, ga1⟩) ha1 ⟨rfl, rfl⟩ ⟨by decide, by decide⟩ ⟨Nat.zero_le _, Nat.zero_le _⟩ rfl _ [] rfl (Nat.le_of_ble_eq_true rfl) d_As_told_27 ?_
    refine zq_lsub [0, 2, 3] [(0, zr (some 52)), (2, zr a2), (3, zi a3)] rfl ?_
    exact c_As_told_30 C hret ha1 ga1  a2 a3 S3 h
def f_E_of (fu : Nat) (a1 : Int32) (a2 : Int32) (S : zSt) : Option (Int32 × zSt) := zb1 (f_Ps_has 1 a1 S) (fun r2 => if r2 = 0 then some ((-1 : Int32), S) else if a2 = (0 : Int32) then zb1 (f_Ps_levelOf 1 a1 S) (fun r6 => some (r6, S)) else if a2 = (1 : Int32) then zb1 (f_Ps_mudOf 1 a1 S) (fun r9 => some (r9, S)) else if a2 = (2 : Int32) then zb1 (f_Ps_lawInForce 1 S) (fun r12 => zb2 (f_As_told fu 1 r12 (2 : Int32) a1 (-1 : Int32) S) (fun r14 S15 => some (r14, S15))) else some ((-1 : Int32), S))
set_option maxRecDepth 100000 in
set_option maxHeartbeats 4000000 in
theorem m_E_of (l : Launch) {fu : Nat} {a1 : Int32} {a2 : Int32} {S : zSt} {r : Int32} {S1 : zSt} (h : f_E_of fu a1 a2 S = some (r, S1)) : zPM l y_E_of b_E_of 3 (some .int) rm_E_of true true [zr (some 0), zi a1, zi a2] S (some (zi r)) S1 := by
  refine zPM_of (by decide) (Nat.le_of_ble_eq_true rfl) (fun p e s m args below meth c G C hret hname => ?_)
  unfold f_E_of at h
  refine (?_ : zJ p l e rm_E_of s m args below meth c G true 3 0 0 (zQm below G args s rm_E_of true (some (zi r)) S1) S 0 [(0, zr (some 0)), (1, zi a1), (2, zi a2)] [])
  refine z_aload_n C 0 rfl d_E_of_0 rfl ?_
  refine z_getF2 C 0 (by decide) 0 (by decide) rfl 1 0 rfl (1) rfl zp_0 zk_0 zfl_0_12 d_E_of_1 ?_
  refine z_iload_n C 1 rfl d_E_of_4 rfl ?_
  obtain ⟨r2, h1, h⟩ := zb1_some h
  refine z_cV C 5 (by decide) (m_Ps_has l zk_1 (Nat.le_of_ble_eq_true rfl) h1) mf_Ps_has lk_0_126 in_Ps_has se_Ps_has rfl zo_1 zk_1 ⟨rfl, rfl⟩ ⟨by decide, by decide⟩ ⟨Nat.zero_le _, Nat.zero_le _⟩ rfl _ [] rfl (Nat.le_of_ble_eq_true rfl) d_E_of_5 ?_
  rcases zite h with ⟨c3, h⟩ | ⟨c3, h⟩
  · refine z_if_nef C 13 c3 d_E_of_8 (by decide) ?_
    refine z_iconst C (-1 : Int32) (by decide) d_E_of_11 ?_
    cases h
    exact z_iret C .int hret rfl ⟨Nat.zero_le _, Nat.zero_le _⟩ d_E_of_12
  · refine z_if_net C 13 c3 d_E_of_8 (by decide) ?_
    refine z_iload_n C 2 rfl d_E_of_13 rfl ?_
    rcases zite h with ⟨c4, h⟩ | ⟨c4, h⟩
    · refine z_tab C (0 : Int32) 26 40 c4 (by decide) (by decide) (by decide) (by decide) d_E_of_14 ?_
      refine z_aload_n C 0 rfl d_E_of_40 rfl ?_
      refine z_getF2 C 0 (by decide) 0 (by decide) rfl 1 0 rfl (1) rfl zp_0 zk_0 zfl_0_12 d_E_of_41 ?_
      refine z_iload_n C 1 rfl d_E_of_44 rfl ?_
      obtain ⟨r6, h5, h⟩ := zb1_some h
      refine z_cV C 5 (by decide) (m_Ps_levelOf l zk_1 (Nat.le_of_ble_eq_true rfl) h5) mf_Ps_levelOf lk_0_134 in_Ps_levelOf se_Ps_levelOf rfl zo_1 zk_1 ⟨rfl, rfl⟩ ⟨by decide, by decide⟩ ⟨Nat.zero_le _, Nat.zero_le _⟩ rfl _ [] rfl (Nat.le_of_ble_eq_true rfl) d_E_of_45 ?_
      cases h
      exact z_iret C .int hret rfl ⟨Nat.zero_le _, Nat.zero_le _⟩ d_E_of_48
    · rcases zite h with ⟨c7, h⟩ | ⟨c7, h⟩
      · refine z_tab C (1 : Int32) 35 49 c7 (by decide) (by decide) (by decide) (by decide) d_E_of_14 ?_
        refine z_aload_n C 0 rfl d_E_of_49 rfl ?_
        refine z_getF2 C 0 (by decide) 0 (by decide) rfl 1 0 rfl (1) rfl zp_0 zk_0 zfl_0_12 d_E_of_50 ?_
        refine z_iload_n C 1 rfl d_E_of_53 rfl ?_
        obtain ⟨r9, h8, h⟩ := zb1_some h
        refine z_cV C 5 (by decide) (m_Ps_mudOf l zk_1 (Nat.le_of_ble_eq_true rfl) h8) mf_Ps_mudOf lk_0_137 in_Ps_mudOf se_Ps_mudOf rfl zo_1 zk_1 ⟨rfl, rfl⟩ ⟨by decide, by decide⟩ ⟨Nat.zero_le _, Nat.zero_le _⟩ rfl _ [] rfl (Nat.le_of_ble_eq_true rfl) d_E_of_54 ?_
        cases h
        exact z_iret C .int hret rfl ⟨Nat.zero_le _, Nat.zero_le _⟩ d_E_of_57
      · rcases zite h with ⟨c10, h⟩ | ⟨c10, h⟩
        · refine z_tab C (2 : Int32) 44 58 c10 (by decide) (by decide) (by decide) (by decide) d_E_of_14 ?_
          refine z_aload_n C 0 rfl d_E_of_58 rfl ?_
          refine z_getF2 C 0 (by decide) 8 (by decide) rfl 52 0 rfl (52) rfl zp_0 zk_0 zfl_0_53 d_E_of_59 ?_
          refine z_aload_n C 0 rfl d_E_of_62 rfl ?_
          refine z_getF2 C 0 (by decide) 0 (by decide) rfl 1 0 rfl (1) rfl zp_0 zk_0 zfl_0_12 d_E_of_63 ?_
          refine z_aload_n C 0 rfl d_E_of_66 rfl ?_
          refine z_getF2 C 0 (by decide) 0 (by decide) rfl 1 0 rfl (1) rfl zp_0 zk_0 zfl_0_12 d_E_of_67 ?_
          obtain ⟨r12, h11, h⟩ := zb1_some h
          refine z_cV C 5 (by decide) (m_Ps_lawInForce l zk_1 (Nat.le_of_ble_eq_true rfl) h11) mf_Ps_lawInForce lk_0_140 in_Ps_lawInForce se_Ps_lawInForce rfl zo_1 zk_1 ⟨rfl, rfl⟩ ⟨by decide, by decide⟩ ⟨Nat.zero_le _, Nat.zero_le _⟩ rfl _ [zr (some 1), zr (some 52)] rfl (Nat.le_of_ble_eq_true rfl) d_E_of_70 ?_
          refine z_iconst C (2 : Int32) (by decide) d_E_of_73 ?_
          refine z_iload_n C 1 rfl d_E_of_74 rfl ?_
          refine z_iconst C (-1 : Int32) (by decide) d_E_of_75 ?_
          obtain ⟨r14, S15, h13, h⟩ := zb2_some h
          refine z_cV C 1 (by decide) (m_As_told l zk_1 (Nat.le_of_ble_eq_true rfl) h13) mf_As_told lk_0_144 in_As_told se_As_told rfl zo_52 zk_52 ⟨rfl, rfl⟩ ⟨by decide, by decide⟩ ⟨Nat.zero_le _, Nat.zero_le _⟩ rfl _ [] rfl (Nat.le_of_ble_eq_true rfl) d_E_of_76 ?_
          cases h
          exact z_iret C .int hret rfl ⟨Nat.zero_le _, Nat.zero_le _⟩ d_E_of_79
        · refine z_tabO C (0) 3 (by decide) (fun j hj => by match j, hj with | 0, _ => exact c4 | 1, _ => exact c7 | 2, _ => exact c10 | j + 3, hj => omega) 80 (by decide) d_E_of_14 ?_
          refine z_iconst C (-1 : Int32) (by decide) d_E_of_80 ?_
          cases h
          exact z_iret C .int hret rfl ⟨Nat.zero_le _, Nat.zero_le _⟩ d_E_of_81
def f_Ps_isShut (a0 : Nat) (a1 : Int32) (S : zSt) : Option Int32 := if a1 < 0 then some (0 : Int32) else if (lg_cmp ((((zL S a0 4).toUInt64 >>> (a1.toInt64.toUInt64 &&& Int64.toUInt64 63)).toInt64) &&& (1 : Int64)) (1 : Int64)) = 0 then some (1 : Int32) else some (0 : Int32)
set_option maxRecDepth 100000 in
set_option maxHeartbeats 4000000 in
theorem m_Ps_isShut (l : Launch) {a0 : Nat} {a1 : Int32} {S : zSt} {r : Int32} (ha0 : zK a0 = 5) (ga0 : a0 < zN0) (h : f_Ps_isShut a0 a1 S = some r) : zPM l y_Ps_isShut b_Ps_isShut 2 (some .boolean) rm_Ps_isShut true true [zr (some a0), zi a1] S (some (zi r)) S := by
  refine zPM_of (by decide) (Nat.le_of_ble_eq_true rfl) (fun p e s m args below meth c G C hret hname => ?_)
  unfold f_Ps_isShut at h
  refine (?_ : zJ p l e rm_Ps_isShut s m args below meth c G true 2 0 0 (zQm below G args s rm_Ps_isShut true (some (zi r)) S) S 0 [(0, zr (some a0)), (1, zi a1)] [])
  refine z_iload_n C 1 rfl d_Ps_isShut_0 rfl ?_
  rcases zite h with ⟨c1, h⟩ | ⟨c1, h⟩
  · refine z_if_ltt C 21 c1 d_Ps_isShut_1 (by decide) ?_
    refine z_iconst C (0 : Int32) (by decide) d_Ps_isShut_21 ?_
    cases h
    exact z_iret C .boolean hret rfl ⟨Nat.zero_le _, Nat.zero_le _⟩ d_Ps_isShut_22
  · refine z_if_ltf C 21 c1 d_Ps_isShut_1 (by decide) ?_
    refine z_aload_n C 0 rfl d_Ps_isShut_4 rfl ?_
    refine z_getL C 5 (by decide) 4 (by decide) rfl (Or.inl ⟨rfl, ga0⟩) ha0 zfl_5_26 d_Ps_isShut_5 ?_
    refine z_iload_n C 1 rfl d_Ps_isShut_8 rfl ?_
    refine z_lushr C d_Ps_isShut_9 ?_
    refine z_lconst C (1 : Int64) (by decide) d_Ps_isShut_10 ?_
    refine z_land C d_Ps_isShut_11 ?_
    refine z_lconst C (1 : Int64) (by decide) d_Ps_isShut_12 ?_
    refine z_lcmp C d_Ps_isShut_13 ?_
    rcases zite h with ⟨c2, h⟩ | ⟨c2, h⟩
    · refine z_if_nef C 21 c2 d_Ps_isShut_14 (by decide) ?_
      refine z_iconst C (1 : Int32) (by decide) d_Ps_isShut_17 ?_
      refine z_goto C 22 d_Ps_isShut_18 (by decide) ?_
      cases h
      exact z_iret C .boolean hret rfl ⟨Nat.zero_le _, Nat.zero_le _⟩ d_Ps_isShut_22
    · refine z_if_net C 21 c2 d_Ps_isShut_14 (by decide) ?_
      refine z_iconst C (0 : Int32) (by decide) d_Ps_isShut_21 ?_
      cases h
      exact z_iret C .boolean hret rfl ⟨Nat.zero_le _, Nat.zero_le _⟩ d_Ps_isShut_22
def f_E_kindTold (a0 : Int32) : Option Int32 := if a0 = (2 : Int32) then some (0 : Int32) else if a0 = (3 : Int32) then some (1 : Int32) else some (3 : Int32)
set_option maxRecDepth 100000 in
set_option maxHeartbeats 4000000 in
theorem m_E_kindTold (l : Launch) {a0 : Int32} {S : zSt} {r : Int32} (h : f_E_kindTold a0 = some r) : zPM l y_E_kindTold b_E_kindTold 1 (some .int) rm_E_kindTold true true [zi a0] S (some (zi r)) S := by
  refine zPM_of (by decide) (Nat.le_of_ble_eq_true rfl) (fun p e s m args below meth c G C hret hname => ?_)
  unfold f_E_kindTold at h
  refine (?_ : zJ p l e rm_E_kindTold s m args below meth c G true 1 0 0 (zQm below G args s rm_E_kindTold true (some (zi r)) S) S 0 [(0, zi a0)] [])
  refine z_iload_n C 0 rfl d_E_kindTold_0 rfl ?_
  refine z_iconst C (2 : Int32) (by decide) d_E_kindTold_1 ?_
  rcases zite h with ⟨c1, h⟩ | ⟨c1, h⟩
  · refine z_icmp_nef C 7 c1 d_E_kindTold_2 (by decide) ?_
    refine z_iconst C (0 : Int32) (by decide) d_E_kindTold_5 ?_
    cases h
    exact z_iret C .int hret rfl ⟨Nat.zero_le _, Nat.zero_le _⟩ d_E_kindTold_6
  · refine z_icmp_net C 7 c1 d_E_kindTold_2 (by decide) ?_
    refine z_iload_n C 0 rfl d_E_kindTold_7 rfl ?_
    refine z_iconst C (3 : Int32) (by decide) d_E_kindTold_8 ?_
    rcases zite h with ⟨c2, h⟩ | ⟨c2, h⟩
    · refine z_icmp_nef C 16 c2 d_E_kindTold_9 (by decide) ?_
      refine z_iconst C (1 : Int32) (by decide) d_E_kindTold_12 ?_
      refine z_goto C 17 d_E_kindTold_13 (by decide) ?_
      cases h
      exact z_iret C .int hret rfl ⟨Nat.zero_le _, Nat.zero_le _⟩ d_E_kindTold_17
    · refine z_icmp_net C 16 c2 d_E_kindTold_9 (by decide) ?_
      refine z_iconst C (3 : Int32) (by decide) d_E_kindTold_16 ?_
      cases h
      exact z_iret C .int hret rfl ⟨Nat.zero_le _, Nat.zero_le _⟩ d_E_kindTold_17
def f_E_between (fu : Nat) (a1 : Int32) (a2 : Int32) (a3 : Int32) (S : zSt) : Option (Int32 × zSt) := zb1 (f_Ps_pairOf 1 a1 a2 S) (fun r2 => if r2 = (-1 : Int32) then some ((-1 : Int32), S) else if a3 < 0 then some ((-1 : Int32), S) else if a3 ≤ (4 : Int32) then if a3 = 0 then zb1 (f_Ps_farOf 1 r2 S) (fun r22 => some (r22, S)) else if a3 = (1 : Int32) then zb1 (f_Ps_isShut 1 r2 S) (fun r19 => if r19 = 0 then some ((0 : Int32), S) else some ((1 : Int32), S)) else zb1 (f_Ps_farOf 1 r2 S) (fun r9 => if r9 = 0 then some ((-1 : Int32), S) else zb1 (f_Ps_lawInForce 1 S) (fun r12 => zb1 (f_E_kindTold a3) (fun r14 => zb2 (f_As_told fu 1 r12 r14 a1 a2 S) (fun r16 S17 => some (r16, S17))))) else some ((-1 : Int32), S))
set_option maxRecDepth 100000 in
set_option maxHeartbeats 4000000 in
theorem m_E_between (l : Launch) {fu : Nat} {a1 : Int32} {a2 : Int32} {a3 : Int32} {S : zSt} {r : Int32} {S1 : zSt} (h : f_E_between fu a1 a2 a3 S = some (r, S1)) : zPM l y_E_between b_E_between 5 (some .int) rm_E_between true true [zr (some 0), zi a1, zi a2, zi a3] S (some (zi r)) S1 := by
  refine zPM_of (by decide) (Nat.le_of_ble_eq_true rfl) (fun p e s m args below meth c G C hret hname => ?_)
  unfold f_E_between at h
  refine (?_ : zJ p l e rm_E_between s m args below meth c G true 5 0 0 (zQm below G args s rm_E_between true (some (zi r)) S1) S 0 [(0, zr (some 0)), (1, zi a1), (2, zi a2), (3, zi a3)] [])
  refine z_aload_n C 0 rfl d_E_between_0 rfl ?_
  refine z_getF2 C 0 (by decide) 0 (by decide) rfl 1 0 rfl (1) rfl zp_0 zk_0 zfl_0_12 d_E_between_1 ?_
  refine z_iload_n C 1 rfl d_E_between_4 rfl ?_
  refine z_iload_n C 2 rfl d_E_between_5 rfl ?_
  obtain ⟨r2, h1, h⟩ := zb1_some h
  refine z_cV C 5 (by decide) (m_Ps_pairOf l zk_1 (Nat.le_of_ble_eq_true rfl) h1) mf_Ps_pairOf lk_0_148 in_Ps_pairOf se_Ps_pairOf rfl zo_1 zk_1 ⟨rfl, rfl⟩ ⟨by decide, by decide⟩ ⟨Nat.zero_le _, Nat.zero_le _⟩ rfl _ [] rfl (Nat.le_of_ble_eq_true rfl) d_E_between_6 ?_
  refine z_istore C [(4, zi r2), (0, zr (some 0)), (1, zi a1), (2, zi a2), (3, zi a3)] d_E_between_9 (by decide) rfl ?_
  refine z_iload C 0 rfl d_E_between_11 ?_
  refine z_iconst C (-1 : Int32) (by decide) d_E_between_13 ?_
  rcases zite h with ⟨c3, h⟩ | ⟨c3, h⟩
  · refine z_icmp_eqt C 26 c3 d_E_between_14 (by decide) ?_
    refine z_iconst C (-1 : Int32) (by decide) d_E_between_26 ?_
    cases h
    exact z_iret C .int hret rfl ⟨Nat.zero_le _, Nat.zero_le _⟩ d_E_between_27
  · refine z_icmp_eqf C 26 c3 d_E_between_14 (by decide) ?_
    refine z_iload_n C 4 rfl d_E_between_17 rfl ?_
    rcases zite h with ⟨c4, h⟩ | ⟨c4, h⟩
    · refine z_if_ltt C 26 c4 d_E_between_18 (by decide) ?_
      refine z_iconst C (-1 : Int32) (by decide) d_E_between_26 ?_
      cases h
      exact z_iret C .int hret rfl ⟨Nat.zero_le _, Nat.zero_le _⟩ d_E_between_27
    · refine z_if_ltf C 26 c4 d_E_between_18 (by decide) ?_
      refine z_iload_n C 4 rfl d_E_between_21 rfl ?_
      refine z_iconst C (4 : Int32) (by decide) d_E_between_22 ?_
      rcases zite h with ⟨c5, h⟩ | ⟨c5, h⟩
      · refine z_icmp_let C 28 c5 d_E_between_23 (by decide) ?_
        refine z_iload_n C 4 rfl d_E_between_28 rfl ?_
        rcases zite h with ⟨c6, h⟩ | ⟨c6, h⟩
        · refine z_if_nef C 42 c6 d_E_between_29 (by decide) ?_
          refine z_aload_n C 1 rfl d_E_between_32 rfl ?_
          refine z_getF2 C 0 (by decide) 0 (by decide) rfl 1 0 rfl (1) rfl zp_0 zk_0 zfl_0_12 d_E_between_33 ?_
          refine z_iload C 0 rfl d_E_between_36 ?_
          obtain ⟨r22, h21, h⟩ := zb1_some h
          refine z_cV C 5 (by decide) (m_Ps_farOf l zk_1 (Nat.le_of_ble_eq_true rfl) h21) mf_Ps_farOf lk_0_151 in_Ps_farOf se_Ps_farOf rfl zo_1 zk_1 ⟨rfl, rfl⟩ ⟨by decide, by decide⟩ ⟨Nat.zero_le _, Nat.zero_le _⟩ rfl _ [] rfl (Nat.le_of_ble_eq_true rfl) d_E_between_38 ?_
          cases h
          exact z_iret C .int hret rfl ⟨Nat.zero_le _, Nat.zero_le _⟩ d_E_between_41
        · refine z_if_net C 42 c6 d_E_between_29 (by decide) ?_
          refine z_iload_n C 4 rfl d_E_between_42 rfl ?_
          refine z_iconst C (1 : Int32) (by decide) d_E_between_43 ?_
          rcases zite h with ⟨c7, h⟩ | ⟨c7, h⟩
          · refine z_icmp_nef C 65 c7 d_E_between_44 (by decide) ?_
            refine z_aload_n C 1 rfl d_E_between_47 rfl ?_
            refine z_getF2 C 0 (by decide) 0 (by decide) rfl 1 0 rfl (1) rfl zp_0 zk_0 zfl_0_12 d_E_between_48 ?_
            refine z_iload C 0 rfl d_E_between_51 ?_
            obtain ⟨r19, h18, h⟩ := zb1_some h
            refine z_cV C 5 (by decide) (m_Ps_isShut l zk_1 (Nat.le_of_ble_eq_true rfl) h18) mf_Ps_isShut lk_0_154 in_Ps_isShut se_Ps_isShut rfl zo_1 zk_1 ⟨rfl, rfl⟩ ⟨by decide, by decide⟩ ⟨Nat.zero_le _, Nat.zero_le _⟩ rfl _ [] rfl (Nat.le_of_ble_eq_true rfl) d_E_between_53 ?_
            rcases zite h with ⟨c20, h⟩ | ⟨c20, h⟩
            · refine z_if_eqt C 63 c20 d_E_between_56 (by decide) ?_
              refine z_iconst C (0 : Int32) (by decide) d_E_between_63 ?_
              cases h
              exact z_iret C .int hret rfl ⟨Nat.zero_le _, Nat.zero_le _⟩ d_E_between_64
            · refine z_if_eqf C 63 c20 d_E_between_56 (by decide) ?_
              refine z_iconst C (1 : Int32) (by decide) d_E_between_59 ?_
              refine z_goto C 64 d_E_between_60 (by decide) ?_
              cases h
              exact z_iret C .int hret rfl ⟨Nat.zero_le _, Nat.zero_le _⟩ d_E_between_64
          · refine z_icmp_net C 65 c7 d_E_between_44 (by decide) ?_
            refine z_aload_n C 1 rfl d_E_between_65 rfl ?_
            refine z_getF2 C 0 (by decide) 0 (by decide) rfl 1 0 rfl (1) rfl zp_0 zk_0 zfl_0_12 d_E_between_66 ?_
            refine z_iload C 0 rfl d_E_between_69 ?_
            obtain ⟨r9, h8, h⟩ := zb1_some h
            refine z_cV C 5 (by decide) (m_Ps_farOf l zk_1 (Nat.le_of_ble_eq_true rfl) h8) mf_Ps_farOf lk_0_151 in_Ps_farOf se_Ps_farOf rfl zo_1 zk_1 ⟨rfl, rfl⟩ ⟨by decide, by decide⟩ ⟨Nat.zero_le _, Nat.zero_le _⟩ rfl _ [] rfl (Nat.le_of_ble_eq_true rfl) d_E_between_71 ?_
            rcases zite h with ⟨c10, h⟩ | ⟨c10, h⟩
            · refine z_if_nef C 79 c10 d_E_between_74 (by decide) ?_
              refine z_iconst C (-1 : Int32) (by decide) d_E_between_77 ?_
              cases h
              exact z_iret C .int hret rfl ⟨Nat.zero_le _, Nat.zero_le _⟩ d_E_between_78
            · refine z_if_net C 79 c10 d_E_between_74 (by decide) ?_
              refine z_aload_n C 1 rfl d_E_between_79 rfl ?_
              refine z_getF2 C 0 (by decide) 8 (by decide) rfl 52 0 rfl (52) rfl zp_0 zk_0 zfl_0_53 d_E_between_80 ?_
              refine z_aload_n C 1 rfl d_E_between_83 rfl ?_
              refine z_getF2 C 0 (by decide) 0 (by decide) rfl 1 0 rfl (1) rfl zp_0 zk_0 zfl_0_12 d_E_between_84 ?_
              refine z_aload_n C 1 rfl d_E_between_87 rfl ?_
              refine z_getF2 C 0 (by decide) 0 (by decide) rfl 1 0 rfl (1) rfl zp_0 zk_0 zfl_0_12 d_E_between_88 ?_
              obtain ⟨r12, h11, h⟩ := zb1_some h
              refine z_cV C 5 (by decide) (m_Ps_lawInForce l zk_1 (Nat.le_of_ble_eq_true rfl) h11) mf_Ps_lawInForce lk_0_140 in_Ps_lawInForce se_Ps_lawInForce rfl zo_1 zk_1 ⟨rfl, rfl⟩ ⟨by decide, by decide⟩ ⟨Nat.zero_le _, Nat.zero_le _⟩ rfl _ [zr (some 1), zr (some 52)] rfl (Nat.le_of_ble_eq_true rfl) d_E_between_91 ?_
              refine z_iload_n C 4 rfl d_E_between_94 rfl ?_
              obtain ⟨r14, h13, h⟩ := zb1_some h
              refine z_cS C (m_E_kindTold l h13) mf_E_kindTold lk_0_157 st_E_kindTold ⟨rfl, rfl⟩ ⟨by decide, by decide⟩ ⟨Nat.zero_le _, Nat.zero_le _⟩ rfl _ [zr r12, zr (some 1), zr (some 52)] rfl (Nat.le_of_ble_eq_true rfl) d_E_between_95 ?_
              refine z_iload_n C 2 rfl d_E_between_98 rfl ?_
              refine z_iload_n C 3 rfl d_E_between_99 rfl ?_
              obtain ⟨r16, S17, h15, h⟩ := zb2_some h
              refine z_cV C 1 (by decide) (m_As_told l zk_1 (Nat.le_of_ble_eq_true rfl) h15) mf_As_told lk_0_144 in_As_told se_As_told rfl zo_52 zk_52 ⟨rfl, rfl⟩ ⟨by decide, by decide⟩ ⟨Nat.zero_le _, Nat.zero_le _⟩ rfl _ [] rfl (Nat.le_of_ble_eq_true rfl) d_E_between_100 ?_
              cases h
              exact z_iret C .int hret rfl ⟨Nat.zero_le _, Nat.zero_le _⟩ d_E_between_103
      · refine z_icmp_lef C 28 c5 d_E_between_23 (by decide) ?_
        refine z_iconst C (-1 : Int32) (by decide) d_E_between_26 ?_
        cases h
        exact z_iret C .int hret rfl ⟨Nat.zero_le _, Nat.zero_le _⟩ d_E_between_27
def f_E_topOfTerm (a0 : Int32) : Option Int32 := if a0 = 0 then some (999 : Int32) else if a0 = (1 : Int32) then some (10 : Int32) else some (9 : Int32)
set_option maxRecDepth 100000 in
set_option maxHeartbeats 4000000 in
theorem m_E_topOfTerm (l : Launch) {a0 : Int32} {S : zSt} {r : Int32} (h : f_E_topOfTerm a0 = some r) : zPM l y_E_topOfTerm b_E_topOfTerm 1 (some .int) rm_E_topOfTerm true true [zi a0] S (some (zi r)) S := by
  refine zPM_of (by decide) (Nat.le_of_ble_eq_true rfl) (fun p e s m args below meth c G C hret hname => ?_)
  unfold f_E_topOfTerm at h
  refine (?_ : zJ p l e rm_E_topOfTerm s m args below meth c G true 1 0 0 (zQm below G args s rm_E_topOfTerm true (some (zi r)) S) S 0 [(0, zi a0)] [])
  refine z_iload_n C 0 rfl d_E_topOfTerm_0 rfl ?_
  rcases zite h with ⟨c1, h⟩ | ⟨c1, h⟩
  · refine z_if_nef C 8 c1 d_E_topOfTerm_1 (by decide) ?_
    refine z_sipush C (999 : Int32) (by decide) d_E_topOfTerm_4 ?_
    cases h
    exact z_iret C .int hret rfl ⟨Nat.zero_le _, Nat.zero_le _⟩ d_E_topOfTerm_7
  · refine z_if_net C 8 c1 d_E_topOfTerm_1 (by decide) ?_
    refine z_iload_n C 0 rfl d_E_topOfTerm_8 rfl ?_
    refine z_iconst C (1 : Int32) (by decide) d_E_topOfTerm_9 ?_
    rcases zite h with ⟨c2, h⟩ | ⟨c2, h⟩
    · refine z_icmp_nef C 18 c2 d_E_topOfTerm_10 (by decide) ?_
      refine z_bipush C (10 : Int32) (by decide) d_E_topOfTerm_13 ?_
      refine z_goto C 20 d_E_topOfTerm_15 (by decide) ?_
      cases h
      exact z_iret C .int hret rfl ⟨Nat.zero_le _, Nat.zero_le _⟩ d_E_topOfTerm_20
    · refine z_icmp_net C 18 c2 d_E_topOfTerm_10 (by decide) ?_
      refine z_bipush C (9 : Int32) (by decide) d_E_topOfTerm_18 ?_
      cases h
      exact z_iret C .int hret rfl ⟨Nat.zero_le _, Nat.zero_le _⟩ d_E_topOfTerm_20
def f_Ps_term (a0 : Nat) (a1 : Int32) (S : zSt) : Option Int32 := if a1 = 0 then some (zI S a0 6) else if a1 = (1 : Int32) then some (zI S a0 7) else some (zI S a0 8)
set_option maxRecDepth 100000 in
set_option maxHeartbeats 4000000 in
theorem m_Ps_term (l : Launch) {a0 : Nat} {a1 : Int32} {S : zSt} {r : Int32} (ha0 : zK a0 = 5) (ga0 : a0 < zN0) (h : f_Ps_term a0 a1 S = some r) : zPM l y_Ps_term b_Ps_term 2 (some .int) rm_Ps_term true true [zr (some a0), zi a1] S (some (zi r)) S := by
  refine zPM_of (by decide) (Nat.le_of_ble_eq_true rfl) (fun p e s m args below meth c G C hret hname => ?_)
  unfold f_Ps_term at h
  refine (?_ : zJ p l e rm_Ps_term s m args below meth c G true 2 0 0 (zQm below G args s rm_Ps_term true (some (zi r)) S) S 0 [(0, zr (some a0)), (1, zi a1)] [])
  refine z_iload_n C 1 rfl d_Ps_term_0 rfl ?_
  rcases zite h with ⟨c1, h⟩ | ⟨c1, h⟩
  · refine z_if_nef C 9 c1 d_Ps_term_1 (by decide) ?_
    refine z_aload_n C 0 rfl d_Ps_term_4 rfl ?_
    refine z_getI C 5 (by decide) 6 (by decide) rfl (Or.inl ⟨rfl, ga0⟩) ha0 zfl_5_32 d_Ps_term_5 ?_
    cases h
    exact z_iret C .int hret rfl ⟨Nat.zero_le _, Nat.zero_le _⟩ d_Ps_term_8
  · refine z_if_net C 9 c1 d_Ps_term_1 (by decide) ?_
    refine z_iload_n C 1 rfl d_Ps_term_9 rfl ?_
    refine z_iconst C (1 : Int32) (by decide) d_Ps_term_10 ?_
    rcases zite h with ⟨c2, h⟩ | ⟨c2, h⟩
    · refine z_icmp_nef C 21 c2 d_Ps_term_11 (by decide) ?_
      refine z_aload_n C 0 rfl d_Ps_term_14 rfl ?_
      refine z_getI C 5 (by decide) 7 (by decide) rfl (Or.inl ⟨rfl, ga0⟩) ha0 zfl_5_35 d_Ps_term_15 ?_
      refine z_goto C 25 d_Ps_term_18 (by decide) ?_
      cases h
      exact z_iret C .int hret rfl ⟨Nat.zero_le _, Nat.zero_le _⟩ d_Ps_term_25
    · refine z_icmp_net C 21 c2 d_Ps_term_11 (by decide) ?_
      refine z_aload_n C 0 rfl d_Ps_term_21 rfl ?_
      refine z_getI C 5 (by decide) 8 (by decide) rfl (Or.inl ⟨rfl, ga0⟩) ha0 zfl_5_38 d_Ps_term_22 ?_
      cases h
      exact z_iret C .int hret rfl ⟨Nat.zero_le _, Nat.zero_le _⟩ d_Ps_term_25
def f_Ps_setTerm (a0 : Nat) (a1 : Int32) (a2 : Int32) (S : zSt) : Option zSt := if a1 = 0 then some (zwI S a0 6 a2) else if a1 = (1 : Int32) then some (zwI S a0 7 a2) else some (zwI S a0 8 a2)
set_option maxRecDepth 100000 in
set_option maxHeartbeats 4000000 in
theorem m_Ps_setTerm (l : Launch) {a0 : Nat} {a1 : Int32} {a2 : Int32} {S : zSt} {S1 : zSt} (ha0 : zK a0 = 5) (ga0 : a0 < zN0) (h : f_Ps_setTerm a0 a1 a2 S = some S1) : zPM l y_Ps_setTerm b_Ps_setTerm 3 none rm_Ps_setTerm true true [zr (some a0), zi a1, zi a2] S none S1 := by
  refine zPM_of (by decide) (Nat.le_of_ble_eq_true rfl) (fun p e s m args below meth c G C hret hname => ?_)
  unfold f_Ps_setTerm at h
  refine (?_ : zJ p l e rm_Ps_setTerm s m args below meth c G true 3 0 0 (zQm below G args s rm_Ps_setTerm true none S1) S 0 [(0, zr (some a0)), (1, zi a1), (2, zi a2)] [])
  refine z_iload_n C 1 rfl d_Ps_setTerm_0 rfl ?_
  rcases zite h with ⟨c1, h⟩ | ⟨c1, h⟩
  · refine z_if_nef C 12 c1 d_Ps_setTerm_1 (by decide) ?_
    refine z_aload_n C 0 rfl d_Ps_setTerm_4 rfl ?_
    refine z_iload_n C 2 rfl d_Ps_setTerm_5 rfl ?_
    refine z_putI C 5 (by decide) 6 (by decide) rfl (Or.inl rfl) (Or.inl ⟨rfl, ga0⟩) ha0 zfl_5_32 (Or.inl rfl) d_Ps_setTerm_6 ?_
    refine z_goto C 30 d_Ps_setTerm_9 (by decide) ?_
    cases h
    exact z_vret C hret ⟨Nat.zero_le _, Nat.zero_le _⟩ d_Ps_setTerm_30
  · refine z_if_net C 12 c1 d_Ps_setTerm_1 (by decide) ?_
    refine z_iload_n C 1 rfl d_Ps_setTerm_12 rfl ?_
    refine z_iconst C (1 : Int32) (by decide) d_Ps_setTerm_13 ?_
    rcases zite h with ⟨c2, h⟩ | ⟨c2, h⟩
    · refine z_icmp_nef C 25 c2 d_Ps_setTerm_14 (by decide) ?_
      refine z_aload_n C 0 rfl d_Ps_setTerm_17 rfl ?_
      refine z_iload_n C 2 rfl d_Ps_setTerm_18 rfl ?_
      refine z_putI C 5 (by decide) 7 (by decide) rfl (Or.inl rfl) (Or.inl ⟨rfl, ga0⟩) ha0 zfl_5_35 (Or.inl rfl) d_Ps_setTerm_19 ?_
      refine z_goto C 30 d_Ps_setTerm_22 (by decide) ?_
      cases h
      exact z_vret C hret ⟨Nat.zero_le _, Nat.zero_le _⟩ d_Ps_setTerm_30
    · refine z_icmp_net C 25 c2 d_Ps_setTerm_14 (by decide) ?_
      refine z_aload_n C 0 rfl d_Ps_setTerm_25 rfl ?_
      refine z_iload_n C 2 rfl d_Ps_setTerm_26 rfl ?_
      refine z_putI C 5 (by decide) 8 (by decide) rfl (Or.inl rfl) (Or.inl ⟨rfl, ga0⟩) ha0 zfl_5_38 (Or.inl rfl) d_Ps_setTerm_27 ?_
      cases h
      exact z_vret C hret ⟨Nat.zero_le _, Nat.zero_le _⟩ d_Ps_setTerm_30
def f_E_terms (a1 : Int32) (a2 : Int32) (S : zSt) : Option (Int32 × zSt) := if a1 < 0 then zb2 (f_E_refused (-1 : Int32) S) (fun r3 S4 => some (r3, S4)) else if (2 : Int32) < a1 then zb2 (f_E_refused (-1 : Int32) S) (fun r7 S8 => some (r7, S8)) else if a2 < 0 then zb2 (f_E_refused (-1 : Int32) S) (fun r11 S12 => some (r11, S12)) else zb1 (f_E_topOfTerm a1) (fun r14 => if a2 ≤ r14 then zb1 (f_Ps_term 1 a1 S) (fun r17 => zb1 (f_Ps_setTerm 1 a1 a2 S) (fun S19 => zb1 (f_Jo_clear 32 S19) (fun S21 => zb2 (f_E_granted r17 S21) (fun r23 S24 => some (r23, S24))))) else zb2 (f_E_refused (-1 : Int32) S) (fun r26 S27 => some (r26, S27)))
set_option maxRecDepth 100000 in
set_option maxHeartbeats 4000000 in
theorem m_E_terms (l : Launch) {a1 : Int32} {a2 : Int32} {S : zSt} {r : Int32} {S1 : zSt} (h : f_E_terms a1 a2 S = some (r, S1)) : zPM l y_E_terms b_E_terms 4 (some .int) rm_E_terms true true [zr (some 0), zi a1, zi a2] S (some (zi r)) S1 := by
  refine zPM_of (by decide) (Nat.le_of_ble_eq_true rfl) (fun p e s m args below meth c G C hret hname => ?_)
  unfold f_E_terms at h
  refine (?_ : zJ p l e rm_E_terms s m args below meth c G true 4 0 0 (zQm below G args s rm_E_terms true (some (zi r)) S1) S 0 [(0, zr (some 0)), (1, zi a1), (2, zi a2)] [])
  refine z_iload_n C 1 rfl d_E_terms_0 rfl ?_
  rcases zite h with ⟨c1, h⟩ | ⟨c1, h⟩
  · refine z_if_ltt C 21 c1 d_E_terms_1 (by decide) ?_
    refine z_aload_n C 0 rfl d_E_terms_21 rfl ?_
    refine z_iconst C (-1 : Int32) (by decide) d_E_terms_22 ?_
    obtain ⟨r3, S4, h2, h⟩ := zb2_some h
    refine z_cV C 0 (by decide) (m_E_refused l h2) mf_E_refused lk_0_109 in_E_refused se_E_refused rfl zo_0 zk_0 ⟨rfl, rfl⟩ ⟨by decide, by decide⟩ ⟨Nat.zero_le _, Nat.zero_le _⟩ rfl _ [] rfl (Nat.le_of_ble_eq_true rfl) d_E_terms_23 ?_
    cases h
    exact z_iret C .int hret rfl ⟨Nat.zero_le _, Nat.zero_le _⟩ d_E_terms_26
  · refine z_if_ltf C 21 c1 d_E_terms_1 (by decide) ?_
    refine z_iload_n C 1 rfl d_E_terms_4 rfl ?_
    refine z_iconst C (2 : Int32) (by decide) d_E_terms_5 ?_
    rcases zite h with ⟨c5, h⟩ | ⟨c5, h⟩
    · refine z_icmp_gtt C 21 c5 d_E_terms_6 (by decide) ?_
      refine z_aload_n C 0 rfl d_E_terms_21 rfl ?_
      refine z_iconst C (-1 : Int32) (by decide) d_E_terms_22 ?_
      obtain ⟨r7, S8, h6, h⟩ := zb2_some h
      refine z_cV C 0 (by decide) (m_E_refused l h6) mf_E_refused lk_0_109 in_E_refused se_E_refused rfl zo_0 zk_0 ⟨rfl, rfl⟩ ⟨by decide, by decide⟩ ⟨Nat.zero_le _, Nat.zero_le _⟩ rfl _ [] rfl (Nat.le_of_ble_eq_true rfl) d_E_terms_23 ?_
      cases h
      exact z_iret C .int hret rfl ⟨Nat.zero_le _, Nat.zero_le _⟩ d_E_terms_26
    · refine z_icmp_gtf C 21 c5 d_E_terms_6 (by decide) ?_
      refine z_iload_n C 2 rfl d_E_terms_9 rfl ?_
      rcases zite h with ⟨c9, h⟩ | ⟨c9, h⟩
      · refine z_if_ltt C 21 c9 d_E_terms_10 (by decide) ?_
        refine z_aload_n C 0 rfl d_E_terms_21 rfl ?_
        refine z_iconst C (-1 : Int32) (by decide) d_E_terms_22 ?_
        obtain ⟨r11, S12, h10, h⟩ := zb2_some h
        refine z_cV C 0 (by decide) (m_E_refused l h10) mf_E_refused lk_0_109 in_E_refused se_E_refused rfl zo_0 zk_0 ⟨rfl, rfl⟩ ⟨by decide, by decide⟩ ⟨Nat.zero_le _, Nat.zero_le _⟩ rfl _ [] rfl (Nat.le_of_ble_eq_true rfl) d_E_terms_23 ?_
        cases h
        exact z_iret C .int hret rfl ⟨Nat.zero_le _, Nat.zero_le _⟩ d_E_terms_26
      · refine z_if_ltf C 21 c9 d_E_terms_10 (by decide) ?_
        refine z_iload_n C 2 rfl d_E_terms_13 rfl ?_
        refine z_iload_n C 1 rfl d_E_terms_14 rfl ?_
        obtain ⟨r14, h13, h⟩ := zb1_some h
        refine z_cS C (m_E_topOfTerm l h13) mf_E_topOfTerm lk_0_160 st_E_topOfTerm ⟨rfl, rfl⟩ ⟨by decide, by decide⟩ ⟨Nat.zero_le _, Nat.zero_le _⟩ rfl _ [zi a2] rfl (Nat.le_of_ble_eq_true rfl) d_E_terms_15 ?_
        rcases zite h with ⟨c15, h⟩ | ⟨c15, h⟩
        · refine z_icmp_let C 27 c15 d_E_terms_18 (by decide) ?_
          refine z_aload_n C 0 rfl d_E_terms_27 rfl ?_
          refine z_getF2 C 0 (by decide) 0 (by decide) rfl 1 0 rfl (1) rfl zp_0 zk_0 zfl_0_12 d_E_terms_28 ?_
          refine z_iload_n C 1 rfl d_E_terms_31 rfl ?_
          obtain ⟨r17, h16, h⟩ := zb1_some h
          refine z_cV C 5 (by decide) (m_Ps_term l zk_1 (Nat.le_of_ble_eq_true rfl) h16) mf_Ps_term lk_0_163 in_Ps_term se_Ps_term rfl zo_1 zk_1 ⟨rfl, rfl⟩ ⟨by decide, by decide⟩ ⟨Nat.zero_le _, Nat.zero_le _⟩ rfl _ [] rfl (Nat.le_of_ble_eq_true rfl) d_E_terms_32 ?_
          refine z_istore_n C [(3, zi r17), (0, zr (some 0)), (1, zi a1), (2, zi a2)] d_E_terms_35 rfl (by decide) rfl ?_
          refine z_aload_n C 1 rfl d_E_terms_36 rfl ?_
          refine z_getF2 C 0 (by decide) 0 (by decide) rfl 1 0 rfl (1) rfl zp_0 zk_0 zfl_0_12 d_E_terms_37 ?_
          refine z_iload_n C 2 rfl d_E_terms_40 rfl ?_
          refine z_iload_n C 3 rfl d_E_terms_41 rfl ?_
          obtain ⟨S19, h18, h⟩ := zb1_some h
          refine z_cV C 5 (by decide) (m_Ps_setTerm l zk_1 (Nat.le_of_ble_eq_true rfl) h18) mf_Ps_setTerm lk_0_166 in_Ps_setTerm se_Ps_setTerm rfl zo_1 zk_1 ⟨rfl, rfl⟩ ⟨by decide, by decide⟩ ⟨Nat.zero_le _, Nat.zero_le _⟩ rfl _ [] rfl (Nat.le_of_ble_eq_true rfl) d_E_terms_42 ?_
          refine z_aload_n C 1 rfl d_E_terms_45 rfl ?_
          refine z_getF2 C 0 (by decide) 4 (by decide) rfl 32 0 rfl (32) rfl zp_0 zk_0 zfl_0_29 d_E_terms_46 ?_
          obtain ⟨S21, h20, h⟩ := zb1_some h
          refine z_cV C 2 (by decide) (m_Jo_clear l zk_32 (Nat.le_of_ble_eq_true rfl) h20) mf_Jo_clear lk_0_116 in_Jo_clear se_Jo_clear rfl zo_32 zk_32 ⟨rfl, rfl⟩ ⟨by decide, by decide⟩ ⟨Nat.zero_le _, Nat.zero_le _⟩ rfl _ [] rfl (Nat.le_of_ble_eq_true rfl) d_E_terms_49 ?_
          refine z_aload_n C 1 rfl d_E_terms_52 rfl ?_
          refine z_iload_n C 0 rfl d_E_terms_53 rfl ?_
          obtain ⟨r23, S24, h22, h⟩ := zb2_some h
          refine z_cV C 0 (by decide) (m_E_granted l h22) mf_E_granted lk_0_123 in_E_granted se_E_granted rfl zo_0 zk_0 ⟨rfl, rfl⟩ ⟨by decide, by decide⟩ ⟨Nat.zero_le _, Nat.zero_le _⟩ rfl _ [] rfl (Nat.le_of_ble_eq_true rfl) d_E_terms_54 ?_
          cases h
          exact z_iret C .int hret rfl ⟨Nat.zero_le _, Nat.zero_le _⟩ d_E_terms_57
        · refine z_icmp_lef C 27 c15 d_E_terms_18 (by decide) ?_
          refine z_aload_n C 0 rfl d_E_terms_21 rfl ?_
          refine z_iconst C (-1 : Int32) (by decide) d_E_terms_22 ?_
          obtain ⟨r26, S27, h25, h⟩ := zb2_some h
          refine z_cV C 0 (by decide) (m_E_refused l h25) mf_E_refused lk_0_109 in_E_refused se_E_refused rfl zo_0 zk_0 ⟨rfl, rfl⟩ ⟨by decide, by decide⟩ ⟨Nat.zero_le _, Nat.zero_le _⟩ rfl _ [] rfl (Nat.le_of_ble_eq_true rfl) d_E_terms_23 ?_
          cases h
          exact z_iret C .int hret rfl ⟨Nat.zero_le _, Nat.zero_le _⟩ d_E_terms_26
def f_Ta_put_3 (fu : Nat) : Nat → Int32 → Int32 → zSt → Option zSt
  | 0, _, _, _ => none
  | n + 1, a1, a2, S => if a2 < 0 then some S else if (zI S 44 1) < 0 then f_Ta_put_3 fu n a1 (a2 + (-8 : Int32)) S else if (400 : Int32) ≤ (zI S 44 1) then f_Ta_put_3 fu n a1 (a2 + (-8 : Int32)) S else zgd (0 ≤ (zI S 44 1) ∧ (zI S 44 1).toNatClampNeg < 400) (f_Ta_put_3 fu n a1 (a2 + (-8 : Int32)) (zwI (zwI S 45 (zI S 44 1).toNatClampNeg ((a1 >>> (a2 &&& 31)).toInt8.toInt32).toInt8.toInt32) 44 1 ((zI (zwI S 45 (zI S 44 1).toNatClampNeg ((a1 >>> (a2 &&& 31)).toInt8.toInt32).toInt8.toInt32) 44 1) + (1 : Int32))))
def f_Ta_put (fu : Nat) (a1 : Int32) (S : zSt) : Option zSt := f_Ta_put_3 fu fu a1 (24 : Int32) S
set_option maxRecDepth 100000 in
set_option maxHeartbeats 4000000 in
theorem c_Ta_put_3 {p : Program} {l : Launch} {e : Env} {s : State} {m : MethodId} {args : Array Value} {below : List Frame} {meth : Method} {c : Code} {G : zG} (C : zC p s m args meth c G b_Ta_put 3 y_Ta_put.cls) (hret : meth.sig.returnType = none) {fu : Nat} {S1 : zSt} : ∀ (n : Nat) (a1 : Int32) (a2 : Int32) (S : zSt) , f_Ta_put_3 fu n a1 a2 S = some S1 → zJ p l e rm_Ta_put s m args below meth c G true 3 0 0 (zQm below G args s rm_Ta_put true none S1) S 3 [(0, zr (some 44)), (1, zi a1), (2, zi a2)] [] := by
  intro n
  induction n with
  | zero =>
    intro a1 a2 S h
    cases h
  | succ n ih =>
    intro a1 a2 S h
    rw [f_Ta_put_3] at h
    refine z_iload_n C 2 rfl d_Ta_put_3 rfl ?_
    rcases zite h with ⟨c1, h⟩ | ⟨c1, h⟩
    · refine z_if_ltt C 55 c1 d_Ta_put_4 (by decide) ?_
      cases h
      exact z_vret C hret ⟨Nat.zero_le _, Nat.zero_le _⟩ d_Ta_put_55
    · refine z_if_ltf C 55 c1 d_Ta_put_4 (by decide) ?_
      refine z_aload_n C 0 rfl d_Ta_put_7 rfl ?_
      refine z_getI C 9 (by decide) 1 (by decide) rfl zo_44 zk_44 zfl_9_15 d_Ta_put_8 ?_
      rcases zite h with ⟨c2, h⟩ | ⟨c2, h⟩
      · refine z_if_ltt C 49 c2 d_Ta_put_11 (by decide) ?_
        refine z_iinc C 2 (a2 + (-8 : Int32)) [(2, zi (a2 + (-8 : Int32))), (0, zr (some 44)), (1, zi a1)] rfl d_Ta_put_49 (by first | rfl | decide) (by decide) rfl ?_
        refine z_goto C 3 d_Ta_put_52 (by decide) ?_
        refine zq_lsub [1, 2, 0] [(0, zr (some 44)), (1, zi a1), (2, zi (a2 + (-8 : Int32)))] rfl ?_
        exact ih a1 (a2 + (-8 : Int32)) S h
      · refine z_if_ltf C 49 c2 d_Ta_put_11 (by decide) ?_
        refine z_aload_n C 0 rfl d_Ta_put_14 rfl ?_
        refine z_getI C 9 (by decide) 1 (by decide) rfl zo_44 zk_44 zfl_9_15 d_Ta_put_15 ?_
        refine z_aload_n C 0 rfl d_Ta_put_18 rfl ?_
        refine z_getF2 C 9 (by decide) 0 (by decide) rfl 1 400 rfl (45) rfl zp_44 zk_44 zfl_9_9 d_Ta_put_19 ?_
        refine z_fact (fun hSR => ?_)
        refine z_alen52S C (400 : Int32) (by decide) zo_45 zk_45 (za_45 hSR) d_Ta_put_22 ?_
        rcases zite h with ⟨c3, h⟩ | ⟨c3, h⟩
        · refine z_icmp_get C 49 c3 d_Ta_put_23 (by decide) ?_
          refine z_iinc C 2 (a2 + (-8 : Int32)) [(2, zi (a2 + (-8 : Int32))), (0, zr (some 44)), (1, zi a1)] rfl d_Ta_put_49 (by first | rfl | decide) (by decide) rfl ?_
          refine z_goto C 3 d_Ta_put_52 (by decide) ?_
          refine zq_lsub [1, 2, 0] [(0, zr (some 44)), (1, zi a1), (2, zi (a2 + (-8 : Int32)))] rfl ?_
          exact ih a1 (a2 + (-8 : Int32)) S h
        · refine z_icmp_gef C 49 c3 d_Ta_put_23 (by decide) ?_
          refine z_aload_n C 0 rfl d_Ta_put_26 rfl ?_
          refine z_getF2 C 9 (by decide) 0 (by decide) rfl 1 400 rfl (45) rfl zp_44 zk_44 zfl_9_9 d_Ta_put_27 ?_
          refine z_aload_n C 0 rfl d_Ta_put_30 rfl ?_
          refine z_getI C 9 (by decide) 1 (by decide) rfl zo_44 zk_44 zfl_9_15 d_Ta_put_31 ?_
          refine z_iload_n C 1 rfl d_Ta_put_34 rfl ?_
          refine z_iload_n C 2 rfl d_Ta_put_35 rfl ?_
          refine z_ishr C d_Ta_put_36 ?_
          refine z_i2b C d_Ta_put_37 ?_
          refine z_fact (fun hSR => ?_)
          obtain ⟨g4, h⟩ := zgd_some h
          refine z_bastoreS C zo_45 zk_45 (za_45 hSR) g4 d_Ta_put_38 ?_
          refine z_aload_n C 0 rfl d_Ta_put_39 rfl ?_
          refine z_dup C rfl d_Ta_put_40 ?_
          refine z_getI C 9 (by decide) 1 (by decide) rfl zo_44 zk_44 zfl_9_15 d_Ta_put_41 ?_
          refine z_iconst C (1 : Int32) (by decide) d_Ta_put_44 ?_
          refine z_iadd C d_Ta_put_45 ?_
          refine z_putI C 9 (by decide) 1 (by decide) rfl (Or.inl rfl) zo_44 zk_44 zfl_9_15 (Or.inl rfl) d_Ta_put_46 ?_
          refine z_iinc C 2 (a2 + (-8 : Int32)) [(2, zi (a2 + (-8 : Int32))), (0, zr (some 44)), (1, zi a1)] rfl d_Ta_put_49 (by first | rfl | decide) (by decide) rfl ?_
          refine z_goto C 3 d_Ta_put_52 (by decide) ?_
          refine zq_lsub [1, 2, 0] [(0, zr (some 44)), (1, zi a1), (2, zi (a2 + (-8 : Int32)))] rfl ?_
          exact ih a1 (a2 + (-8 : Int32)) (zwI (zwI S 45 (zI S 44 1).toNatClampNeg ((a1 >>> (a2 &&& 31)).toInt8.toInt32).toInt8.toInt32) 44 1 ((zI (zwI S 45 (zI S 44 1).toNatClampNeg ((a1 >>> (a2 &&& 31)).toInt8.toInt32).toInt8.toInt32) 44 1) + (1 : Int32))) h
set_option maxRecDepth 100000 in
set_option maxHeartbeats 4000000 in
theorem m_Ta_put (l : Launch) {fu : Nat} {a1 : Int32} {S : zSt} {S1 : zSt} (h : f_Ta_put fu a1 S = some S1) : zPM l y_Ta_put b_Ta_put 3 none rm_Ta_put true true [zr (some 44), zi a1] S none S1 := by
  refine zPM_of (by decide) (Nat.le_of_ble_eq_true rfl) (fun p e s m args below meth c G C hret hname => ?_)
  unfold f_Ta_put at h
  refine (?_ : zJ p l e rm_Ta_put s m args below meth c G true 3 0 0 (zQm below G args s rm_Ta_put true none S1) S 0 [(0, zr (some 44)), (1, zi a1)] [])
  refine z_bipush C (24 : Int32) (by decide) d_Ta_put_0 ?_
  refine z_istore_n C [(2, zi (24 : Int32)), (0, zr (some 44)), (1, zi a1)] d_Ta_put_2 rfl (by decide) rfl ?_
  refine zq_lsub [1, 2, 0] [(0, zr (some 44)), (1, zi a1), (2, zi (24 : Int32))] rfl ?_
  exact c_Ta_put_3 C hret fu  a1 (24 : Int32) S h
def f_E_feed (fu : Nat) (a1 : Int32) (a2 : Int32) (a3 : Int32) (a4 : Int32) (a5 : Int32) (S : zSt) : Option (Int32 × zSt) := if ((zI S 44 1) + (20 : Int32)) ≤ (400 : Int32) then zb1 (f_Ta_put fu a1 S) (fun S3 => zb1 (f_Ta_put fu a2 S3) (fun S5 => zb1 (f_Ta_put fu a3 S5) (fun S7 => zb1 (f_Ta_put fu a4 S7) (fun S9 => zb1 (f_Ta_put fu a5 S9) (fun S11 => some (zI S11 44 1, S11)))))) else some ((-1 : Int32), S)
set_option maxRecDepth 100000 in
set_option maxHeartbeats 4000000 in
theorem m_E_feed (l : Launch) {fu : Nat} {a1 : Int32} {a2 : Int32} {a3 : Int32} {a4 : Int32} {a5 : Int32} {S : zSt} {r : Int32} {S1 : zSt} (h : f_E_feed fu a1 a2 a3 a4 a5 S = some (r, S1)) : zPM l y_E_feed b_E_feed 6 (some .int) rm_E_feed true true [zr (some 0), zi a1, zi a2, zi a3, zi a4, zi a5] S (some (zi r)) S1 := by
  refine zPM_of (by decide) (Nat.le_of_ble_eq_true rfl) (fun p e s m args below meth c G C hret hname => ?_)
  unfold f_E_feed at h
  refine (?_ : zJ p l e rm_E_feed s m args below meth c G true 6 0 0 (zQm below G args s rm_E_feed true (some (zi r)) S1) S 0 [(0, zr (some 0)), (1, zi a1), (2, zi a2), (3, zi a3), (4, zi a4), (5, zi a5)] [])
  refine z_aload_n C 0 rfl d_E_feed_0 rfl ?_
  refine z_getF2 C 0 (by decide) 6 (by decide) rfl 44 0 rfl (44) rfl zp_0 zk_0 zfl_0_39 d_E_feed_1 ?_
  refine z_getI C 9 (by decide) 1 (by decide) rfl zo_44 zk_44 zfl_0_170 d_E_feed_4 ?_
  refine z_bipush C (20 : Int32) (by decide) d_E_feed_7 ?_
  refine z_iadd C d_E_feed_9 ?_
  refine z_sipush C (400 : Int32) (by decide) d_E_feed_10 ?_
  rcases zite h with ⟨c1, h⟩ | ⟨c1, h⟩
  · refine z_icmp_let C 18 c1 d_E_feed_13 (by decide) ?_
    refine z_aload_n C 0 rfl d_E_feed_18 rfl ?_
    refine z_getF2 C 0 (by decide) 6 (by decide) rfl 44 0 rfl (44) rfl zp_0 zk_0 zfl_0_39 d_E_feed_19 ?_
    refine z_iload_n C 1 rfl d_E_feed_22 rfl ?_
    obtain ⟨S3, h2, h⟩ := zb1_some h
    refine z_cV C 9 (by decide) (m_Ta_put l h2) mf_Ta_put lk_0_173 in_Ta_put se_Ta_put rfl zo_44 zk_44 ⟨rfl, rfl⟩ ⟨by decide, by decide⟩ ⟨Nat.zero_le _, Nat.zero_le _⟩ rfl _ [] rfl (Nat.le_of_ble_eq_true rfl) d_E_feed_23 ?_
    refine z_aload_n C 0 rfl d_E_feed_26 rfl ?_
    refine z_getF2 C 0 (by decide) 6 (by decide) rfl 44 0 rfl (44) rfl zp_0 zk_0 zfl_0_39 d_E_feed_27 ?_
    refine z_iload_n C 2 rfl d_E_feed_30 rfl ?_
    obtain ⟨S5, h4, h⟩ := zb1_some h
    refine z_cV C 9 (by decide) (m_Ta_put l h4) mf_Ta_put lk_0_173 in_Ta_put se_Ta_put rfl zo_44 zk_44 ⟨rfl, rfl⟩ ⟨by decide, by decide⟩ ⟨Nat.zero_le _, Nat.zero_le _⟩ rfl _ [] rfl (Nat.le_of_ble_eq_true rfl) d_E_feed_31 ?_
    refine z_aload_n C 0 rfl d_E_feed_34 rfl ?_
    refine z_getF2 C 0 (by decide) 6 (by decide) rfl 44 0 rfl (44) rfl zp_0 zk_0 zfl_0_39 d_E_feed_35 ?_
    refine z_iload_n C 3 rfl d_E_feed_38 rfl ?_
    obtain ⟨S7, h6, h⟩ := zb1_some h
    refine z_cV C 9 (by decide) (m_Ta_put l h6) mf_Ta_put lk_0_173 in_Ta_put se_Ta_put rfl zo_44 zk_44 ⟨rfl, rfl⟩ ⟨by decide, by decide⟩ ⟨Nat.zero_le _, Nat.zero_le _⟩ rfl _ [] rfl (Nat.le_of_ble_eq_true rfl) d_E_feed_39 ?_
    refine z_aload_n C 0 rfl d_E_feed_42 rfl ?_
    refine z_getF2 C 0 (by decide) 6 (by decide) rfl 44 0 rfl (44) rfl zp_0 zk_0 zfl_0_39 d_E_feed_43 ?_
    refine z_iload C 4 rfl d_E_feed_46 ?_
    obtain ⟨S9, h8, h⟩ := zb1_some h
    refine z_cV C 9 (by decide) (m_Ta_put l h8) mf_Ta_put lk_0_173 in_Ta_put se_Ta_put rfl zo_44 zk_44 ⟨rfl, rfl⟩ ⟨by decide, by decide⟩ ⟨Nat.zero_le _, Nat.zero_le _⟩ rfl _ [] rfl (Nat.le_of_ble_eq_true rfl) d_E_feed_48 ?_
    refine z_aload_n C 0 rfl d_E_feed_51 rfl ?_
    refine z_getF2 C 0 (by decide) 6 (by decide) rfl 44 0 rfl (44) rfl zp_0 zk_0 zfl_0_39 d_E_feed_52 ?_
    refine z_iload C 5 rfl d_E_feed_55 ?_
    obtain ⟨S11, h10, h⟩ := zb1_some h
    refine z_cV C 9 (by decide) (m_Ta_put l h10) mf_Ta_put lk_0_173 in_Ta_put se_Ta_put rfl zo_44 zk_44 ⟨rfl, rfl⟩ ⟨by decide, by decide⟩ ⟨Nat.zero_le _, Nat.zero_le _⟩ rfl _ [] rfl (Nat.le_of_ble_eq_true rfl) d_E_feed_57 ?_
    refine z_aload_n C 0 rfl d_E_feed_60 rfl ?_
    refine z_getF2 C 0 (by decide) 6 (by decide) rfl 44 0 rfl (44) rfl zp_0 zk_0 zfl_0_39 d_E_feed_61 ?_
    refine z_getI C 9 (by decide) 1 (by decide) rfl zo_44 zk_44 zfl_0_170 d_E_feed_64 ?_
    cases h
    exact z_iret C .int hret rfl ⟨Nat.zero_le _, Nat.zero_le _⟩ d_E_feed_67
  · refine z_icmp_lef C 18 c1 d_E_feed_13 (by decide) ?_
    refine z_iconst C (-1 : Int32) (by decide) d_E_feed_16 ?_
    cases h
    exact z_iret C .int hret rfl ⟨Nat.zero_le _, Nat.zero_le _⟩ d_E_feed_17
def f_E_end (a1 : Int32) (S : zSt) : Option (Int32 × zSt) := if a1 < 0 then some ((-1 : Int32), S) else if a1 ≤ (zI S 44 1) then some (a1, zwI S 44 1 a1) else some ((-1 : Int32), S)
set_option maxRecDepth 100000 in
set_option maxHeartbeats 4000000 in
theorem m_E_end (l : Launch) {a1 : Int32} {S : zSt} {r : Int32} {S1 : zSt} (h : f_E_end a1 S = some (r, S1)) : zPM l y_E_end b_E_end 2 (some .int) rm_E_end true true [zr (some 0), zi a1] S (some (zi r)) S1 := by
  refine zPM_of (by decide) (Nat.le_of_ble_eq_true rfl) (fun p e s m args below meth c G C hret hname => ?_)
  unfold f_E_end at h
  refine (?_ : zJ p l e rm_E_end s m args below meth c G true 2 0 0 (zQm below G args s rm_E_end true (some (zi r)) S1) S 0 [(0, zr (some 0)), (1, zi a1)] [])
  refine z_iload_n C 1 rfl d_E_end_0 rfl ?_
  rcases zite h with ⟨c1, h⟩ | ⟨c1, h⟩
  · refine z_if_ltt C 15 c1 d_E_end_1 (by decide) ?_
    refine z_iconst C (-1 : Int32) (by decide) d_E_end_15 ?_
    cases h
    exact z_iret C .int hret rfl ⟨Nat.zero_le _, Nat.zero_le _⟩ d_E_end_16
  · refine z_if_ltf C 15 c1 d_E_end_1 (by decide) ?_
    refine z_iload_n C 1 rfl d_E_end_4 rfl ?_
    refine z_aload_n C 0 rfl d_E_end_5 rfl ?_
    refine z_getF2 C 0 (by decide) 6 (by decide) rfl 44 0 rfl (44) rfl zp_0 zk_0 zfl_0_39 d_E_end_6 ?_
    refine z_getI C 9 (by decide) 1 (by decide) rfl zo_44 zk_44 zfl_0_170 d_E_end_9 ?_
    rcases zite h with ⟨c2, h⟩ | ⟨c2, h⟩
    · refine z_icmp_let C 17 c2 d_E_end_12 (by decide) ?_
      refine z_aload_n C 0 rfl d_E_end_17 rfl ?_
      refine z_getF2 C 0 (by decide) 6 (by decide) rfl 44 0 rfl (44) rfl zp_0 zk_0 zfl_0_39 d_E_end_18 ?_
      refine z_iload_n C 1 rfl d_E_end_21 rfl ?_
      refine z_putI C 9 (by decide) 1 (by decide) rfl (Or.inl rfl) zo_44 zk_44 zfl_0_170 (Or.inl rfl) d_E_end_22 ?_
      refine z_iload_n C 1 rfl d_E_end_25 rfl ?_
      cases h
      exact z_iret C .int hret rfl ⟨Nat.zero_le _, Nat.zero_le _⟩ d_E_end_26
    · refine z_icmp_lef C 17 c2 d_E_end_12 (by decide) ?_
      refine z_iconst C (-1 : Int32) (by decide) d_E_end_15 ?_
      cases h
      exact z_iret C .int hret rfl ⟨Nat.zero_le _, Nat.zero_le _⟩ d_E_end_16
def f_Ta_byteAt (a1 : Int32) (S : zSt) : Option Int32 := if a1 < 0 then some (256 : Int32) else if (zI S 44 1) ≤ a1 then some (256 : Int32) else if (400 : Int32) ≤ a1 then some (256 : Int32) else zgd (0 ≤ a1 ∧ a1.toNatClampNeg < 400) (some ((zI S 45 a1.toNatClampNeg) &&& (255 : Int32)))
set_option maxRecDepth 100000 in
set_option maxHeartbeats 4000000 in
theorem m_Ta_byteAt (l : Launch) {a1 : Int32} {S : zSt} {r : Int32} (h : f_Ta_byteAt a1 S = some r) : zPM l y_Ta_byteAt b_Ta_byteAt 2 (some .int) rm_Ta_byteAt true true [zr (some 44), zi a1] S (some (zi r)) S := by
  refine zPM_of (by decide) (Nat.le_of_ble_eq_true rfl) (fun p e s m args below meth c G C hret hname => ?_)
  unfold f_Ta_byteAt at h
  refine (?_ : zJ p l e rm_Ta_byteAt s m args below meth c G true 2 0 0 (zQm below G args s rm_Ta_byteAt true (some (zi r)) S) S 0 [(0, zr (some 44)), (1, zi a1)] [])
  refine z_iload_n C 1 rfl d_Ta_byteAt_0 rfl ?_
  rcases zite h with ⟨c1, h⟩ | ⟨c1, h⟩
  · refine z_if_ltt C 34 c1 d_Ta_byteAt_1 (by decide) ?_
    refine z_sipush C (256 : Int32) (by decide) d_Ta_byteAt_34 ?_
    cases h
    exact z_iret C .int hret rfl ⟨Nat.zero_le _, Nat.zero_le _⟩ d_Ta_byteAt_37
  · refine z_if_ltf C 34 c1 d_Ta_byteAt_1 (by decide) ?_
    refine z_iload_n C 1 rfl d_Ta_byteAt_4 rfl ?_
    refine z_aload_n C 0 rfl d_Ta_byteAt_5 rfl ?_
    refine z_getI C 9 (by decide) 1 (by decide) rfl zo_44 zk_44 zfl_9_15 d_Ta_byteAt_6 ?_
    rcases zite h with ⟨c2, h⟩ | ⟨c2, h⟩
    · refine z_icmp_get C 34 c2 d_Ta_byteAt_9 (by decide) ?_
      refine z_sipush C (256 : Int32) (by decide) d_Ta_byteAt_34 ?_
      cases h
      exact z_iret C .int hret rfl ⟨Nat.zero_le _, Nat.zero_le _⟩ d_Ta_byteAt_37
    · refine z_icmp_gef C 34 c2 d_Ta_byteAt_9 (by decide) ?_
      refine z_iload_n C 1 rfl d_Ta_byteAt_12 rfl ?_
      refine z_aload_n C 0 rfl d_Ta_byteAt_13 rfl ?_
      refine z_getF2 C 9 (by decide) 0 (by decide) rfl 1 400 rfl (45) rfl zp_44 zk_44 zfl_9_9 d_Ta_byteAt_14 ?_
      refine z_fact (fun hSR => ?_)
      refine z_alen52S C (400 : Int32) (by decide) zo_45 zk_45 (za_45 hSR) d_Ta_byteAt_17 ?_
      rcases zite h with ⟨c3, h⟩ | ⟨c3, h⟩
      · refine z_icmp_get C 34 c3 d_Ta_byteAt_18 (by decide) ?_
        refine z_sipush C (256 : Int32) (by decide) d_Ta_byteAt_34 ?_
        cases h
        exact z_iret C .int hret rfl ⟨Nat.zero_le _, Nat.zero_le _⟩ d_Ta_byteAt_37
      · refine z_icmp_gef C 34 c3 d_Ta_byteAt_18 (by decide) ?_
        refine z_aload_n C 0 rfl d_Ta_byteAt_21 rfl ?_
        refine z_getF2 C 9 (by decide) 0 (by decide) rfl 1 400 rfl (45) rfl zp_44 zk_44 zfl_9_9 d_Ta_byteAt_22 ?_
        refine z_iload_n C 1 rfl d_Ta_byteAt_25 rfl ?_
        refine z_fact (fun hSR => ?_)
        obtain ⟨g4, h⟩ := zgd_some h
        refine z_baloadS C zo_45 zk_45 (za_45 hSR) g4 d_Ta_byteAt_26 ?_
        refine z_sipush C (255 : Int32) (by decide) d_Ta_byteAt_27 ?_
        refine z_iand C d_Ta_byteAt_30 ?_
        refine z_goto C 37 d_Ta_byteAt_31 (by decide) ?_
        cases h
        exact z_iret C .int hret rfl ⟨Nat.zero_le _, Nat.zero_le _⟩ d_Ta_byteAt_37
def f_E_digFromTape (a1 : Int32) (S : zSt) : Option (Int32 × zSt) := zb1 (f_Ta_byteAt a1 S) (fun r2 => zb1 (f_Ta_byteAt (a1 + (1 : Int32)) S) (fun r4 => zb1 (f_Ta_byteAt (a1 + (2 : Int32)) S) (fun r6 => zb1 (f_Ps_pairOf 1 r2 r4 S) (fun r8 => if r8 = (-1 : Int32) then some ((0 : Int32), S) else if r6 ≤ (50 : Int32) then zb2 (f_Ps_dig 1 r2 r4 r6 S) (fun r12 S13 => some ((1 : Int32), S13)) else some ((0 : Int32), S)))))
set_option maxRecDepth 100000 in
set_option maxHeartbeats 4000000 in
theorem m_E_digFromTape (l : Launch) {a1 : Int32} {S : zSt} {r : Int32} {S1 : zSt} (h : f_E_digFromTape a1 S = some (r, S1)) : zPM l y_E_digFromTape b_E_digFromTape 5 (some .boolean) rm_E_digFromTape true true [zr (some 0), zi a1] S (some (zi r)) S1 := by
  refine zPM_of (by decide) (Nat.le_of_ble_eq_true rfl) (fun p e s m args below meth c G C hret hname => ?_)
  unfold f_E_digFromTape at h
  refine (?_ : zJ p l e rm_E_digFromTape s m args below meth c G true 5 0 0 (zQm below G args s rm_E_digFromTape true (some (zi r)) S1) S 0 [(0, zr (some 0)), (1, zi a1)] [])
  refine z_aload_n C 0 rfl d_E_digFromTape_0 rfl ?_
  refine z_getF2 C 0 (by decide) 6 (by decide) rfl 44 0 rfl (44) rfl zp_0 zk_0 zfl_0_39 d_E_digFromTape_1 ?_
  refine z_iload_n C 1 rfl d_E_digFromTape_4 rfl ?_
  obtain ⟨r2, h1, h⟩ := zb1_some h
  refine z_cV C 9 (by decide) (m_Ta_byteAt l h1) mf_Ta_byteAt lk_0_363 in_Ta_byteAt se_Ta_byteAt rfl zo_44 zk_44 ⟨rfl, rfl⟩ ⟨by decide, by decide⟩ ⟨Nat.zero_le _, Nat.zero_le _⟩ rfl _ [] rfl (Nat.le_of_ble_eq_true rfl) d_E_digFromTape_5 ?_
  refine z_istore_n C [(2, zi r2), (0, zr (some 0)), (1, zi a1)] d_E_digFromTape_8 rfl (by decide) rfl ?_
  refine z_aload_n C 1 rfl d_E_digFromTape_9 rfl ?_
  refine z_getF2 C 0 (by decide) 6 (by decide) rfl 44 0 rfl (44) rfl zp_0 zk_0 zfl_0_39 d_E_digFromTape_10 ?_
  refine z_iload_n C 2 rfl d_E_digFromTape_13 rfl ?_
  refine z_iconst C (1 : Int32) (by decide) d_E_digFromTape_14 ?_
  refine z_iadd C d_E_digFromTape_15 ?_
  obtain ⟨r4, h3, h⟩ := zb1_some h
  refine z_cV C 9 (by decide) (m_Ta_byteAt l h3) mf_Ta_byteAt lk_0_363 in_Ta_byteAt se_Ta_byteAt rfl zo_44 zk_44 ⟨rfl, rfl⟩ ⟨by decide, by decide⟩ ⟨Nat.zero_le _, Nat.zero_le _⟩ rfl _ [] rfl (Nat.le_of_ble_eq_true rfl) d_E_digFromTape_16 ?_
  refine z_istore_n C [(3, zi r4), (2, zi r2), (0, zr (some 0)), (1, zi a1)] d_E_digFromTape_19 rfl (by decide) rfl ?_
  refine z_aload_n C 2 rfl d_E_digFromTape_20 rfl ?_
  refine z_getF2 C 0 (by decide) 6 (by decide) rfl 44 0 rfl (44) rfl zp_0 zk_0 zfl_0_39 d_E_digFromTape_21 ?_
  refine z_iload_n C 3 rfl d_E_digFromTape_24 rfl ?_
  refine z_iconst C (2 : Int32) (by decide) d_E_digFromTape_25 ?_
  refine z_iadd C d_E_digFromTape_26 ?_
  obtain ⟨r6, h5, h⟩ := zb1_some h
  refine z_cV C 9 (by decide) (m_Ta_byteAt l h5) mf_Ta_byteAt lk_0_363 in_Ta_byteAt se_Ta_byteAt rfl zo_44 zk_44 ⟨rfl, rfl⟩ ⟨by decide, by decide⟩ ⟨Nat.zero_le _, Nat.zero_le _⟩ rfl _ [] rfl (Nat.le_of_ble_eq_true rfl) d_E_digFromTape_27 ?_
  refine z_istore C [(4, zi r6), (3, zi r4), (2, zi r2), (0, zr (some 0)), (1, zi a1)] d_E_digFromTape_30 (by decide) rfl ?_
  refine z_aload_n C 3 rfl d_E_digFromTape_32 rfl ?_
  refine z_getF2 C 0 (by decide) 0 (by decide) rfl 1 0 rfl (1) rfl zp_0 zk_0 zfl_0_12 d_E_digFromTape_33 ?_
  refine z_iload_n C 2 rfl d_E_digFromTape_36 rfl ?_
  refine z_iload_n C 1 rfl d_E_digFromTape_37 rfl ?_
  obtain ⟨r8, h7, h⟩ := zb1_some h
  refine z_cV C 5 (by decide) (m_Ps_pairOf l zk_1 (Nat.le_of_ble_eq_true rfl) h7) mf_Ps_pairOf lk_0_148 in_Ps_pairOf se_Ps_pairOf rfl zo_1 zk_1 ⟨rfl, rfl⟩ ⟨by decide, by decide⟩ ⟨Nat.zero_le _, Nat.zero_le _⟩ rfl _ [] rfl (Nat.le_of_ble_eq_true rfl) d_E_digFromTape_38 ?_
  refine z_iconst C (-1 : Int32) (by decide) d_E_digFromTape_41 ?_
  rcases zite h with ⟨c9, h⟩ | ⟨c9, h⟩
  · refine z_icmp_eqt C 52 c9 d_E_digFromTape_42 (by decide) ?_
    refine z_iconst C (0 : Int32) (by decide) d_E_digFromTape_52 ?_
    cases h
    exact z_iret C .boolean hret rfl ⟨Nat.zero_le _, Nat.zero_le _⟩ d_E_digFromTape_53
  · refine z_icmp_eqf C 52 c9 d_E_digFromTape_42 (by decide) ?_
    refine z_iload C 0 rfl d_E_digFromTape_45 ?_
    refine z_bipush C (50 : Int32) (by decide) d_E_digFromTape_47 ?_
    rcases zite h with ⟨c10, h⟩ | ⟨c10, h⟩
    · refine z_icmp_let C 54 c10 d_E_digFromTape_49 (by decide) ?_
      refine z_aload_n C 3 rfl d_E_digFromTape_54 rfl ?_
      refine z_getF2 C 0 (by decide) 0 (by decide) rfl 1 0 rfl (1) rfl zp_0 zk_0 zfl_0_12 d_E_digFromTape_55 ?_
      refine z_iload_n C 2 rfl d_E_digFromTape_58 rfl ?_
      refine z_iload_n C 1 rfl d_E_digFromTape_59 rfl ?_
      refine z_iload C 0 rfl d_E_digFromTape_60 ?_
      obtain ⟨r12, S13, h11, h⟩ := zb2_some h
      refine z_cV C 5 (by decide) (m_Ps_dig l zk_1 (Nat.le_of_ble_eq_true rfl) h11) mf_Ps_dig lk_0_130 in_Ps_dig se_Ps_dig rfl zo_1 zk_1 ⟨rfl, rfl⟩ ⟨by decide, by decide⟩ ⟨Nat.zero_le _, Nat.zero_le _⟩ rfl _ [] rfl (Nat.le_of_ble_eq_true rfl) d_E_digFromTape_62 ?_
      refine z_pop C rfl d_E_digFromTape_65 ?_
      refine z_iconst C (1 : Int32) (by decide) d_E_digFromTape_66 ?_
      cases h
      exact z_iret C .boolean hret rfl ⟨Nat.zero_le _, Nat.zero_le _⟩ d_E_digFromTape_67
    · refine z_icmp_lef C 54 c10 d_E_digFromTape_49 (by decide) ?_
      refine z_iconst C (0 : Int32) (by decide) d_E_digFromTape_52 ?_
      cases h
      exact z_iret C .boolean hret rfl ⟨Nat.zero_le _, Nat.zero_le _⟩ d_E_digFromTape_53

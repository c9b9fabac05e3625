/-! printed by dec4.py: 1d.class -/
abbrev rm_Pa_unreached : Room := { frames := 3, cells := 0, slots := 0, locals := 108 }
abbrev rm_E_never : Room := { frames := 6, cells := 0, slots := 0, locals := 198 }
abbrev rm_Pa_lastDay : Room := { frames := 2, cells := 0, slots := 0, locals := 85 }
abbrev rm_Pa_middle : Room := { frames := 3, cells := 0, slots := 0, locals := 109 }
abbrev rm_E_centre : Room := { frames := 6, cells := 0, slots := 0, locals := 198 }
abbrev rm_Ps_hasAll : Room := { frames := 1, cells := 0, slots := 0, locals := 64 }
abbrev rm_Ro_daysOf : Room := { frames := 3, cells := 0, slots := 0, locals := 108 }
abbrev rm_Ro_daysBy : Room := { frames := 1, cells := 0, slots := 0, locals := 64 }
abbrev rm_Ro_fewestBehind : Room := { frames := 2, cells := 0, slots := 0, locals := 88 }
abbrev rm_Ro_plan : Room := { frames := 4, cells := 0, slots := 0, locals := 131 }
abbrev rm_Ro_days : Room := { frames := 3, cells := 0, slots := 0, locals := 113 }
abbrev rm_Ro_nextStop : Room := { frames := 3, cells := 0, slots := 0, locals := 113 }
abbrev rm_Ro_stop : Room := { frames := 4, cells := 0, slots := 0, locals := 137 }
abbrev rm_E_round : Room := { frames := 6, cells := 0, slots := 0, locals := 198 }
abbrev rm_Pa_fillCuts : Room := { frames := 4, cells := 0, slots := 0, locals := 149 }
abbrev rm_Pa_cutOf : Room := { frames := 2, cells := 0, slots := 0, locals := 85 }
abbrev rm_Pa_lightestSet : Room := { frames := 3, cells := 0, slots := 0, locals := 109 }
abbrev rm_E_bound : Room := { frames := 5, cells := 0, slots := 0, locals := 176 }
abbrev rm_Pa_nearestOf : Room := { frames := 2, cells := 0, slots := 0, locals := 85 }
abbrev rm_E_share : Room := { frames := 6, cells := 0, slots := 0, locals := 198 }
abbrev rm_Pa_isShut : Room := { frames := 2, cells := 0, slots := 0, locals := 85 }
abbrev rm_Pa_daysThrough : Room := { frames := 2, cells := 0, slots := 0, locals := 85 }
abbrev rm_Ou_leftFrom : Room := { frames := 1, cells := 0, slots := 0, locals := 64 }
abbrev rm_Ou_daysBy : Room := { frames := 3, cells := 0, slots := 0, locals := 107 }
abbrev rm_Ou_shorten : Room := { frames := 4, cells := 0, slots := 0, locals := 132 }
abbrev rm_Ou_fill : Room := { frames := 5, cells := 0, slots := 0, locals := 157 }
abbrev rm_Ou_days : Room := { frames := 2, cells := 0, slots := 0, locals := 87 }
abbrev rm_Ou_nextOnWay : Room := { frames := 4, cells := 0, slots := 0, locals := 132 }
abbrev rm_Ou_onWay : Room := { frames := 5, cells := 0, slots := 0, locals := 156 }
abbrev rm_E_sea : Room := { frames := 6, cells := 0, slots := 0, locals := 198 }
abbrev rm_Ps_hear : Room := { frames := 1, cells := 0, slots := 0, locals := 64 }
abbrev rm_E_heard : Room := { frames := 2, cells := 0, slots := 0, locals := 86 }
abbrev rm_E_forget : Room := { frames := 1, cells := 0, slots := 0, locals := 64 }
abbrev rm_Ru_startBy : Room := { frames := 3, cells := 0, slots := 0, locals := 108 }
abbrev rm_Ru_fill : Room := { frames := 4, cells := 0, slots := 0, locals := 134 }
def y_Pa_unreached : MethodName := ⟨zNm 4, "unreached", "(I)I"⟩
abbrev b_Pa_unreached : ByteArray := prog_5_method_12_code
theorem d_Pa_unreached_0 : decode b_Pa_unreached 0 = .ok (.aload_n 0, 1) := by decide +kernel
theorem d_Pa_unreached_1 : decode b_Pa_unreached 1 = .ok (.iload_n 1, 1) := by decide +kernel
theorem d_Pa_unreached_2 : decode b_Pa_unreached 2 = .ok (.invokevirtual 61, 3) := by decide +kernel
theorem d_Pa_unreached_5 : decode b_Pa_unreached 5 = .ok (.ifCond .ne 5, 3) := by decide +kernel
theorem d_Pa_unreached_8 : decode b_Pa_unreached 8 = .ok (.iconst (-1), 1) := by decide +kernel
theorem d_Pa_unreached_9 : decode b_Pa_unreached 9 = .ok (.ireturn, 1) := by decide +kernel
theorem d_Pa_unreached_10 : decode b_Pa_unreached 10 = .ok (.iconst 0, 1) := by decide +kernel
theorem d_Pa_unreached_11 : decode b_Pa_unreached 11 = .ok (.istore_n 2, 1) := by decide +kernel
theorem d_Pa_unreached_12 : decode b_Pa_unreached 12 = .ok (.iconst 0, 1) := by decide +kernel
theorem d_Pa_unreached_13 : decode b_Pa_unreached 13 = .ok (.istore_n 3, 1) := by decide +kernel
theorem d_Pa_unreached_14 : decode b_Pa_unreached 14 = .ok (.iload_n 3, 1) := by decide +kernel
theorem d_Pa_unreached_15 : decode b_Pa_unreached 15 = .ok (.aload_n 0, 1) := by decide +kernel
theorem d_Pa_unreached_16 : decode b_Pa_unreached 16 = .ok (.getfield 9, 3) := by decide +kernel
theorem d_Pa_unreached_19 : decode b_Pa_unreached 19 = .ok (.if_icmp .ge 25, 3) := by decide +kernel
theorem d_Pa_unreached_22 : decode b_Pa_unreached 22 = .ok (.aload_n 0, 1) := by decide +kernel
theorem d_Pa_unreached_23 : decode b_Pa_unreached 23 = .ok (.iload_n 1, 1) := by decide +kernel
theorem d_Pa_unreached_24 : decode b_Pa_unreached 24 = .ok (.iload_n 3, 1) := by decide +kernel
theorem d_Pa_unreached_25 : decode b_Pa_unreached 25 = .ok (.invokevirtual 64, 3) := by decide +kernel
theorem d_Pa_unreached_28 : decode b_Pa_unreached 28 = .ok (.iconst (-1), 1) := by decide +kernel
theorem d_Pa_unreached_29 : decode b_Pa_unreached 29 = .ok (.if_icmp .ne 9, 3) := by decide +kernel
theorem d_Pa_unreached_32 : decode b_Pa_unreached 32 = .ok (.iload_n 2, 1) := by decide +kernel
theorem d_Pa_unreached_33 : decode b_Pa_unreached 33 = .ok (.iconst 1, 1) := by decide +kernel
theorem d_Pa_unreached_34 : decode b_Pa_unreached 34 = .ok (.iload_n 3, 1) := by decide +kernel
theorem d_Pa_unreached_35 : decode b_Pa_unreached 35 = .ok (.ishl, 1) := by decide +kernel
theorem d_Pa_unreached_36 : decode b_Pa_unreached 36 = .ok (.ior, 1) := by decide +kernel
theorem d_Pa_unreached_37 : decode b_Pa_unreached 37 = .ok (.istore_n 2, 1) := by decide +kernel
theorem d_Pa_unreached_38 : decode b_Pa_unreached 38 = .ok (.iinc 3 1, 3) := by decide +kernel
theorem d_Pa_unreached_41 : decode b_Pa_unreached 41 = .ok (.goto (-27), 3) := by decide +kernel
theorem d_Pa_unreached_44 : decode b_Pa_unreached 44 = .ok (.iload_n 2, 1) := by decide +kernel
theorem d_Pa_unreached_45 : decode b_Pa_unreached 45 = .ok (.ireturn, 1) := by decide +kernel
theorem mf_Pa_unreached : zMF y_Pa_unreached b_Pa_unreached 4 (some .int) 1 := ⟨zGW_in 1036 (by decide +kernel) (by decide +kernel), zGW_in 131 (by decide +kernel) (by decide +kernel), by decide +kernel⟩
theorem in_Pa_unreached : Cond.instanceMethod y_Pa_unreached ∈ zGW := zGW_in 1034 (by decide +kernel) (by decide +kernel)
theorem se_Pa_unreached : Cond.selects y_Pa_unreached.cls y_Pa_unreached y_Pa_unreached ∈ zGW := zGW_in 1035 (by decide +kernel) (by decide +kernel)
def y_E_never : MethodName := ⟨zNm 0, "never", "(I)I"⟩
abbrev b_E_never : ByteArray := prog_1_method_23_code
theorem d_E_never_0 : decode b_E_never 0 = .ok (.aload_n 0, 1) := by decide +kernel
theorem d_E_never_1 : decode b_E_never 1 = .ok (.invokevirtual 226, 3) := by decide +kernel
theorem d_E_never_4 : decode b_E_never 4 = .ok (.aload_n 0, 1) := by decide +kernel
theorem d_E_never_5 : decode b_E_never 5 = .ok (.getfield 60, 3) := by decide +kernel
theorem d_E_never_8 : decode b_E_never 8 = .ok (.iload_n 1, 1) := by decide +kernel
theorem d_E_never_9 : decode b_E_never 9 = .ok (.invokevirtual 235, 3) := by decide +kernel
theorem d_E_never_12 : decode b_E_never 12 = .ok (.ireturn, 1) := by decide +kernel
theorem mf_E_never : zMF y_E_never b_E_never 2 (some .int) 1 := ⟨zGW_in 1032 (by decide +kernel) (by decide +kernel), zGW_in 124 (by decide +kernel) (by decide +kernel), by decide +kernel⟩
theorem in_E_never : Cond.instanceMethod y_E_never ∈ zGW := zGW_in 1030 (by decide +kernel) (by decide +kernel)
theorem se_E_never : Cond.selects y_E_never.cls y_E_never y_E_never ∈ zGW := zGW_in 1031 (by decide +kernel) (by decide +kernel)
def y_Pa_lastDay : MethodName := ⟨zNm 4, "lastDay", "(I)I"⟩
abbrev b_Pa_lastDay : ByteArray := prog_5_method_13_code
theorem d_Pa_lastDay_0 : decode b_Pa_lastDay 0 = .ok (.iconst 0, 1) := by decide +kernel
theorem d_Pa_lastDay_1 : decode b_Pa_lastDay 1 = .ok (.istore_n 2, 1) := by decide +kernel
theorem d_Pa_lastDay_2 : decode b_Pa_lastDay 2 = .ok (.iconst 0, 1) := by decide +kernel
theorem d_Pa_lastDay_3 : decode b_Pa_lastDay 3 = .ok (.istore_n 3, 1) := by decide +kernel
theorem d_Pa_lastDay_4 : decode b_Pa_lastDay 4 = .ok (.aload_n 0, 1) := by decide +kernel
theorem d_Pa_lastDay_5 : decode b_Pa_lastDay 5 = .ok (.iload_n 1, 1) := by decide +kernel
theorem d_Pa_lastDay_6 : decode b_Pa_lastDay 6 = .ok (.invokevirtual 61, 3) := by decide +kernel
theorem d_Pa_lastDay_9 : decode b_Pa_lastDay 9 = .ok (.ifCond .eq 42, 3) := by decide +kernel
theorem d_Pa_lastDay_12 : decode b_Pa_lastDay 12 = .ok (.iload_n 3, 1) := by decide +kernel
theorem d_Pa_lastDay_13 : decode b_Pa_lastDay 13 = .ok (.aload_n 0, 1) := by decide +kernel
theorem d_Pa_lastDay_14 : decode b_Pa_lastDay 14 = .ok (.getfield 9, 3) := by decide +kernel
theorem d_Pa_lastDay_17 : decode b_Pa_lastDay 17 = .ok (.if_icmp .ge 34, 3) := by decide +kernel
theorem d_Pa_lastDay_20 : decode b_Pa_lastDay 20 = .ok (.aload_n 0, 1) := by decide +kernel
theorem d_Pa_lastDay_21 : decode b_Pa_lastDay 21 = .ok (.getfield 22, 3) := by decide +kernel
theorem d_Pa_lastDay_24 : decode b_Pa_lastDay 24 = .ok (.iload_n 1, 1) := by decide +kernel
theorem d_Pa_lastDay_25 : decode b_Pa_lastDay 25 = .ok (.iload_n 3, 1) := by decide +kernel
theorem d_Pa_lastDay_26 : decode b_Pa_lastDay 26 = .ok (.invokestatic 50, 3) := by decide +kernel
theorem d_Pa_lastDay_29 : decode b_Pa_lastDay 29 = .ok (.iaload, 1) := by decide +kernel
theorem d_Pa_lastDay_30 : decode b_Pa_lastDay 30 = .ok (.istore 4, 2) := by decide +kernel
theorem d_Pa_lastDay_32 : decode b_Pa_lastDay 32 = .ok (.iload 4, 2) := by decide +kernel
theorem d_Pa_lastDay_34 : decode b_Pa_lastDay 34 = .ok (.iload_n 2, 1) := by decide +kernel
theorem d_Pa_lastDay_35 : decode b_Pa_lastDay 35 = .ok (.if_icmp .le 8, 3) := by decide +kernel
theorem d_Pa_lastDay_38 : decode b_Pa_lastDay 38 = .ok (.iload 4, 2) := by decide +kernel
theorem d_Pa_lastDay_40 : decode b_Pa_lastDay 40 = .ok (.goto 4, 3) := by decide +kernel
theorem d_Pa_lastDay_43 : decode b_Pa_lastDay 43 = .ok (.iload_n 2, 1) := by decide +kernel
theorem d_Pa_lastDay_44 : decode b_Pa_lastDay 44 = .ok (.istore_n 2, 1) := by decide +kernel
theorem d_Pa_lastDay_45 : decode b_Pa_lastDay 45 = .ok (.iinc 3 1, 3) := by decide +kernel
theorem d_Pa_lastDay_48 : decode b_Pa_lastDay 48 = .ok (.goto (-44), 3) := by decide +kernel
theorem d_Pa_lastDay_51 : decode b_Pa_lastDay 51 = .ok (.iload_n 2, 1) := by decide +kernel
theorem d_Pa_lastDay_52 : decode b_Pa_lastDay 52 = .ok (.ireturn, 1) := by decide +kernel
theorem mf_Pa_lastDay : zMF y_Pa_lastDay b_Pa_lastDay 5 (some .int) 1 := ⟨zGW_in 1048 (by decide +kernel) (by decide +kernel), zGW_in 131 (by decide +kernel) (by decide +kernel), by decide +kernel⟩
theorem in_Pa_lastDay : Cond.instanceMethod y_Pa_lastDay ∈ zGW := zGW_in 1046 (by decide +kernel) (by decide +kernel)
theorem se_Pa_lastDay : Cond.selects y_Pa_lastDay.cls y_Pa_lastDay y_Pa_lastDay ∈ zGW := zGW_in 1047 (by decide +kernel) (by decide +kernel)
def y_Pa_middle : MethodName := ⟨zNm 4, "middle", "()I"⟩
abbrev b_Pa_middle : ByteArray := prog_5_method_14_code
theorem d_Pa_middle_0 : decode b_Pa_middle 0 = .ok (.iconst (-1), 1) := by decide +kernel
theorem d_Pa_middle_1 : decode b_Pa_middle 1 = .ok (.istore_n 1, 1) := by decide +kernel
theorem d_Pa_middle_2 : decode b_Pa_middle 2 = .ok (.ldc 49, 2) := by decide +kernel
theorem d_Pa_middle_4 : decode b_Pa_middle 4 = .ok (.istore_n 2, 1) := by decide +kernel
theorem d_Pa_middle_5 : decode b_Pa_middle 5 = .ok (.iconst 0, 1) := by decide +kernel
theorem d_Pa_middle_6 : decode b_Pa_middle 6 = .ok (.istore_n 3, 1) := by decide +kernel
theorem d_Pa_middle_7 : decode b_Pa_middle 7 = .ok (.iload_n 3, 1) := by decide +kernel
theorem d_Pa_middle_8 : decode b_Pa_middle 8 = .ok (.aload_n 0, 1) := by decide +kernel
theorem d_Pa_middle_9 : decode b_Pa_middle 9 = .ok (.getfield 9, 3) := by decide +kernel
theorem d_Pa_middle_12 : decode b_Pa_middle 12 = .ok (.if_icmp .ge 27, 3) := by decide +kernel
theorem d_Pa_middle_15 : decode b_Pa_middle 15 = .ok (.aload_n 0, 1) := by decide +kernel
theorem d_Pa_middle_16 : decode b_Pa_middle 16 = .ok (.iload_n 3, 1) := by decide +kernel
theorem d_Pa_middle_17 : decode b_Pa_middle 17 = .ok (.invokevirtual 70, 3) := by decide +kernel
theorem d_Pa_middle_20 : decode b_Pa_middle 20 = .ok (.istore 4, 2) := by decide +kernel
theorem d_Pa_middle_22 : decode b_Pa_middle 22 = .ok (.iload 4, 2) := by decide +kernel
theorem d_Pa_middle_24 : decode b_Pa_middle 24 = .ok (.iload_n 2, 1) := by decide +kernel
theorem d_Pa_middle_25 : decode b_Pa_middle 25 = .ok (.if_icmp .ge 8, 3) := by decide +kernel
theorem d_Pa_middle_28 : decode b_Pa_middle 28 = .ok (.iload_n 3, 1) := by decide +kernel
theorem d_Pa_middle_29 : decode b_Pa_middle 29 = .ok (.istore_n 1, 1) := by decide +kernel
theorem d_Pa_middle_30 : decode b_Pa_middle 30 = .ok (.iload 4, 2) := by decide +kernel
theorem d_Pa_middle_32 : decode b_Pa_middle 32 = .ok (.istore_n 2, 1) := by decide +kernel
theorem d_Pa_middle_33 : decode b_Pa_middle 33 = .ok (.iinc 3 1, 3) := by decide +kernel
theorem d_Pa_middle_36 : decode b_Pa_middle 36 = .ok (.goto (-29), 3) := by decide +kernel
theorem d_Pa_middle_39 : decode b_Pa_middle 39 = .ok (.iload_n 1, 1) := by decide +kernel
theorem d_Pa_middle_40 : decode b_Pa_middle 40 = .ok (.ireturn, 1) := by decide +kernel
theorem mf_Pa_middle : zMF y_Pa_middle b_Pa_middle 5 (some .int) 0 := ⟨zGW_in 1044 (by decide +kernel) (by decide +kernel), zGW_in 131 (by decide +kernel) (by decide +kernel), by decide +kernel⟩
theorem in_Pa_middle : Cond.instanceMethod y_Pa_middle ∈ zGW := zGW_in 1042 (by decide +kernel) (by decide +kernel)
theorem se_Pa_middle : Cond.selects y_Pa_middle.cls y_Pa_middle y_Pa_middle ∈ zGW := zGW_in 1043 (by decide +kernel) (by decide +kernel)
def y_E_centre : MethodName := ⟨zNm 0, "centre", "(I)I"⟩
abbrev b_E_centre : ByteArray := prog_1_method_24_code
theorem d_E_centre_0 : decode b_E_centre 0 = .ok (.iload_n 1, 1) := by decide +kernel
theorem d_E_centre_1 : decode b_E_centre 1 = .ok (.ifCond .eq 10, 3) := by decide +kernel
theorem d_E_centre_4 : decode b_E_centre 4 = .ok (.iload_n 1, 1) := by decide +kernel
theorem d_E_centre_5 : decode b_E_centre 5 = .ok (.iconst 1, 1) := by decide +kernel
theorem d_E_centre_6 : decode b_E_centre 6 = .ok (.if_icmp .eq 5, 3) := by decide +kernel
theorem d_E_centre_9 : decode b_E_centre 9 = .ok (.iconst (-1), 1) := by decide +kernel
theorem d_E_centre_10 : decode b_E_centre 10 = .ok (.ireturn, 1) := by decide +kernel
theorem d_E_centre_11 : decode b_E_centre 11 = .ok (.aload_n 0, 1) := by decide +kernel
theorem d_E_centre_12 : decode b_E_centre 12 = .ok (.invokevirtual 226, 3) := by decide +kernel
theorem d_E_centre_15 : decode b_E_centre 15 = .ok (.aload_n 0, 1) := by decide +kernel
theorem d_E_centre_16 : decode b_E_centre 16 = .ok (.getfield 60, 3) := by decide +kernel
theorem d_E_centre_19 : decode b_E_centre 19 = .ok (.invokevirtual 238, 3) := by decide +kernel
theorem d_E_centre_22 : decode b_E_centre 22 = .ok (.istore_n 2, 1) := by decide +kernel
theorem d_E_centre_23 : decode b_E_centre 23 = .ok (.iload_n 1, 1) := by decide +kernel
theorem d_E_centre_24 : decode b_E_centre 24 = .ok (.ifCond .eq 8, 3) := by decide +kernel
theorem d_E_centre_27 : decode b_E_centre 27 = .ok (.iload_n 2, 1) := by decide +kernel
theorem d_E_centre_28 : decode b_E_centre 28 = .ok (.iconst (-1), 1) := by decide +kernel
theorem d_E_centre_29 : decode b_E_centre 29 = .ok (.if_icmp .ne 7, 3) := by decide +kernel
theorem d_E_centre_32 : decode b_E_centre 32 = .ok (.iload_n 2, 1) := by decide +kernel
theorem d_E_centre_33 : decode b_E_centre 33 = .ok (.goto 11, 3) := by decide +kernel
theorem d_E_centre_36 : decode b_E_centre 36 = .ok (.aload_n 0, 1) := by decide +kernel
theorem d_E_centre_37 : decode b_E_centre 37 = .ok (.getfield 60, 3) := by decide +kernel
theorem d_E_centre_40 : decode b_E_centre 40 = .ok (.iload_n 2, 1) := by decide +kernel
theorem d_E_centre_41 : decode b_E_centre 41 = .ok (.invokevirtual 242, 3) := by decide +kernel
theorem d_E_centre_44 : decode b_E_centre 44 = .ok (.ireturn, 1) := by decide +kernel
theorem mf_E_centre : zMF y_E_centre b_E_centre 3 (some .int) 1 := ⟨zGW_in 1040 (by decide +kernel) (by decide +kernel), zGW_in 124 (by decide +kernel) (by decide +kernel), by decide +kernel⟩
theorem in_E_centre : Cond.instanceMethod y_E_centre ∈ zGW := zGW_in 1038 (by decide +kernel) (by decide +kernel)
theorem se_E_centre : Cond.selects y_E_centre.cls y_E_centre y_E_centre ∈ zGW := zGW_in 1039 (by decide +kernel) (by decide +kernel)
def y_Ps_hasAll : MethodName := ⟨zNm 5, "hasAll", "(I)Z"⟩
abbrev b_Ps_hasAll : ByteArray := prog_6_method_4_code
theorem d_Ps_hasAll_0 : decode b_Ps_hasAll 0 = .ok (.iload_n 1, 1) := by decide +kernel
theorem d_Ps_hasAll_1 : decode b_Ps_hasAll 1 = .ok (.ifCond .lt 17, 3) := by decide +kernel
theorem d_Ps_hasAll_4 : decode b_Ps_hasAll 4 = .ok (.iload_n 1, 1) := by decide +kernel
theorem d_Ps_hasAll_5 : decode b_Ps_hasAll 5 = .ok (.iconst 1, 1) := by decide +kernel
theorem d_Ps_hasAll_6 : decode b_Ps_hasAll 6 = .ok (.aload_n 0, 1) := by decide +kernel
theorem d_Ps_hasAll_7 : decode b_Ps_hasAll 7 = .ok (.getfield 9, 3) := by decide +kernel
theorem d_Ps_hasAll_10 : decode b_Ps_hasAll 10 = .ok (.ishl, 1) := by decide +kernel
theorem d_Ps_hasAll_11 : decode b_Ps_hasAll 11 = .ok (.if_icmp .ge 7, 3) := by decide +kernel
theorem d_Ps_hasAll_14 : decode b_Ps_hasAll 14 = .ok (.iconst 1, 1) := by decide +kernel
theorem d_Ps_hasAll_15 : decode b_Ps_hasAll 15 = .ok (.goto 4, 3) := by decide +kernel
theorem d_Ps_hasAll_18 : decode b_Ps_hasAll 18 = .ok (.iconst 0, 1) := by decide +kernel
theorem d_Ps_hasAll_19 : decode b_Ps_hasAll 19 = .ok (.ireturn, 1) := by decide +kernel
theorem mf_Ps_hasAll : zMF y_Ps_hasAll b_Ps_hasAll 2 (some .boolean) 1 := ⟨zGW_in 1057 (by decide +kernel) (by decide +kernel), zGW_in 125 (by decide +kernel) (by decide +kernel), by decide +kernel⟩
theorem in_Ps_hasAll : Cond.instanceMethod y_Ps_hasAll ∈ zGW := zGW_in 1055 (by decide +kernel) (by decide +kernel)
theorem se_Ps_hasAll : Cond.selects y_Ps_hasAll.cls y_Ps_hasAll y_Ps_hasAll ∈ zGW := zGW_in 1056 (by decide +kernel) (by decide +kernel)
def y_Ro_daysOf : MethodName := ⟨zNm 7, "daysOf", "(LEelClerk$Paper;II)I"⟩
abbrev b_Ro_daysOf : ByteArray := prog_8_method_3_code
theorem d_Ro_daysOf_0 : decode b_Ro_daysOf 0 = .ok (.aload_n 0, 1) := by decide +kernel
theorem d_Ro_daysOf_1 : decode b_Ro_daysOf 1 = .ok (.iload_n 1, 1) := by decide +kernel
theorem d_Ro_daysOf_2 : decode b_Ro_daysOf 2 = .ok (.iload_n 2, 1) := by decide +kernel
theorem d_Ro_daysOf_3 : decode b_Ro_daysOf 3 = .ok (.invokevirtual 41, 3) := by decide +kernel
theorem d_Ro_daysOf_6 : decode b_Ro_daysOf 6 = .ok (.istore_n 3, 1) := by decide +kernel
theorem d_Ro_daysOf_7 : decode b_Ro_daysOf 7 = .ok (.iload_n 3, 1) := by decide +kernel
theorem d_Ro_daysOf_8 : decode b_Ro_daysOf 8 = .ok (.iconst (-1), 1) := by decide +kernel
theorem d_Ro_daysOf_9 : decode b_Ro_daysOf 9 = .ok (.if_icmp .ne 8, 3) := by decide +kernel
theorem d_Ro_daysOf_12 : decode b_Ro_daysOf 12 = .ok (.ldc 44, 2) := by decide +kernel
theorem d_Ro_daysOf_14 : decode b_Ro_daysOf 14 = .ok (.goto 4, 3) := by decide +kernel
theorem d_Ro_daysOf_17 : decode b_Ro_daysOf 17 = .ok (.iload_n 3, 1) := by decide +kernel
theorem d_Ro_daysOf_18 : decode b_Ro_daysOf 18 = .ok (.ireturn, 1) := by decide +kernel
theorem mf_Ro_daysOf : zMF y_Ro_daysOf b_Ro_daysOf 4 (some .int) 3 := ⟨zGW_in 1064 (by decide +kernel) (by decide +kernel), zGW_in 132 (by decide +kernel) (by decide +kernel), by decide +kernel⟩
theorem st_Ro_daysOf : Cond.static y_Ro_daysOf ∈ zGW := zGW_in 1063 (by decide +kernel) (by decide +kernel)
def y_Ro_daysBy : MethodName := ⟨zNm 7, "daysBy", "(III)I"⟩
abbrev b_Ro_daysBy : ByteArray := prog_8_method_4_code
theorem d_Ro_daysBy_0 : decode b_Ro_daysBy 0 = .ok (.iload_n 2, 1) := by decide +kernel
theorem d_Ro_daysBy_1 : decode b_Ro_daysBy 1 = .ok (.iconst (-1), 1) := by decide +kernel
theorem d_Ro_daysBy_2 : decode b_Ro_daysBy 2 = .ok (.if_icmp .ne 12, 3) := by decide +kernel
theorem d_Ro_daysBy_5 : decode b_Ro_daysBy 5 = .ok (.aload_n 0, 1) := by decide +kernel
theorem d_Ro_daysBy_6 : decode b_Ro_daysBy 6 = .ok (.getfield 19, 3) := by decide +kernel
theorem d_Ro_daysBy_9 : decode b_Ro_daysBy 9 = .ok (.iload_n 3, 1) := by decide +kernel
theorem d_Ro_daysBy_10 : decode b_Ro_daysBy 10 = .ok (.iaload, 1) := by decide +kernel
theorem d_Ro_daysBy_11 : decode b_Ro_daysBy 11 = .ok (.goto 14, 3) := by decide +kernel
theorem d_Ro_daysBy_14 : decode b_Ro_daysBy 14 = .ok (.aload_n 0, 1) := by decide +kernel
theorem d_Ro_daysBy_15 : decode b_Ro_daysBy 15 = .ok (.getfield 22, 3) := by decide +kernel
theorem d_Ro_daysBy_18 : decode b_Ro_daysBy 18 = .ok (.iload_n 2, 1) := by decide +kernel
theorem d_Ro_daysBy_19 : decode b_Ro_daysBy 19 = .ok (.bipush 8, 2) := by decide +kernel
theorem d_Ro_daysBy_21 : decode b_Ro_daysBy 21 = .ok (.imul, 1) := by decide +kernel
theorem d_Ro_daysBy_22 : decode b_Ro_daysBy 22 = .ok (.iload_n 3, 1) := by decide +kernel
theorem d_Ro_daysBy_23 : decode b_Ro_daysBy 23 = .ok (.iadd, 1) := by decide +kernel
theorem d_Ro_daysBy_24 : decode b_Ro_daysBy 24 = .ok (.iaload, 1) := by decide +kernel
theorem d_Ro_daysBy_25 : decode b_Ro_daysBy 25 = .ok (.istore 4, 2) := by decide +kernel
theorem d_Ro_daysBy_27 : decode b_Ro_daysBy 27 = .ok (.iload 4, 2) := by decide +kernel
theorem d_Ro_daysBy_29 : decode b_Ro_daysBy 29 = .ok (.aload_n 0, 1) := by decide +kernel
theorem d_Ro_daysBy_30 : decode b_Ro_daysBy 30 = .ok (.getfield 25, 3) := by decide +kernel
theorem d_Ro_daysBy_33 : decode b_Ro_daysBy 33 = .ok (.iload_n 1, 1) := by decide +kernel
theorem d_Ro_daysBy_34 : decode b_Ro_daysBy 34 = .ok (.iconst 1, 1) := by decide +kernel
theorem d_Ro_daysBy_35 : decode b_Ro_daysBy 35 = .ok (.iload_n 3, 1) := by decide +kernel
theorem d_Ro_daysBy_36 : decode b_Ro_daysBy 36 = .ok (.ishl, 1) := by decide +kernel
theorem d_Ro_daysBy_37 : decode b_Ro_daysBy 37 = .ok (.ior, 1) := by decide +kernel
theorem d_Ro_daysBy_38 : decode b_Ro_daysBy 38 = .ok (.bipush 8, 2) := by decide +kernel
theorem d_Ro_daysBy_40 : decode b_Ro_daysBy 40 = .ok (.imul, 1) := by decide +kernel
theorem d_Ro_daysBy_41 : decode b_Ro_daysBy 41 = .ok (.iload_n 3, 1) := by decide +kernel
theorem d_Ro_daysBy_42 : decode b_Ro_daysBy 42 = .ok (.iadd, 1) := by decide +kernel
theorem d_Ro_daysBy_43 : decode b_Ro_daysBy 43 = .ok (.iaload, 1) := by decide +kernel
theorem d_Ro_daysBy_44 : decode b_Ro_daysBy 44 = .ok (.iadd, 1) := by decide +kernel
theorem d_Ro_daysBy_45 : decode b_Ro_daysBy 45 = .ok (.ireturn, 1) := by decide +kernel
theorem mf_Ro_daysBy : zMF y_Ro_daysBy b_Ro_daysBy 5 (some .int) 3 := ⟨zGW_in 1074 (by decide +kernel) (by decide +kernel), zGW_in 132 (by decide +kernel) (by decide +kernel), by decide +kernel⟩
theorem in_Ro_daysBy : Cond.instanceMethod y_Ro_daysBy ∈ zGW := zGW_in 1073 (by decide +kernel) (by decide +kernel)
theorem se_Ro_daysBy : Cond.selects y_Ro_daysBy.cls y_Ro_daysBy y_Ro_daysBy ∈ zGW := zGW_in 29 (by decide +kernel) (by decide +kernel)
def y_Ro_fewestBehind : MethodName := ⟨zNm 7, "fewestBehind", "(II)I"⟩
abbrev b_Ro_fewestBehind : ByteArray := prog_8_method_5_code
theorem d_Ro_fewestBehind_0 : decode b_Ro_fewestBehind 0 = .ok (.ldc 44, 2) := by decide +kernel
theorem d_Ro_fewestBehind_2 : decode b_Ro_fewestBehind 2 = .ok (.istore_n 3, 1) := by decide +kernel
theorem d_Ro_fewestBehind_3 : decode b_Ro_fewestBehind 3 = .ok (.iconst 0, 1) := by decide +kernel
theorem d_Ro_fewestBehind_4 : decode b_Ro_fewestBehind 4 = .ok (.istore 4, 2) := by decide +kernel
theorem d_Ro_fewestBehind_6 : decode b_Ro_fewestBehind 6 = .ok (.iload 4, 2) := by decide +kernel
theorem d_Ro_fewestBehind_8 : decode b_Ro_fewestBehind 8 = .ok (.aload_n 0, 1) := by decide +kernel
theorem d_Ro_fewestBehind_9 : decode b_Ro_fewestBehind 9 = .ok (.getfield 15, 3) := by decide +kernel
theorem d_Ro_fewestBehind_12 : decode b_Ro_fewestBehind 12 = .ok (.if_icmp .ge 41, 3) := by decide +kernel
theorem d_Ro_fewestBehind_15 : decode b_Ro_fewestBehind 15 = .ok (.iload_n 1, 1) := by decide +kernel
theorem d_Ro_fewestBehind_16 : decode b_Ro_fewestBehind 16 = .ok (.iload 4, 2) := by decide +kernel
theorem d_Ro_fewestBehind_18 : decode b_Ro_fewestBehind 18 = .ok (.ishr, 1) := by decide +kernel
theorem d_Ro_fewestBehind_19 : decode b_Ro_fewestBehind 19 = .ok (.iconst 1, 1) := by decide +kernel
theorem d_Ro_fewestBehind_20 : decode b_Ro_fewestBehind 20 = .ok (.iand, 1) := by decide +kernel
theorem d_Ro_fewestBehind_21 : decode b_Ro_fewestBehind 21 = .ok (.ifCond .ne 26, 3) := by decide +kernel
theorem d_Ro_fewestBehind_24 : decode b_Ro_fewestBehind 24 = .ok (.aload_n 0, 1) := by decide +kernel
theorem d_Ro_fewestBehind_25 : decode b_Ro_fewestBehind 25 = .ok (.iload_n 1, 1) := by decide +kernel
theorem d_Ro_fewestBehind_26 : decode b_Ro_fewestBehind 26 = .ok (.iload_n 2, 1) := by decide +kernel
theorem d_Ro_fewestBehind_27 : decode b_Ro_fewestBehind 27 = .ok (.iload 4, 2) := by decide +kernel
theorem d_Ro_fewestBehind_29 : decode b_Ro_fewestBehind 29 = .ok (.invokevirtual 45, 3) := by decide +kernel
theorem d_Ro_fewestBehind_32 : decode b_Ro_fewestBehind 32 = .ok (.istore 5, 2) := by decide +kernel
theorem d_Ro_fewestBehind_34 : decode b_Ro_fewestBehind 34 = .ok (.iload 5, 2) := by decide +kernel
theorem d_Ro_fewestBehind_36 : decode b_Ro_fewestBehind 36 = .ok (.iload_n 3, 1) := by decide +kernel
theorem d_Ro_fewestBehind_37 : decode b_Ro_fewestBehind 37 = .ok (.if_icmp .ge 8, 3) := by decide +kernel
theorem d_Ro_fewestBehind_40 : decode b_Ro_fewestBehind 40 = .ok (.iload 5, 2) := by decide +kernel
theorem d_Ro_fewestBehind_42 : decode b_Ro_fewestBehind 42 = .ok (.goto 4, 3) := by decide +kernel
theorem d_Ro_fewestBehind_45 : decode b_Ro_fewestBehind 45 = .ok (.iload_n 3, 1) := by decide +kernel
theorem d_Ro_fewestBehind_46 : decode b_Ro_fewestBehind 46 = .ok (.istore_n 3, 1) := by decide +kernel
theorem d_Ro_fewestBehind_47 : decode b_Ro_fewestBehind 47 = .ok (.iinc 4 1, 3) := by decide +kernel
theorem d_Ro_fewestBehind_50 : decode b_Ro_fewestBehind 50 = .ok (.goto (-44), 3) := by decide +kernel
theorem d_Ro_fewestBehind_53 : decode b_Ro_fewestBehind 53 = .ok (.iload_n 3, 1) := by decide +kernel
theorem d_Ro_fewestBehind_54 : decode b_Ro_fewestBehind 54 = .ok (.ireturn, 1) := by decide +kernel
theorem mf_Ro_fewestBehind : zMF y_Ro_fewestBehind b_Ro_fewestBehind 6 (some .int) 2 := ⟨zGW_in 1070 (by decide +kernel) (by decide +kernel), zGW_in 132 (by decide +kernel) (by decide +kernel), by decide +kernel⟩
theorem in_Ro_fewestBehind : Cond.instanceMethod y_Ro_fewestBehind ∈ zGW := zGW_in 1069 (by decide +kernel) (by decide +kernel)
theorem se_Ro_fewestBehind : Cond.selects y_Ro_fewestBehind.cls y_Ro_fewestBehind y_Ro_fewestBehind ∈ zGW := zGW_in 28 (by decide +kernel) (by decide +kernel)
def y_Ro_plan : MethodName := ⟨zNm 7, "plan", "(LEelClerk$Paper;II)V"⟩
abbrev b_Ro_plan : ByteArray := prog_8_method_2_code
theorem d_Ro_plan_0 : decode b_Ro_plan 0 = .ok (.aload_n 0, 1) := by decide +kernel
theorem d_Ro_plan_1 : decode b_Ro_plan 1 = .ok (.iconst 0, 1) := by decide +kernel
theorem d_Ro_plan_2 : decode b_Ro_plan 2 = .ok (.putfield 15, 3) := by decide +kernel
theorem d_Ro_plan_5 : decode b_Ro_plan 5 = .ok (.iconst 0, 1) := by decide +kernel
theorem d_Ro_plan_6 : decode b_Ro_plan 6 = .ok (.istore 4, 2) := by decide +kernel
theorem d_Ro_plan_8 : decode b_Ro_plan 8 = .ok (.iload 4, 2) := by decide +kernel
theorem d_Ro_plan_10 : decode b_Ro_plan 10 = .ok (.aload_n 1, 1) := by decide +kernel
theorem d_Ro_plan_11 : decode b_Ro_plan 11 = .ok (.getfield 28, 3) := by decide +kernel
theorem d_Ro_plan_14 : decode b_Ro_plan 14 = .ok (.if_icmp .ge 55, 3) := by decide +kernel
theorem d_Ro_plan_17 : decode b_Ro_plan 17 = .ok (.aload_n 0, 1) := by decide +kernel
theorem d_Ro_plan_18 : decode b_Ro_plan 18 = .ok (.getfield 15, 3) := by decide +kernel
theorem d_Ro_plan_21 : decode b_Ro_plan 21 = .ok (.bipush 8, 2) := by decide +kernel
theorem d_Ro_plan_23 : decode b_Ro_plan 23 = .ok (.if_icmp .ge 46, 3) := by decide +kernel
theorem d_Ro_plan_26 : decode b_Ro_plan 26 = .ok (.iload 4, 2) := by decide +kernel
theorem d_Ro_plan_28 : decode b_Ro_plan 28 = .ok (.iload_n 2, 1) := by decide +kernel
theorem d_Ro_plan_29 : decode b_Ro_plan 29 = .ok (.if_icmp .eq 34, 3) := by decide +kernel
theorem d_Ro_plan_32 : decode b_Ro_plan 32 = .ok (.iload_n 3, 1) := by decide +kernel
theorem d_Ro_plan_33 : decode b_Ro_plan 33 = .ok (.iload 4, 2) := by decide +kernel
theorem d_Ro_plan_35 : decode b_Ro_plan 35 = .ok (.ishr, 1) := by decide +kernel
theorem d_Ro_plan_36 : decode b_Ro_plan 36 = .ok (.iconst 1, 1) := by decide +kernel
theorem d_Ro_plan_37 : decode b_Ro_plan 37 = .ok (.iand, 1) := by decide +kernel
theorem d_Ro_plan_38 : decode b_Ro_plan 38 = .ok (.iconst 1, 1) := by decide +kernel
theorem d_Ro_plan_39 : decode b_Ro_plan 39 = .ok (.if_icmp .ne 24, 3) := by decide +kernel
theorem d_Ro_plan_42 : decode b_Ro_plan 42 = .ok (.aload_n 0, 1) := by decide +kernel
theorem d_Ro_plan_43 : decode b_Ro_plan 43 = .ok (.getfield 11, 3) := by decide +kernel
theorem d_Ro_plan_46 : decode b_Ro_plan 46 = .ok (.aload_n 0, 1) := by decide +kernel
theorem d_Ro_plan_47 : decode b_Ro_plan 47 = .ok (.getfield 15, 3) := by decide +kernel
theorem d_Ro_plan_50 : decode b_Ro_plan 50 = .ok (.iload 4, 2) := by decide +kernel
theorem d_Ro_plan_52 : decode b_Ro_plan 52 = .ok (.iastore, 1) := by decide +kernel
theorem d_Ro_plan_53 : decode b_Ro_plan 53 = .ok (.aload_n 0, 1) := by decide +kernel
theorem d_Ro_plan_54 : decode b_Ro_plan 54 = .ok (.dup, 1) := by decide +kernel
theorem d_Ro_plan_55 : decode b_Ro_plan 55 = .ok (.getfield 15, 3) := by decide +kernel
theorem d_Ro_plan_58 : decode b_Ro_plan 58 = .ok (.iconst 1, 1) := by decide +kernel
theorem d_Ro_plan_59 : decode b_Ro_plan 59 = .ok (.iadd, 1) := by decide +kernel
theorem d_Ro_plan_60 : decode b_Ro_plan 60 = .ok (.putfield 15, 3) := by decide +kernel
theorem d_Ro_plan_63 : decode b_Ro_plan 63 = .ok (.iinc 4 1, 3) := by decide +kernel
theorem d_Ro_plan_66 : decode b_Ro_plan 66 = .ok (.goto (-58), 3) := by decide +kernel
theorem d_Ro_plan_69 : decode b_Ro_plan 69 = .ok (.iconst 1, 1) := by decide +kernel
theorem d_Ro_plan_70 : decode b_Ro_plan 70 = .ok (.aload_n 0, 1) := by decide +kernel
theorem d_Ro_plan_71 : decode b_Ro_plan 71 = .ok (.getfield 15, 3) := by decide +kernel
theorem d_Ro_plan_74 : decode b_Ro_plan 74 = .ok (.ishl, 1) := by decide +kernel
theorem d_Ro_plan_75 : decode b_Ro_plan 75 = .ok (.iconst 1, 1) := by decide +kernel
theorem d_Ro_plan_76 : decode b_Ro_plan 76 = .ok (.isub, 1) := by decide +kernel
theorem d_Ro_plan_77 : decode b_Ro_plan 77 = .ok (.istore 4, 2) := by decide +kernel
theorem d_Ro_plan_79 : decode b_Ro_plan 79 = .ok (.iconst 0, 1) := by decide +kernel
theorem d_Ro_plan_80 : decode b_Ro_plan 80 = .ok (.istore 5, 2) := by decide +kernel
theorem d_Ro_plan_82 : decode b_Ro_plan 82 = .ok (.iload 5, 2) := by decide +kernel
theorem d_Ro_plan_84 : decode b_Ro_plan 84 = .ok (.aload_n 0, 1) := by decide +kernel
theorem d_Ro_plan_85 : decode b_Ro_plan 85 = .ok (.getfield 15, 3) := by decide +kernel
theorem d_Ro_plan_88 : decode b_Ro_plan 88 = .ok (.if_icmp .ge 102, 3) := by decide +kernel
theorem d_Ro_plan_91 : decode b_Ro_plan 91 = .ok (.aload_n 0, 1) := by decide +kernel
theorem d_Ro_plan_92 : decode b_Ro_plan 92 = .ok (.getfield 19, 3) := by decide +kernel
theorem d_Ro_plan_95 : decode b_Ro_plan 95 = .ok (.iload 5, 2) := by decide +kernel
theorem d_Ro_plan_97 : decode b_Ro_plan 97 = .ok (.aload_n 1, 1) := by decide +kernel
theorem d_Ro_plan_98 : decode b_Ro_plan 98 = .ok (.iload_n 2, 1) := by decide +kernel
theorem d_Ro_plan_99 : decode b_Ro_plan 99 = .ok (.aload_n 0, 1) := by decide +kernel
theorem d_Ro_plan_100 : decode b_Ro_plan 100 = .ok (.getfield 11, 3) := by decide +kernel
theorem d_Ro_plan_103 : decode b_Ro_plan 103 = .ok (.iload 5, 2) := by decide +kernel
theorem d_Ro_plan_105 : decode b_Ro_plan 105 = .ok (.iaload, 1) := by decide +kernel
theorem d_Ro_plan_106 : decode b_Ro_plan 106 = .ok (.invokestatic 33, 3) := by decide +kernel
theorem d_Ro_plan_109 : decode b_Ro_plan 109 = .ok (.iastore, 1) := by decide +kernel
theorem d_Ro_plan_110 : decode b_Ro_plan 110 = .ok (.aload_n 0, 1) := by decide +kernel
theorem d_Ro_plan_111 : decode b_Ro_plan 111 = .ok (.getfield 25, 3) := by decide +kernel
theorem d_Ro_plan_114 : decode b_Ro_plan 114 = .ok (.iload 4, 2) := by decide +kernel
theorem d_Ro_plan_116 : decode b_Ro_plan 116 = .ok (.bipush 8, 2) := by decide +kernel
theorem d_Ro_plan_118 : decode b_Ro_plan 118 = .ok (.imul, 1) := by decide +kernel
theorem d_Ro_plan_119 : decode b_Ro_plan 119 = .ok (.iload 5, 2) := by decide +kernel
theorem d_Ro_plan_121 : decode b_Ro_plan 121 = .ok (.iadd, 1) := by decide +kernel
theorem d_Ro_plan_122 : decode b_Ro_plan 122 = .ok (.aload_n 1, 1) := by decide +kernel
theorem d_Ro_plan_123 : decode b_Ro_plan 123 = .ok (.aload_n 0, 1) := by decide +kernel
theorem d_Ro_plan_124 : decode b_Ro_plan 124 = .ok (.getfield 11, 3) := by decide +kernel
theorem d_Ro_plan_127 : decode b_Ro_plan 127 = .ok (.iload 5, 2) := by decide +kernel
theorem d_Ro_plan_129 : decode b_Ro_plan 129 = .ok (.iaload, 1) := by decide +kernel
theorem d_Ro_plan_130 : decode b_Ro_plan 130 = .ok (.iload_n 2, 1) := by decide +kernel
theorem d_Ro_plan_131 : decode b_Ro_plan 131 = .ok (.invokestatic 33, 3) := by decide +kernel
theorem d_Ro_plan_134 : decode b_Ro_plan 134 = .ok (.iastore, 1) := by decide +kernel
theorem d_Ro_plan_135 : decode b_Ro_plan 135 = .ok (.iconst 0, 1) := by decide +kernel
theorem d_Ro_plan_136 : decode b_Ro_plan 136 = .ok (.istore 6, 2) := by decide +kernel
theorem d_Ro_plan_138 : decode b_Ro_plan 138 = .ok (.iload 6, 2) := by decide +kernel
theorem d_Ro_plan_140 : decode b_Ro_plan 140 = .ok (.aload_n 0, 1) := by decide +kernel
theorem d_Ro_plan_141 : decode b_Ro_plan 141 = .ok (.getfield 15, 3) := by decide +kernel
theorem d_Ro_plan_144 : decode b_Ro_plan 144 = .ok (.if_icmp .ge 40, 3) := by decide +kernel
theorem d_Ro_plan_147 : decode b_Ro_plan 147 = .ok (.aload_n 0, 1) := by decide +kernel
theorem d_Ro_plan_148 : decode b_Ro_plan 148 = .ok (.getfield 22, 3) := by decide +kernel
theorem d_Ro_plan_151 : decode b_Ro_plan 151 = .ok (.iload 5, 2) := by decide +kernel
theorem d_Ro_plan_153 : decode b_Ro_plan 153 = .ok (.bipush 8, 2) := by decide +kernel
theorem d_Ro_plan_155 : decode b_Ro_plan 155 = .ok (.imul, 1) := by decide +kernel
theorem d_Ro_plan_156 : decode b_Ro_plan 156 = .ok (.iload 6, 2) := by decide +kernel
theorem d_Ro_plan_158 : decode b_Ro_plan 158 = .ok (.iadd, 1) := by decide +kernel
theorem d_Ro_plan_159 : decode b_Ro_plan 159 = .ok (.aload_n 1, 1) := by decide +kernel
theorem d_Ro_plan_160 : decode b_Ro_plan 160 = .ok (.aload_n 0, 1) := by decide +kernel
theorem d_Ro_plan_161 : decode b_Ro_plan 161 = .ok (.getfield 11, 3) := by decide +kernel
theorem d_Ro_plan_164 : decode b_Ro_plan 164 = .ok (.iload 5, 2) := by decide +kernel
theorem d_Ro_plan_166 : decode b_Ro_plan 166 = .ok (.iaload, 1) := by decide +kernel
theorem d_Ro_plan_167 : decode b_Ro_plan 167 = .ok (.aload_n 0, 1) := by decide +kernel
theorem d_Ro_plan_168 : decode b_Ro_plan 168 = .ok (.getfield 11, 3) := by decide +kernel
theorem d_Ro_plan_171 : decode b_Ro_plan 171 = .ok (.iload 6, 2) := by decide +kernel
theorem d_Ro_plan_173 : decode b_Ro_plan 173 = .ok (.iaload, 1) := by decide +kernel
theorem d_Ro_plan_174 : decode b_Ro_plan 174 = .ok (.invokestatic 33, 3) := by decide +kernel
theorem d_Ro_plan_177 : decode b_Ro_plan 177 = .ok (.iastore, 1) := by decide +kernel
theorem d_Ro_plan_178 : decode b_Ro_plan 178 = .ok (.iinc 6 1, 3) := by decide +kernel
theorem d_Ro_plan_181 : decode b_Ro_plan 181 = .ok (.goto (-43), 3) := by decide +kernel
theorem d_Ro_plan_184 : decode b_Ro_plan 184 = .ok (.iinc 5 1, 3) := by decide +kernel
theorem d_Ro_plan_187 : decode b_Ro_plan 187 = .ok (.goto (-105), 3) := by decide +kernel
theorem d_Ro_plan_190 : decode b_Ro_plan 190 = .ok (.iload 4, 2) := by decide +kernel
theorem d_Ro_plan_192 : decode b_Ro_plan 192 = .ok (.iconst 1, 1) := by decide +kernel
theorem d_Ro_plan_193 : decode b_Ro_plan 193 = .ok (.isub, 1) := by decide +kernel
theorem d_Ro_plan_194 : decode b_Ro_plan 194 = .ok (.istore 5, 2) := by decide +kernel
theorem d_Ro_plan_196 : decode b_Ro_plan 196 = .ok (.iload 5, 2) := by decide +kernel
theorem d_Ro_plan_198 : decode b_Ro_plan 198 = .ok (.ifCond .le 48, 3) := by decide +kernel
theorem d_Ro_plan_201 : decode b_Ro_plan 201 = .ok (.iconst 0, 1) := by decide +kernel
theorem d_Ro_plan_202 : decode b_Ro_plan 202 = .ok (.istore 6, 2) := by decide +kernel
theorem d_Ro_plan_204 : decode b_Ro_plan 204 = .ok (.iload 6, 2) := by decide +kernel
theorem d_Ro_plan_206 : decode b_Ro_plan 206 = .ok (.aload_n 0, 1) := by decide +kernel
theorem d_Ro_plan_207 : decode b_Ro_plan 207 = .ok (.getfield 15, 3) := by decide +kernel
theorem d_Ro_plan_210 : decode b_Ro_plan 210 = .ok (.if_icmp .ge 30, 3) := by decide +kernel
theorem d_Ro_plan_213 : decode b_Ro_plan 213 = .ok (.aload_n 0, 1) := by decide +kernel
theorem d_Ro_plan_214 : decode b_Ro_plan 214 = .ok (.getfield 25, 3) := by decide +kernel
theorem d_Ro_plan_217 : decode b_Ro_plan 217 = .ok (.iload 5, 2) := by decide +kernel
theorem d_Ro_plan_219 : decode b_Ro_plan 219 = .ok (.bipush 8, 2) := by decide +kernel
theorem d_Ro_plan_221 : decode b_Ro_plan 221 = .ok (.imul, 1) := by decide +kernel
theorem d_Ro_plan_222 : decode b_Ro_plan 222 = .ok (.iload 6, 2) := by decide +kernel
theorem d_Ro_plan_224 : decode b_Ro_plan 224 = .ok (.iadd, 1) := by decide +kernel
theorem d_Ro_plan_225 : decode b_Ro_plan 225 = .ok (.aload_n 0, 1) := by decide +kernel
theorem d_Ro_plan_226 : decode b_Ro_plan 226 = .ok (.iload 5, 2) := by decide +kernel
theorem d_Ro_plan_228 : decode b_Ro_plan 228 = .ok (.iload 6, 2) := by decide +kernel
theorem d_Ro_plan_230 : decode b_Ro_plan 230 = .ok (.invokevirtual 37, 3) := by decide +kernel
theorem d_Ro_plan_233 : decode b_Ro_plan 233 = .ok (.iastore, 1) := by decide +kernel
theorem d_Ro_plan_234 : decode b_Ro_plan 234 = .ok (.iinc 6 1, 3) := by decide +kernel
theorem d_Ro_plan_237 : decode b_Ro_plan 237 = .ok (.goto (-33), 3) := by decide +kernel
theorem d_Ro_plan_240 : decode b_Ro_plan 240 = .ok (.iinc 5 (-1), 3) := by decide +kernel
theorem d_Ro_plan_243 : decode b_Ro_plan 243 = .ok (.goto (-47), 3) := by decide +kernel
theorem d_Ro_plan_246 : decode b_Ro_plan 246 = .ok (.return_, 1) := by decide +kernel
theorem mf_Ro_plan : zMF y_Ro_plan b_Ro_plan 7 none 3 := ⟨zGW_in 1061 (by decide +kernel) (by decide +kernel), zGW_in 132 (by decide +kernel) (by decide +kernel), by decide +kernel⟩
theorem in_Ro_plan : Cond.instanceMethod y_Ro_plan ∈ zGW := zGW_in 1059 (by decide +kernel) (by decide +kernel)
theorem se_Ro_plan : Cond.selects y_Ro_plan.cls y_Ro_plan y_Ro_plan ∈ zGW := zGW_in 1060 (by decide +kernel) (by decide +kernel)
def y_Ro_days : MethodName := ⟨zNm 7, "days", "()I"⟩
abbrev b_Ro_days : ByteArray := prog_8_method_6_code
theorem d_Ro_days_0 : decode b_Ro_days 0 = .ok (.aload_n 0, 1) := by decide +kernel
theorem d_Ro_days_1 : decode b_Ro_days 1 = .ok (.getfield 15, 3) := by decide +kernel
theorem d_Ro_days_4 : decode b_Ro_days 4 = .ok (.ifCond .ne 5, 3) := by decide +kernel
theorem d_Ro_days_7 : decode b_Ro_days 7 = .ok (.iconst 0, 1) := by decide +kernel
theorem d_Ro_days_8 : decode b_Ro_days 8 = .ok (.ireturn, 1) := by decide +kernel
theorem d_Ro_days_9 : decode b_Ro_days 9 = .ok (.aload_n 0, 1) := by decide +kernel
theorem d_Ro_days_10 : decode b_Ro_days 10 = .ok (.iconst 0, 1) := by decide +kernel
theorem d_Ro_days_11 : decode b_Ro_days 11 = .ok (.iconst (-1), 1) := by decide +kernel
theorem d_Ro_days_12 : decode b_Ro_days 12 = .ok (.invokevirtual 37, 3) := by decide +kernel
theorem d_Ro_days_15 : decode b_Ro_days 15 = .ok (.istore_n 1, 1) := by decide +kernel
theorem d_Ro_days_16 : decode b_Ro_days 16 = .ok (.iload_n 1, 1) := by decide +kernel
theorem d_Ro_days_17 : decode b_Ro_days 17 = .ok (.ldc 44, 2) := by decide +kernel
theorem d_Ro_days_19 : decode b_Ro_days 19 = .ok (.if_icmp .ge 7, 3) := by decide +kernel
theorem d_Ro_days_22 : decode b_Ro_days 22 = .ok (.iload_n 1, 1) := by decide +kernel
theorem d_Ro_days_23 : decode b_Ro_days 23 = .ok (.goto 4, 3) := by decide +kernel
theorem d_Ro_days_26 : decode b_Ro_days 26 = .ok (.iconst (-1), 1) := by decide +kernel
theorem d_Ro_days_27 : decode b_Ro_days 27 = .ok (.ireturn, 1) := by decide +kernel
theorem mf_Ro_days : zMF y_Ro_days b_Ro_days 2 (some .int) 0 := ⟨zGW_in 1078 (by decide +kernel) (by decide +kernel), zGW_in 132 (by decide +kernel) (by decide +kernel), by decide +kernel⟩
theorem in_Ro_days : Cond.instanceMethod y_Ro_days ∈ zGW := zGW_in 1076 (by decide +kernel) (by decide +kernel)
theorem se_Ro_days : Cond.selects y_Ro_days.cls y_Ro_days y_Ro_days ∈ zGW := zGW_in 1077 (by decide +kernel) (by decide +kernel)
def y_Ro_nextStop : MethodName := ⟨zNm 7, "nextStop", "(II)I"⟩
abbrev b_Ro_nextStop : ByteArray := prog_8_method_8_code
theorem d_Ro_nextStop_0 : decode b_Ro_nextStop 0 = .ok (.aload_n 0, 1) := by decide +kernel
theorem d_Ro_nextStop_1 : decode b_Ro_nextStop 1 = .ok (.iload_n 1, 1) := by decide +kernel
theorem d_Ro_nextStop_2 : decode b_Ro_nextStop 2 = .ok (.iload_n 2, 1) := by decide +kernel
theorem d_Ro_nextStop_3 : decode b_Ro_nextStop 3 = .ok (.invokevirtual 37, 3) := by decide +kernel
theorem d_Ro_nextStop_6 : decode b_Ro_nextStop 6 = .ok (.istore_n 3, 1) := by decide +kernel
theorem d_Ro_nextStop_7 : decode b_Ro_nextStop 7 = .ok (.iconst 0, 1) := by decide +kernel
theorem d_Ro_nextStop_8 : decode b_Ro_nextStop 8 = .ok (.istore 4, 2) := by decide +kernel
theorem d_Ro_nextStop_10 : decode b_Ro_nextStop 10 = .ok (.iload 4, 2) := by decide +kernel
theorem d_Ro_nextStop_12 : decode b_Ro_nextStop 12 = .ok (.aload_n 0, 1) := by decide +kernel
theorem d_Ro_nextStop_13 : decode b_Ro_nextStop 13 = .ok (.getfield 15, 3) := by decide +kernel
theorem d_Ro_nextStop_16 : decode b_Ro_nextStop 16 = .ok (.if_icmp .ge 33, 3) := by decide +kernel
theorem d_Ro_nextStop_19 : decode b_Ro_nextStop 19 = .ok (.iload_n 1, 1) := by decide +kernel
theorem d_Ro_nextStop_20 : decode b_Ro_nextStop 20 = .ok (.iload 4, 2) := by decide +kernel
theorem d_Ro_nextStop_22 : decode b_Ro_nextStop 22 = .ok (.ishr, 1) := by decide +kernel
theorem d_Ro_nextStop_23 : decode b_Ro_nextStop 23 = .ok (.iconst 1, 1) := by decide +kernel
theorem d_Ro_nextStop_24 : decode b_Ro_nextStop 24 = .ok (.iand, 1) := by decide +kernel
theorem d_Ro_nextStop_25 : decode b_Ro_nextStop 25 = .ok (.ifCond .ne 18, 3) := by decide +kernel
theorem d_Ro_nextStop_28 : decode b_Ro_nextStop 28 = .ok (.aload_n 0, 1) := by decide +kernel
theorem d_Ro_nextStop_29 : decode b_Ro_nextStop 29 = .ok (.iload_n 1, 1) := by decide +kernel
theorem d_Ro_nextStop_30 : decode b_Ro_nextStop 30 = .ok (.iload_n 2, 1) := by decide +kernel
theorem d_Ro_nextStop_31 : decode b_Ro_nextStop 31 = .ok (.iload 4, 2) := by decide +kernel
theorem d_Ro_nextStop_33 : decode b_Ro_nextStop 33 = .ok (.invokevirtual 45, 3) := by decide +kernel
theorem d_Ro_nextStop_36 : decode b_Ro_nextStop 36 = .ok (.iload_n 3, 1) := by decide +kernel
theorem d_Ro_nextStop_37 : decode b_Ro_nextStop 37 = .ok (.if_icmp .ne 6, 3) := by decide +kernel
theorem d_Ro_nextStop_40 : decode b_Ro_nextStop 40 = .ok (.iload 4, 2) := by decide +kernel
theorem d_Ro_nextStop_42 : decode b_Ro_nextStop 42 = .ok (.ireturn, 1) := by decide +kernel
theorem d_Ro_nextStop_43 : decode b_Ro_nextStop 43 = .ok (.iinc 4 1, 3) := by decide +kernel
theorem d_Ro_nextStop_46 : decode b_Ro_nextStop 46 = .ok (.goto (-36), 3) := by decide +kernel
theorem d_Ro_nextStop_49 : decode b_Ro_nextStop 49 = .ok (.iconst (-1), 1) := by decide +kernel
theorem d_Ro_nextStop_50 : decode b_Ro_nextStop 50 = .ok (.ireturn, 1) := by decide +kernel
theorem mf_Ro_nextStop : zMF y_Ro_nextStop b_Ro_nextStop 5 (some .int) 2 := ⟨zGW_in 1087 (by decide +kernel) (by decide +kernel), zGW_in 132 (by decide +kernel) (by decide +kernel), by decide +kernel⟩
theorem in_Ro_nextStop : Cond.instanceMethod y_Ro_nextStop ∈ zGW := zGW_in 1086 (by decide +kernel) (by decide +kernel)
theorem se_Ro_nextStop : Cond.selects y_Ro_nextStop.cls y_Ro_nextStop y_Ro_nextStop ∈ zGW := zGW_in 30 (by decide +kernel) (by decide +kernel)
def y_Ro_stop : MethodName := ⟨zNm 7, "stop", "(I)I"⟩
abbrev b_Ro_stop : ByteArray := prog_8_method_7_code
theorem d_Ro_stop_0 : decode b_Ro_stop 0 = .ok (.iload_n 1, 1) := by decide +kernel
theorem d_Ro_stop_1 : decode b_Ro_stop 1 = .ok (.ifCond .lt 19, 3) := by decide +kernel
theorem d_Ro_stop_4 : decode b_Ro_stop 4 = .ok (.iload_n 1, 1) := by decide +kernel
theorem d_Ro_stop_5 : decode b_Ro_stop 5 = .ok (.aload_n 0, 1) := by decide +kernel
theorem d_Ro_stop_6 : decode b_Ro_stop 6 = .ok (.getfield 15, 3) := by decide +kernel
theorem d_Ro_stop_9 : decode b_Ro_stop 9 = .ok (.if_icmp .ge 11, 3) := by decide +kernel
theorem d_Ro_stop_12 : decode b_Ro_stop 12 = .ok (.aload_n 0, 1) := by decide +kernel
theorem d_Ro_stop_13 : decode b_Ro_stop 13 = .ok (.invokevirtual 49, 3) := by decide +kernel
theorem d_Ro_stop_16 : decode b_Ro_stop 16 = .ok (.iconst (-1), 1) := by decide +kernel
theorem d_Ro_stop_17 : decode b_Ro_stop 17 = .ok (.if_icmp .ne 5, 3) := by decide +kernel
theorem d_Ro_stop_20 : decode b_Ro_stop 20 = .ok (.iconst (-1), 1) := by decide +kernel
theorem d_Ro_stop_21 : decode b_Ro_stop 21 = .ok (.ireturn, 1) := by decide +kernel
theorem d_Ro_stop_22 : decode b_Ro_stop 22 = .ok (.iconst 0, 1) := by decide +kernel
theorem d_Ro_stop_23 : decode b_Ro_stop 23 = .ok (.istore_n 2, 1) := by decide +kernel
theorem d_Ro_stop_24 : decode b_Ro_stop 24 = .ok (.iconst (-1), 1) := by decide +kernel
theorem d_Ro_stop_25 : decode b_Ro_stop 25 = .ok (.istore_n 3, 1) := by decide +kernel
theorem d_Ro_stop_26 : decode b_Ro_stop 26 = .ok (.iconst 0, 1) := by decide +kernel
theorem d_Ro_stop_27 : decode b_Ro_stop 27 = .ok (.istore 4, 2) := by decide +kernel
theorem d_Ro_stop_29 : decode b_Ro_stop 29 = .ok (.iload 4, 2) := by decide +kernel
theorem d_Ro_stop_31 : decode b_Ro_stop 31 = .ok (.iload_n 1, 1) := by decide +kernel
theorem d_Ro_stop_32 : decode b_Ro_stop 32 = .ok (.if_icmp .gt 29, 3) := by decide +kernel
theorem d_Ro_stop_35 : decode b_Ro_stop 35 = .ok (.aload_n 0, 1) := by decide +kernel
theorem d_Ro_stop_36 : decode b_Ro_stop 36 = .ok (.iload_n 2, 1) := by decide +kernel
theorem d_Ro_stop_37 : decode b_Ro_stop 37 = .ok (.iload_n 3, 1) := by decide +kernel
theorem d_Ro_stop_38 : decode b_Ro_stop 38 = .ok (.invokevirtual 53, 3) := by decide +kernel
theorem d_Ro_stop_41 : decode b_Ro_stop 41 = .ok (.istore_n 3, 1) := by decide +kernel
theorem d_Ro_stop_42 : decode b_Ro_stop 42 = .ok (.iload_n 3, 1) := by decide +kernel
theorem d_Ro_stop_43 : decode b_Ro_stop 43 = .ok (.iconst (-1), 1) := by decide +kernel
theorem d_Ro_stop_44 : decode b_Ro_stop 44 = .ok (.if_icmp .ne 5, 3) := by decide +kernel
theorem d_Ro_stop_47 : decode b_Ro_stop 47 = .ok (.iconst (-1), 1) := by decide +kernel
theorem d_Ro_stop_48 : decode b_Ro_stop 48 = .ok (.ireturn, 1) := by decide +kernel
theorem d_Ro_stop_49 : decode b_Ro_stop 49 = .ok (.iload_n 2, 1) := by decide +kernel
theorem d_Ro_stop_50 : decode b_Ro_stop 50 = .ok (.iconst 1, 1) := by decide +kernel
theorem d_Ro_stop_51 : decode b_Ro_stop 51 = .ok (.iload_n 3, 1) := by decide +kernel
theorem d_Ro_stop_52 : decode b_Ro_stop 52 = .ok (.ishl, 1) := by decide +kernel
theorem d_Ro_stop_53 : decode b_Ro_stop 53 = .ok (.ior, 1) := by decide +kernel
theorem d_Ro_stop_54 : decode b_Ro_stop 54 = .ok (.istore_n 2, 1) := by decide +kernel
theorem d_Ro_stop_55 : decode b_Ro_stop 55 = .ok (.iinc 4 1, 3) := by decide +kernel
theorem d_Ro_stop_58 : decode b_Ro_stop 58 = .ok (.goto (-29), 3) := by decide +kernel
theorem d_Ro_stop_61 : decode b_Ro_stop 61 = .ok (.iload_n 3, 1) := by decide +kernel
theorem d_Ro_stop_62 : decode b_Ro_stop 62 = .ok (.iconst (-1), 1) := by decide +kernel
theorem d_Ro_stop_63 : decode b_Ro_stop 63 = .ok (.if_icmp .ne 7, 3) := by decide +kernel
theorem d_Ro_stop_66 : decode b_Ro_stop 66 = .ok (.iconst (-1), 1) := by decide +kernel
theorem d_Ro_stop_67 : decode b_Ro_stop 67 = .ok (.goto 9, 3) := by decide +kernel
theorem d_Ro_stop_70 : decode b_Ro_stop 70 = .ok (.aload_n 0, 1) := by decide +kernel
theorem d_Ro_stop_71 : decode b_Ro_stop 71 = .ok (.getfield 11, 3) := by decide +kernel
theorem d_Ro_stop_74 : decode b_Ro_stop 74 = .ok (.iload_n 3, 1) := by decide +kernel
theorem d_Ro_stop_75 : decode b_Ro_stop 75 = .ok (.iaload, 1) := by decide +kernel
theorem d_Ro_stop_76 : decode b_Ro_stop 76 = .ok (.ireturn, 1) := by decide +kernel
theorem mf_Ro_stop : zMF y_Ro_stop b_Ro_stop 5 (some .int) 1 := ⟨zGW_in 1082 (by decide +kernel) (by decide +kernel), zGW_in 132 (by decide +kernel) (by decide +kernel), by decide +kernel⟩
theorem in_Ro_stop : Cond.instanceMethod y_Ro_stop ∈ zGW := zGW_in 1080 (by decide +kernel) (by decide +kernel)
theorem se_Ro_stop : Cond.selects y_Ro_stop.cls y_Ro_stop y_Ro_stop ∈ zGW := zGW_in 1081 (by decide +kernel) (by decide +kernel)
def y_E_round : MethodName := ⟨zNm 0, "round", "(II)I"⟩
abbrev b_E_round : ByteArray := prog_1_method_25_code
theorem d_E_round_0 : decode b_E_round 0 = .ok (.aload_n 0, 1) := by decide +kernel
theorem d_E_round_1 : decode b_E_round 1 = .ok (.getfield 12, 3) := by decide +kernel
theorem d_E_round_4 : decode b_E_round 4 = .ok (.getfield 113, 3) := by decide +kernel
theorem d_E_round_7 : decode b_E_round 7 = .ok (.ifCond .eq 19, 3) := by decide +kernel
theorem d_E_round_10 : decode b_E_round 10 = .ok (.iload_n 2, 1) := by decide +kernel
theorem d_E_round_11 : decode b_E_round 11 = .ok (.iconst (-1), 1) := by decide +kernel
theorem d_E_round_12 : decode b_E_round 12 = .ok (.if_icmp .lt 14, 3) := by decide +kernel
theorem d_E_round_15 : decode b_E_round 15 = .ok (.aload_n 0, 1) := by decide +kernel
theorem d_E_round_16 : decode b_E_round 16 = .ok (.getfield 12, 3) := by decide +kernel
theorem d_E_round_19 : decode b_E_round 19 = .ok (.iload_n 1, 1) := by decide +kernel
theorem d_E_round_20 : decode b_E_round 20 = .ok (.invokevirtual 245, 3) := by decide +kernel
theorem d_E_round_23 : decode b_E_round 23 = .ok (.ifCond .ne 5, 3) := by decide +kernel
theorem d_E_round_26 : decode b_E_round 26 = .ok (.iconst (-1), 1) := by decide +kernel
theorem d_E_round_27 : decode b_E_round 27 = .ok (.ireturn, 1) := by decide +kernel
theorem d_E_round_28 : decode b_E_round 28 = .ok (.aload_n 0, 1) := by decide +kernel
theorem d_E_round_29 : decode b_E_round 29 = .ok (.invokevirtual 226, 3) := by decide +kernel
theorem d_E_round_32 : decode b_E_round 32 = .ok (.aload_n 0, 1) := by decide +kernel
theorem d_E_round_33 : decode b_E_round 33 = .ok (.getfield 67, 3) := by decide +kernel
theorem d_E_round_36 : decode b_E_round 36 = .ok (.aload_n 0, 1) := by decide +kernel
theorem d_E_round_37 : decode b_E_round 37 = .ok (.getfield 60, 3) := by decide +kernel
theorem d_E_round_40 : decode b_E_round 40 = .ok (.aload_n 0, 1) := by decide +kernel
theorem d_E_round_41 : decode b_E_round 41 = .ok (.getfield 12, 3) := by decide +kernel
theorem d_E_round_44 : decode b_E_round 44 = .ok (.getfield 248, 3) := by decide +kernel
theorem d_E_round_47 : decode b_E_round 47 = .ok (.iload_n 1, 1) := by decide +kernel
theorem d_E_round_48 : decode b_E_round 48 = .ok (.invokevirtual 251, 3) := by decide +kernel
theorem d_E_round_51 : decode b_E_round 51 = .ok (.iload_n 2, 1) := by decide +kernel
theorem d_E_round_52 : decode b_E_round 52 = .ok (.iconst (-1), 1) := by decide +kernel
theorem d_E_round_53 : decode b_E_round 53 = .ok (.if_icmp .ne 13, 3) := by decide +kernel
theorem d_E_round_56 : decode b_E_round 56 = .ok (.aload_n 0, 1) := by decide +kernel
theorem d_E_round_57 : decode b_E_round 57 = .ok (.getfield 67, 3) := by decide +kernel
theorem d_E_round_60 : decode b_E_round 60 = .ok (.invokevirtual 255, 3) := by decide +kernel
theorem d_E_round_63 : decode b_E_round 63 = .ok (.goto 11, 3) := by decide +kernel
theorem d_E_round_66 : decode b_E_round 66 = .ok (.aload_n 0, 1) := by decide +kernel
theorem d_E_round_67 : decode b_E_round 67 = .ok (.getfield 67, 3) := by decide +kernel
theorem d_E_round_70 : decode b_E_round 70 = .ok (.iload_n 2, 1) := by decide +kernel
theorem d_E_round_71 : decode b_E_round 71 = .ok (.invokevirtual 258, 3) := by decide +kernel
theorem d_E_round_74 : decode b_E_round 74 = .ok (.ireturn, 1) := by decide +kernel
theorem mf_E_round : zMF y_E_round b_E_round 3 (some .int) 2 := ⟨zGW_in 1053 (by decide +kernel) (by decide +kernel), zGW_in 124 (by decide +kernel) (by decide +kernel), by decide +kernel⟩
theorem in_E_round : Cond.instanceMethod y_E_round ∈ zGW := zGW_in 1051 (by decide +kernel) (by decide +kernel)
theorem se_E_round : Cond.selects y_E_round.cls y_E_round y_E_round ∈ zGW := zGW_in 1052 (by decide +kernel) (by decide +kernel)
def y_Pa_fillCuts : MethodName := ⟨zNm 4, "fillCuts", "(LEelClerk$Parish;LEelClerk$Asker;)V"⟩
abbrev b_Pa_fillCuts : ByteArray := prog_5_method_16_code
theorem d_Pa_fillCuts_0 : decode b_Pa_fillCuts 0 = .ok (.aload_n 0, 1) := by decide +kernel
theorem d_Pa_fillCuts_1 : decode b_Pa_fillCuts 1 = .ok (.aload_n 1, 1) := by decide +kernel
theorem d_Pa_fillCuts_2 : decode b_Pa_fillCuts 2 = .ok (.invokevirtual 31, 3) := by decide +kernel
theorem d_Pa_fillCuts_5 : decode b_Pa_fillCuts 5 = .ok (.aload_n 1, 1) := by decide +kernel
theorem d_Pa_fillCuts_6 : decode b_Pa_fillCuts 6 = .ok (.invokevirtual 73, 3) := by decide +kernel
theorem d_Pa_fillCuts_9 : decode b_Pa_fillCuts 9 = .ok (.astore_n 3, 1) := by decide +kernel
theorem d_Pa_fillCuts_10 : decode b_Pa_fillCuts 10 = .ok (.iconst 0, 1) := by decide +kernel
theorem d_Pa_fillCuts_11 : decode b_Pa_fillCuts 11 = .ok (.istore 4, 2) := by decide +kernel
theorem d_Pa_fillCuts_13 : decode b_Pa_fillCuts 13 = .ok (.iload 4, 2) := by decide +kernel
theorem d_Pa_fillCuts_15 : decode b_Pa_fillCuts 15 = .ok (.aload_n 0, 1) := by decide +kernel
theorem d_Pa_fillCuts_16 : decode b_Pa_fillCuts 16 = .ok (.getfield 9, 3) := by decide +kernel
theorem d_Pa_fillCuts_19 : decode b_Pa_fillCuts 19 = .ok (.if_icmp .ge 94, 3) := by decide +kernel
theorem d_Pa_fillCuts_22 : decode b_Pa_fillCuts 22 = .ok (.iconst 0, 1) := by decide +kernel
theorem d_Pa_fillCuts_23 : decode b_Pa_fillCuts 23 = .ok (.istore 5, 2) := by decide +kernel
theorem d_Pa_fillCuts_25 : decode b_Pa_fillCuts 25 = .ok (.iload 5, 2) := by decide +kernel
theorem d_Pa_fillCuts_27 : decode b_Pa_fillCuts 27 = .ok (.aload_n 0, 1) := by decide +kernel
theorem d_Pa_fillCuts_28 : decode b_Pa_fillCuts 28 = .ok (.getfield 9, 3) := by decide +kernel
theorem d_Pa_fillCuts_31 : decode b_Pa_fillCuts 31 = .ok (.if_icmp .ge 76, 3) := by decide +kernel
theorem d_Pa_fillCuts_34 : decode b_Pa_fillCuts 34 = .ok (.aload_n 1, 1) := by decide +kernel
theorem d_Pa_fillCuts_35 : decode b_Pa_fillCuts 35 = .ok (.iload 4, 2) := by decide +kernel
theorem d_Pa_fillCuts_37 : decode b_Pa_fillCuts 37 = .ok (.iload 5, 2) := by decide +kernel
theorem d_Pa_fillCuts_39 : decode b_Pa_fillCuts 39 = .ok (.invokevirtual 35, 3) := by decide +kernel
theorem d_Pa_fillCuts_42 : decode b_Pa_fillCuts 42 = .ok (.istore 6, 2) := by decide +kernel
theorem d_Pa_fillCuts_44 : decode b_Pa_fillCuts 44 = .ok (.aload_n 1, 1) := by decide +kernel
theorem d_Pa_fillCuts_45 : decode b_Pa_fillCuts 45 = .ok (.iload 6, 2) := by decide +kernel
theorem d_Pa_fillCuts_47 : decode b_Pa_fillCuts 47 = .ok (.invokevirtual 39, 3) := by decide +kernel
theorem d_Pa_fillCuts_50 : decode b_Pa_fillCuts 50 = .ok (.ifCond .eq 12, 3) := by decide +kernel
theorem d_Pa_fillCuts_53 : decode b_Pa_fillCuts 53 = .ok (.aload_n 1, 1) := by decide +kernel
theorem d_Pa_fillCuts_54 : decode b_Pa_fillCuts 54 = .ok (.iload 6, 2) := by decide +kernel
theorem d_Pa_fillCuts_56 : decode b_Pa_fillCuts 56 = .ok (.invokevirtual 53, 3) := by decide +kernel
theorem d_Pa_fillCuts_59 : decode b_Pa_fillCuts 59 = .ok (.ifCond .eq 7, 3) := by decide +kernel
theorem d_Pa_fillCuts_62 : decode b_Pa_fillCuts 62 = .ok (.iconst 1, 1) := by decide +kernel
theorem d_Pa_fillCuts_63 : decode b_Pa_fillCuts 63 = .ok (.goto 4, 3) := by decide +kernel
theorem d_Pa_fillCuts_66 : decode b_Pa_fillCuts 66 = .ok (.iconst 0, 1) := by decide +kernel
theorem d_Pa_fillCuts_67 : decode b_Pa_fillCuts 67 = .ok (.istore 7, 2) := by decide +kernel
theorem d_Pa_fillCuts_69 : decode b_Pa_fillCuts 69 = .ok (.aload_n 0, 1) := by decide +kernel
theorem d_Pa_fillCuts_70 : decode b_Pa_fillCuts 70 = .ok (.getfield 25, 3) := by decide +kernel
theorem d_Pa_fillCuts_73 : decode b_Pa_fillCuts 73 = .ok (.iload 4, 2) := by decide +kernel
theorem d_Pa_fillCuts_75 : decode b_Pa_fillCuts 75 = .ok (.iload 5, 2) := by decide +kernel
theorem d_Pa_fillCuts_77 : decode b_Pa_fillCuts 77 = .ok (.invokestatic 50, 3) := by decide +kernel
theorem d_Pa_fillCuts_80 : decode b_Pa_fillCuts 80 = .ok (.iload 7, 2) := by decide +kernel
theorem d_Pa_fillCuts_82 : decode b_Pa_fillCuts 82 = .ok (.ifCond .eq 7, 3) := by decide +kernel
theorem d_Pa_fillCuts_85 : decode b_Pa_fillCuts 85 = .ok (.iconst 0, 1) := by decide +kernel
theorem d_Pa_fillCuts_86 : decode b_Pa_fillCuts 86 = .ok (.goto 14, 3) := by decide +kernel
theorem d_Pa_fillCuts_89 : decode b_Pa_fillCuts 89 = .ok (.aload_n 2, 1) := by decide +kernel
theorem d_Pa_fillCuts_90 : decode b_Pa_fillCuts 90 = .ok (.aload_n 1, 1) := by decide +kernel
theorem d_Pa_fillCuts_91 : decode b_Pa_fillCuts 91 = .ok (.aload_n 3, 1) := by decide +kernel
theorem d_Pa_fillCuts_92 : decode b_Pa_fillCuts 92 = .ok (.iconst 1, 1) := by decide +kernel
theorem d_Pa_fillCuts_93 : decode b_Pa_fillCuts 93 = .ok (.iload 4, 2) := by decide +kernel
theorem d_Pa_fillCuts_95 : decode b_Pa_fillCuts 95 = .ok (.iload 5, 2) := by decide +kernel
theorem d_Pa_fillCuts_97 : decode b_Pa_fillCuts 97 = .ok (.invokevirtual 43, 3) := by decide +kernel
theorem d_Pa_fillCuts_100 : decode b_Pa_fillCuts 100 = .ok (.iastore, 1) := by decide +kernel
theorem d_Pa_fillCuts_101 : decode b_Pa_fillCuts 101 = .ok (.iinc 5 1, 3) := by decide +kernel
theorem d_Pa_fillCuts_104 : decode b_Pa_fillCuts 104 = .ok (.goto (-79), 3) := by decide +kernel
theorem d_Pa_fillCuts_107 : decode b_Pa_fillCuts 107 = .ok (.iinc 4 1, 3) := by decide +kernel
theorem d_Pa_fillCuts_110 : decode b_Pa_fillCuts 110 = .ok (.goto (-97), 3) := by decide +kernel
theorem d_Pa_fillCuts_113 : decode b_Pa_fillCuts 113 = .ok (.return_, 1) := by decide +kernel
theorem mf_Pa_fillCuts : zMF y_Pa_fillCuts b_Pa_fillCuts 8 none 2 := ⟨zGW_in 1095 (by decide +kernel) (by decide +kernel), zGW_in 131 (by decide +kernel) (by decide +kernel), by decide +kernel⟩
theorem in_Pa_fillCuts : Cond.instanceMethod y_Pa_fillCuts ∈ zGW := zGW_in 1093 (by decide +kernel) (by decide +kernel)
theorem se_Pa_fillCuts : Cond.selects y_Pa_fillCuts.cls y_Pa_fillCuts y_Pa_fillCuts ∈ zGW := zGW_in 1094 (by decide +kernel) (by decide +kernel)
def y_Pa_cutOf : MethodName := ⟨zNm 4, "cutOf", "(I)I"⟩
abbrev b_Pa_cutOf : ByteArray := prog_5_method_17_code
theorem d_Pa_cutOf_0 : decode b_Pa_cutOf 0 = .ok (.iconst 0, 1) := by decide +kernel
theorem d_Pa_cutOf_1 : decode b_Pa_cutOf 1 = .ok (.istore_n 2, 1) := by decide +kernel
theorem d_Pa_cutOf_2 : decode b_Pa_cutOf 2 = .ok (.iconst 0, 1) := by decide +kernel
theorem d_Pa_cutOf_3 : decode b_Pa_cutOf 3 = .ok (.istore_n 3, 1) := by decide +kernel
theorem d_Pa_cutOf_4 : decode b_Pa_cutOf 4 = .ok (.iload_n 3, 1) := by decide +kernel
theorem d_Pa_cutOf_5 : decode b_Pa_cutOf 5 = .ok (.aload_n 0, 1) := by decide +kernel
theorem d_Pa_cutOf_6 : decode b_Pa_cutOf 6 = .ok (.getfield 9, 3) := by decide +kernel
theorem d_Pa_cutOf_9 : decode b_Pa_cutOf 9 = .ok (.if_icmp .ge 59, 3) := by decide +kernel
theorem d_Pa_cutOf_12 : decode b_Pa_cutOf 12 = .ok (.iconst 0, 1) := by decide +kernel
theorem d_Pa_cutOf_13 : decode b_Pa_cutOf 13 = .ok (.istore 4, 2) := by decide +kernel
theorem d_Pa_cutOf_15 : decode b_Pa_cutOf 15 = .ok (.iload 4, 2) := by decide +kernel
theorem d_Pa_cutOf_17 : decode b_Pa_cutOf 17 = .ok (.aload_n 0, 1) := by decide +kernel
theorem d_Pa_cutOf_18 : decode b_Pa_cutOf 18 = .ok (.getfield 9, 3) := by decide +kernel
theorem d_Pa_cutOf_21 : decode b_Pa_cutOf 21 = .ok (.if_icmp .ge 41, 3) := by decide +kernel
theorem d_Pa_cutOf_24 : decode b_Pa_cutOf 24 = .ok (.iload_n 1, 1) := by decide +kernel
theorem d_Pa_cutOf_25 : decode b_Pa_cutOf 25 = .ok (.iload_n 3, 1) := by decide +kernel
theorem d_Pa_cutOf_26 : decode b_Pa_cutOf 26 = .ok (.ishr, 1) := by decide +kernel
theorem d_Pa_cutOf_27 : decode b_Pa_cutOf 27 = .ok (.iconst 1, 1) := by decide +kernel
theorem d_Pa_cutOf_28 : decode b_Pa_cutOf 28 = .ok (.iand, 1) := by decide +kernel
theorem d_Pa_cutOf_29 : decode b_Pa_cutOf 29 = .ok (.iconst 1, 1) := by decide +kernel
theorem d_Pa_cutOf_30 : decode b_Pa_cutOf 30 = .ok (.if_icmp .ne 26, 3) := by decide +kernel
theorem d_Pa_cutOf_33 : decode b_Pa_cutOf 33 = .ok (.iload_n 1, 1) := by decide +kernel
theorem d_Pa_cutOf_34 : decode b_Pa_cutOf 34 = .ok (.iload 4, 2) := by decide +kernel
theorem d_Pa_cutOf_36 : decode b_Pa_cutOf 36 = .ok (.ishr, 1) := by decide +kernel
theorem d_Pa_cutOf_37 : decode b_Pa_cutOf 37 = .ok (.iconst 1, 1) := by decide +kernel
theorem d_Pa_cutOf_38 : decode b_Pa_cutOf 38 = .ok (.iand, 1) := by decide +kernel
theorem d_Pa_cutOf_39 : decode b_Pa_cutOf 39 = .ok (.ifCond .ne 17, 3) := by decide +kernel
theorem d_Pa_cutOf_42 : decode b_Pa_cutOf 42 = .ok (.iload_n 2, 1) := by decide +kernel
theorem d_Pa_cutOf_43 : decode b_Pa_cutOf 43 = .ok (.aload_n 0, 1) := by decide +kernel
theorem d_Pa_cutOf_44 : decode b_Pa_cutOf 44 = .ok (.getfield 25, 3) := by decide +kernel
theorem d_Pa_cutOf_47 : decode b_Pa_cutOf 47 = .ok (.iload_n 3, 1) := by decide +kernel
theorem d_Pa_cutOf_48 : decode b_Pa_cutOf 48 = .ok (.iload 4, 2) := by decide +kernel
theorem d_Pa_cutOf_50 : decode b_Pa_cutOf 50 = .ok (.invokestatic 50, 3) := by decide +kernel
theorem d_Pa_cutOf_53 : decode b_Pa_cutOf 53 = .ok (.iaload, 1) := by decide +kernel
theorem d_Pa_cutOf_54 : decode b_Pa_cutOf 54 = .ok (.iadd, 1) := by decide +kernel
theorem d_Pa_cutOf_55 : decode b_Pa_cutOf 55 = .ok (.istore_n 2, 1) := by decide +kernel
theorem d_Pa_cutOf_56 : decode b_Pa_cutOf 56 = .ok (.iinc 4 1, 3) := by decide +kernel
theorem d_Pa_cutOf_59 : decode b_Pa_cutOf 59 = .ok (.goto (-44), 3) := by decide +kernel
theorem d_Pa_cutOf_62 : decode b_Pa_cutOf 62 = .ok (.iinc 3 1, 3) := by decide +kernel
theorem d_Pa_cutOf_65 : decode b_Pa_cutOf 65 = .ok (.goto (-61), 3) := by decide +kernel
theorem d_Pa_cutOf_68 : decode b_Pa_cutOf 68 = .ok (.iload_n 2, 1) := by decide +kernel
theorem d_Pa_cutOf_69 : decode b_Pa_cutOf 69 = .ok (.ireturn, 1) := by decide +kernel
theorem mf_Pa_cutOf : zMF y_Pa_cutOf b_Pa_cutOf 5 (some .int) 1 := ⟨zGW_in 1104 (by decide +kernel) (by decide +kernel), zGW_in 131 (by decide +kernel) (by decide +kernel), by decide +kernel⟩
theorem in_Pa_cutOf : Cond.instanceMethod y_Pa_cutOf ∈ zGW := zGW_in 1102 (by decide +kernel) (by decide +kernel)
theorem se_Pa_cutOf : Cond.selects y_Pa_cutOf.cls y_Pa_cutOf y_Pa_cutOf ∈ zGW := zGW_in 1103 (by decide +kernel) (by decide +kernel)
def y_Pa_lightestSet : MethodName := ⟨zNm 4, "lightestSet", "(II)I"⟩
abbrev b_Pa_lightestSet : ByteArray := prog_5_method_18_code
theorem d_Pa_lightestSet_0 : decode b_Pa_lightestSet 0 = .ok (.iconst (-1), 1) := by decide +kernel
theorem d_Pa_lightestSet_1 : decode b_Pa_lightestSet 1 = .ok (.istore_n 3, 1) := by decide +kernel
theorem d_Pa_lightestSet_2 : decode b_Pa_lightestSet 2 = .ok (.ldc 49, 2) := by decide +kernel
theorem d_Pa_lightestSet_4 : decode b_Pa_lightestSet 4 = .ok (.istore 4, 2) := by decide +kernel
theorem d_Pa_lightestSet_6 : decode b_Pa_lightestSet 6 = .ok (.iconst 0, 1) := by decide +kernel
theorem d_Pa_lightestSet_7 : decode b_Pa_lightestSet 7 = .ok (.istore 5, 2) := by decide +kernel
theorem d_Pa_lightestSet_9 : decode b_Pa_lightestSet 9 = .ok (.iload 5, 2) := by decide +kernel
theorem d_Pa_lightestSet_11 : decode b_Pa_lightestSet 11 = .ok (.iconst 1, 1) := by decide +kernel
theorem d_Pa_lightestSet_12 : decode b_Pa_lightestSet 12 = .ok (.aload_n 0, 1) := by decide +kernel
theorem d_Pa_lightestSet_13 : decode b_Pa_lightestSet 13 = .ok (.getfield 9, 3) := by decide +kernel
theorem d_Pa_lightestSet_16 : decode b_Pa_lightestSet 16 = .ok (.ishl, 1) := by decide +kernel
theorem d_Pa_lightestSet_17 : decode b_Pa_lightestSet 17 = .ok (.if_icmp .ge 50, 3) := by decide +kernel
theorem d_Pa_lightestSet_20 : decode b_Pa_lightestSet 20 = .ok (.iload 5, 2) := by decide +kernel
theorem d_Pa_lightestSet_22 : decode b_Pa_lightestSet 22 = .ok (.iload_n 1, 1) := by decide +kernel
theorem d_Pa_lightestSet_23 : decode b_Pa_lightestSet 23 = .ok (.ishr, 1) := by decide +kernel
theorem d_Pa_lightestSet_24 : decode b_Pa_lightestSet 24 = .ok (.iconst 1, 1) := by decide +kernel
theorem d_Pa_lightestSet_25 : decode b_Pa_lightestSet 25 = .ok (.iand, 1) := by decide +kernel
theorem d_Pa_lightestSet_26 : decode b_Pa_lightestSet 26 = .ok (.iconst 1, 1) := by decide +kernel
theorem d_Pa_lightestSet_27 : decode b_Pa_lightestSet 27 = .ok (.if_icmp .ne 34, 3) := by decide +kernel
theorem d_Pa_lightestSet_30 : decode b_Pa_lightestSet 30 = .ok (.iload 5, 2) := by decide +kernel
theorem d_Pa_lightestSet_32 : decode b_Pa_lightestSet 32 = .ok (.iload_n 2, 1) := by decide +kernel
theorem d_Pa_lightestSet_33 : decode b_Pa_lightestSet 33 = .ok (.ishr, 1) := by decide +kernel
theorem d_Pa_lightestSet_34 : decode b_Pa_lightestSet 34 = .ok (.iconst 1, 1) := by decide +kernel
theorem d_Pa_lightestSet_35 : decode b_Pa_lightestSet 35 = .ok (.iand, 1) := by decide +kernel
theorem d_Pa_lightestSet_36 : decode b_Pa_lightestSet 36 = .ok (.ifCond .ne 25, 3) := by decide +kernel
theorem d_Pa_lightestSet_39 : decode b_Pa_lightestSet 39 = .ok (.aload_n 0, 1) := by decide +kernel
theorem d_Pa_lightestSet_40 : decode b_Pa_lightestSet 40 = .ok (.iload 5, 2) := by decide +kernel
theorem d_Pa_lightestSet_42 : decode b_Pa_lightestSet 42 = .ok (.invokevirtual 77, 3) := by decide +kernel
theorem d_Pa_lightestSet_45 : decode b_Pa_lightestSet 45 = .ok (.istore 6, 2) := by decide +kernel
theorem d_Pa_lightestSet_47 : decode b_Pa_lightestSet 47 = .ok (.iload 6, 2) := by decide +kernel
theorem d_Pa_lightestSet_49 : decode b_Pa_lightestSet 49 = .ok (.iload 4, 2) := by decide +kernel
theorem d_Pa_lightestSet_51 : decode b_Pa_lightestSet 51 = .ok (.if_icmp .ge 10, 3) := by decide +kernel
theorem d_Pa_lightestSet_54 : decode b_Pa_lightestSet 54 = .ok (.iload 5, 2) := by decide +kernel
theorem d_Pa_lightestSet_56 : decode b_Pa_lightestSet 56 = .ok (.istore_n 3, 1) := by decide +kernel
theorem d_Pa_lightestSet_57 : decode b_Pa_lightestSet 57 = .ok (.iload 6, 2) := by decide +kernel
theorem d_Pa_lightestSet_59 : decode b_Pa_lightestSet 59 = .ok (.istore 4, 2) := by decide +kernel
theorem d_Pa_lightestSet_61 : decode b_Pa_lightestSet 61 = .ok (.iinc 5 1, 3) := by decide +kernel
theorem d_Pa_lightestSet_64 : decode b_Pa_lightestSet 64 = .ok (.goto (-55), 3) := by decide +kernel
theorem d_Pa_lightestSet_67 : decode b_Pa_lightestSet 67 = .ok (.iload_n 3, 1) := by decide +kernel
theorem d_Pa_lightestSet_68 : decode b_Pa_lightestSet 68 = .ok (.ireturn, 1) := by decide +kernel
theorem mf_Pa_lightestSet : zMF y_Pa_lightestSet b_Pa_lightestSet 7 (some .int) 2 := ⟨zGW_in 1100 (by decide +kernel) (by decide +kernel), zGW_in 131 (by decide +kernel) (by decide +kernel), by decide +kernel⟩
theorem in_Pa_lightestSet : Cond.instanceMethod y_Pa_lightestSet ∈ zGW := zGW_in 1098 (by decide +kernel) (by decide +kernel)
theorem se_Pa_lightestSet : Cond.selects y_Pa_lightestSet.cls y_Pa_lightestSet y_Pa_lightestSet ∈ zGW := zGW_in 1099 (by decide +kernel) (by decide +kernel)
def y_E_bound : MethodName := ⟨zNm 0, "bound", "(III)I"⟩
abbrev b_E_bound : ByteArray := prog_1_method_26_code
theorem d_E_bound_0 : decode b_E_bound 0 = .ok (.iload_n 1, 1) := by decide +kernel
theorem d_E_bound_1 : decode b_E_bound 1 = .ok (.iload_n 2, 1) := by decide +kernel
theorem d_E_bound_2 : decode b_E_bound 2 = .ok (.if_icmp .eq 34, 3) := by decide +kernel
theorem d_E_bound_5 : decode b_E_bound 5 = .ok (.aload_n 0, 1) := by decide +kernel
theorem d_E_bound_6 : decode b_E_bound 6 = .ok (.getfield 12, 3) := by decide +kernel
theorem d_E_bound_9 : decode b_E_bound 9 = .ok (.iload_n 1, 1) := by decide +kernel
theorem d_E_bound_10 : decode b_E_bound 10 = .ok (.invokevirtual 126, 3) := by decide +kernel
theorem d_E_bound_13 : decode b_E_bound 13 = .ok (.ifCond .eq 23, 3) := by decide +kernel
theorem d_E_bound_16 : decode b_E_bound 16 = .ok (.aload_n 0, 1) := by decide +kernel
theorem d_E_bound_17 : decode b_E_bound 17 = .ok (.getfield 12, 3) := by decide +kernel
theorem d_E_bound_20 : decode b_E_bound 20 = .ok (.iload_n 2, 1) := by decide +kernel
theorem d_E_bound_21 : decode b_E_bound 21 = .ok (.invokevirtual 126, 3) := by decide +kernel
theorem d_E_bound_24 : decode b_E_bound 24 = .ok (.ifCond .eq 12, 3) := by decide +kernel
theorem d_E_bound_27 : decode b_E_bound 27 = .ok (.iload_n 3, 1) := by decide +kernel
theorem d_E_bound_28 : decode b_E_bound 28 = .ok (.ifCond .lt 8, 3) := by decide +kernel
theorem d_E_bound_31 : decode b_E_bound 31 = .ok (.iload_n 3, 1) := by decide +kernel
theorem d_E_bound_32 : decode b_E_bound 32 = .ok (.iconst 1, 1) := by decide +kernel
theorem d_E_bound_33 : decode b_E_bound 33 = .ok (.if_icmp .le 5, 3) := by decide +kernel
theorem d_E_bound_36 : decode b_E_bound 36 = .ok (.iconst (-1), 1) := by decide +kernel
theorem d_E_bound_37 : decode b_E_bound 37 = .ok (.ireturn, 1) := by decide +kernel
theorem d_E_bound_38 : decode b_E_bound 38 = .ok (.aload_n 0, 1) := by decide +kernel
theorem d_E_bound_39 : decode b_E_bound 39 = .ok (.getfield 60, 3) := by decide +kernel
theorem d_E_bound_42 : decode b_E_bound 42 = .ok (.aload_n 0, 1) := by decide +kernel
theorem d_E_bound_43 : decode b_E_bound 43 = .ok (.getfield 12, 3) := by decide +kernel
theorem d_E_bound_46 : decode b_E_bound 46 = .ok (.aload_n 0, 1) := by decide +kernel
theorem d_E_bound_47 : decode b_E_bound 47 = .ok (.getfield 53, 3) := by decide +kernel
theorem d_E_bound_50 : decode b_E_bound 50 = .ok (.invokevirtual 261, 3) := by decide +kernel
theorem d_E_bound_53 : decode b_E_bound 53 = .ok (.aload_n 0, 1) := by decide +kernel
theorem d_E_bound_54 : decode b_E_bound 54 = .ok (.getfield 60, 3) := by decide +kernel
theorem d_E_bound_57 : decode b_E_bound 57 = .ok (.iload_n 1, 1) := by decide +kernel
theorem d_E_bound_58 : decode b_E_bound 58 = .ok (.iload_n 2, 1) := by decide +kernel
theorem d_E_bound_59 : decode b_E_bound 59 = .ok (.invokevirtual 265, 3) := by decide +kernel
theorem d_E_bound_62 : decode b_E_bound 62 = .ok (.istore 4, 2) := by decide +kernel
theorem d_E_bound_64 : decode b_E_bound 64 = .ok (.iload_n 3, 1) := by decide +kernel
theorem d_E_bound_65 : decode b_E_bound 65 = .ok (.ifCond .ne 15, 3) := by decide +kernel
theorem d_E_bound_68 : decode b_E_bound 68 = .ok (.aload_n 0, 1) := by decide +kernel
theorem d_E_bound_69 : decode b_E_bound 69 = .ok (.getfield 60, 3) := by decide +kernel
theorem d_E_bound_72 : decode b_E_bound 72 = .ok (.iload 4, 2) := by decide +kernel
theorem d_E_bound_74 : decode b_E_bound 74 = .ok (.invokevirtual 268, 3) := by decide +kernel
theorem d_E_bound_77 : decode b_E_bound 77 = .ok (.goto 5, 3) := by decide +kernel
theorem d_E_bound_80 : decode b_E_bound 80 = .ok (.iload 4, 2) := by decide +kernel
theorem d_E_bound_82 : decode b_E_bound 82 = .ok (.ireturn, 1) := by decide +kernel
theorem mf_E_bound : zMF y_E_bound b_E_bound 5 (some .int) 3 := ⟨zGW_in 1091 (by decide +kernel) (by decide +kernel), zGW_in 124 (by decide +kernel) (by decide +kernel), by decide +kernel⟩
theorem in_E_bound : Cond.instanceMethod y_E_bound ∈ zGW := zGW_in 1089 (by decide +kernel) (by decide +kernel)
theorem se_E_bound : Cond.selects y_E_bound.cls y_E_bound y_E_bound ∈ zGW := zGW_in 1090 (by decide +kernel) (by decide +kernel)
def y_Pa_nearestOf : MethodName := ⟨zNm 4, "nearestOf", "(II)I"⟩
abbrev b_Pa_nearestOf : ByteArray := prog_5_method_15_code
theorem d_Pa_nearestOf_0 : decode b_Pa_nearestOf 0 = .ok (.iconst (-1), 1) := by decide +kernel
theorem d_Pa_nearestOf_1 : decode b_Pa_nearestOf 1 = .ok (.istore_n 3, 1) := by decide +kernel
theorem d_Pa_nearestOf_2 : decode b_Pa_nearestOf 2 = .ok (.ldc 49, 2) := by decide +kernel
theorem d_Pa_nearestOf_4 : decode b_Pa_nearestOf 4 = .ok (.istore 4, 2) := by decide +kernel
theorem d_Pa_nearestOf_6 : decode b_Pa_nearestOf 6 = .ok (.iconst 0, 1) := by decide +kernel
theorem d_Pa_nearestOf_7 : decode b_Pa_nearestOf 7 = .ok (.istore 5, 2) := by decide +kernel
theorem d_Pa_nearestOf_9 : decode b_Pa_nearestOf 9 = .ok (.aload_n 0, 1) := by decide +kernel
theorem d_Pa_nearestOf_10 : decode b_Pa_nearestOf 10 = .ok (.iload_n 2, 1) := by decide +kernel
theorem d_Pa_nearestOf_11 : decode b_Pa_nearestOf 11 = .ok (.invokevirtual 61, 3) := by decide +kernel
theorem d_Pa_nearestOf_14 : decode b_Pa_nearestOf 14 = .ok (.ifCond .eq 55, 3) := by decide +kernel
theorem d_Pa_nearestOf_17 : decode b_Pa_nearestOf 17 = .ok (.iload 5, 2) := by decide +kernel
theorem d_Pa_nearestOf_19 : decode b_Pa_nearestOf 19 = .ok (.aload_n 0, 1) := by decide +kernel
theorem d_Pa_nearestOf_20 : decode b_Pa_nearestOf 20 = .ok (.getfield 9, 3) := by decide +kernel
theorem d_Pa_nearestOf_23 : decode b_Pa_nearestOf 23 = .ok (.if_icmp .ge 46, 3) := by decide +kernel
theorem d_Pa_nearestOf_26 : decode b_Pa_nearestOf 26 = .ok (.aload_n 0, 1) := by decide +kernel
theorem d_Pa_nearestOf_27 : decode b_Pa_nearestOf 27 = .ok (.getfield 22, 3) := by decide +kernel
theorem d_Pa_nearestOf_30 : decode b_Pa_nearestOf 30 = .ok (.iload 5, 2) := by decide +kernel
theorem d_Pa_nearestOf_32 : decode b_Pa_nearestOf 32 = .ok (.iload_n 2, 1) := by decide +kernel
theorem d_Pa_nearestOf_33 : decode b_Pa_nearestOf 33 = .ok (.invokestatic 50, 3) := by decide +kernel
theorem d_Pa_nearestOf_36 : decode b_Pa_nearestOf 36 = .ok (.iaload, 1) := by decide +kernel
theorem d_Pa_nearestOf_37 : decode b_Pa_nearestOf 37 = .ok (.istore 6, 2) := by decide +kernel
theorem d_Pa_nearestOf_39 : decode b_Pa_nearestOf 39 = .ok (.iload_n 1, 1) := by decide +kernel
theorem d_Pa_nearestOf_40 : decode b_Pa_nearestOf 40 = .ok (.iload 5, 2) := by decide +kernel
theorem d_Pa_nearestOf_42 : decode b_Pa_nearestOf 42 = .ok (.ishr, 1) := by decide +kernel
theorem d_Pa_nearestOf_43 : decode b_Pa_nearestOf 43 = .ok (.iconst 1, 1) := by decide +kernel
theorem d_Pa_nearestOf_44 : decode b_Pa_nearestOf 44 = .ok (.iand, 1) := by decide +kernel
theorem d_Pa_nearestOf_45 : decode b_Pa_nearestOf 45 = .ok (.iconst 1, 1) := by decide +kernel
theorem d_Pa_nearestOf_46 : decode b_Pa_nearestOf 46 = .ok (.if_icmp .ne 17, 3) := by decide +kernel
theorem d_Pa_nearestOf_49 : decode b_Pa_nearestOf 49 = .ok (.iload 6, 2) := by decide +kernel
theorem d_Pa_nearestOf_51 : decode b_Pa_nearestOf 51 = .ok (.iload 4, 2) := by decide +kernel
theorem d_Pa_nearestOf_53 : decode b_Pa_nearestOf 53 = .ok (.if_icmp .ge 10, 3) := by decide +kernel
theorem d_Pa_nearestOf_56 : decode b_Pa_nearestOf 56 = .ok (.iload 5, 2) := by decide +kernel
theorem d_Pa_nearestOf_58 : decode b_Pa_nearestOf 58 = .ok (.istore_n 3, 1) := by decide +kernel
theorem d_Pa_nearestOf_59 : decode b_Pa_nearestOf 59 = .ok (.iload 6, 2) := by decide +kernel
theorem d_Pa_nearestOf_61 : decode b_Pa_nearestOf 61 = .ok (.istore 4, 2) := by decide +kernel
theorem d_Pa_nearestOf_63 : decode b_Pa_nearestOf 63 = .ok (.iinc 5 1, 3) := by decide +kernel
theorem d_Pa_nearestOf_66 : decode b_Pa_nearestOf 66 = .ok (.goto (-57), 3) := by decide +kernel
theorem d_Pa_nearestOf_69 : decode b_Pa_nearestOf 69 = .ok (.iload_n 3, 1) := by decide +kernel
theorem d_Pa_nearestOf_70 : decode b_Pa_nearestOf 70 = .ok (.ireturn, 1) := by decide +kernel
theorem mf_Pa_nearestOf : zMF y_Pa_nearestOf b_Pa_nearestOf 7 (some .int) 2 := ⟨zGW_in 1113 (by decide +kernel) (by decide +kernel), zGW_in 131 (by decide +kernel) (by decide +kernel), by decide +kernel⟩
theorem in_Pa_nearestOf : Cond.instanceMethod y_Pa_nearestOf ∈ zGW := zGW_in 1111 (by decide +kernel) (by decide +kernel)
theorem se_Pa_nearestOf : Cond.selects y_Pa_nearestOf.cls y_Pa_nearestOf y_Pa_nearestOf ∈ zGW := zGW_in 1112 (by decide +kernel) (by decide +kernel)
def y_E_share : MethodName := ⟨zNm 0, "share", "(II)I"⟩
abbrev b_E_share : ByteArray := prog_1_method_27_code
theorem d_E_share_0 : decode b_E_share 0 = .ok (.aload_n 0, 1) := by decide +kernel
theorem d_E_share_1 : decode b_E_share 1 = .ok (.getfield 12, 3) := by decide +kernel
theorem d_E_share_4 : decode b_E_share 4 = .ok (.iload_n 2, 1) := by decide +kernel
theorem d_E_share_5 : decode b_E_share 5 = .ok (.invokevirtual 126, 3) := by decide +kernel
theorem d_E_share_8 : decode b_E_share 8 = .ok (.ifCond .eq 14, 3) := by decide +kernel
theorem d_E_share_11 : decode b_E_share 11 = .ok (.aload_n 0, 1) := by decide +kernel
theorem d_E_share_12 : decode b_E_share 12 = .ok (.getfield 12, 3) := by decide +kernel
theorem d_E_share_15 : decode b_E_share 15 = .ok (.iload_n 1, 1) := by decide +kernel
theorem d_E_share_16 : decode b_E_share 16 = .ok (.invokevirtual 245, 3) := by decide +kernel
theorem d_E_share_19 : decode b_E_share 19 = .ok (.ifCond .ne 5, 3) := by decide +kernel
theorem d_E_share_22 : decode b_E_share 22 = .ok (.iconst (-1), 1) := by decide +kernel
theorem d_E_share_23 : decode b_E_share 23 = .ok (.ireturn, 1) := by decide +kernel
theorem d_E_share_24 : decode b_E_share 24 = .ok (.aload_n 0, 1) := by decide +kernel
theorem d_E_share_25 : decode b_E_share 25 = .ok (.invokevirtual 226, 3) := by decide +kernel
theorem d_E_share_28 : decode b_E_share 28 = .ok (.aload_n 0, 1) := by decide +kernel
theorem d_E_share_29 : decode b_E_share 29 = .ok (.getfield 60, 3) := by decide +kernel
theorem d_E_share_32 : decode b_E_share 32 = .ok (.iload_n 1, 1) := by decide +kernel
theorem d_E_share_33 : decode b_E_share 33 = .ok (.iload_n 2, 1) := by decide +kernel
theorem d_E_share_34 : decode b_E_share 34 = .ok (.invokevirtual 271, 3) := by decide +kernel
theorem d_E_share_37 : decode b_E_share 37 = .ok (.ireturn, 1) := by decide +kernel
theorem mf_E_share : zMF y_E_share b_E_share 3 (some .int) 2 := ⟨zGW_in 1109 (by decide +kernel) (by decide +kernel), zGW_in 124 (by decide +kernel) (by decide +kernel), by decide +kernel⟩
theorem in_E_share : Cond.instanceMethod y_E_share ∈ zGW := zGW_in 1107 (by decide +kernel) (by decide +kernel)
theorem se_E_share : Cond.selects y_E_share.cls y_E_share y_E_share ∈ zGW := zGW_in 1108 (by decide +kernel) (by decide +kernel)
def y_Pa_isShut : MethodName := ⟨zNm 4, "isShut", "(II)Z"⟩
abbrev b_Pa_isShut : ByteArray := prog_5_method_8_code
theorem d_Pa_isShut_0 : decode b_Pa_isShut 0 = .ok (.aload_n 0, 1) := by decide +kernel
theorem d_Pa_isShut_1 : decode b_Pa_isShut 1 = .ok (.iload_n 1, 1) := by decide +kernel
theorem d_Pa_isShut_2 : decode b_Pa_isShut 2 = .ok (.invokevirtual 61, 3) := by decide +kernel
theorem d_Pa_isShut_5 : decode b_Pa_isShut 5 = .ok (.ifCond .eq 38, 3) := by decide +kernel
theorem d_Pa_isShut_8 : decode b_Pa_isShut 8 = .ok (.aload_n 0, 1) := by decide +kernel
theorem d_Pa_isShut_9 : decode b_Pa_isShut 9 = .ok (.iload_n 2, 1) := by decide +kernel
theorem d_Pa_isShut_10 : decode b_Pa_isShut 10 = .ok (.invokevirtual 61, 3) := by decide +kernel
theorem d_Pa_isShut_13 : decode b_Pa_isShut 13 = .ok (.ifCond .eq 30, 3) := by decide +kernel
theorem d_Pa_isShut_16 : decode b_Pa_isShut 16 = .ok (.aload_n 0, 1) := by decide +kernel
theorem d_Pa_isShut_17 : decode b_Pa_isShut 17 = .ok (.getfield 15, 3) := by decide +kernel
theorem d_Pa_isShut_20 : decode b_Pa_isShut 20 = .ok (.iload_n 1, 1) := by decide +kernel
theorem d_Pa_isShut_21 : decode b_Pa_isShut 21 = .ok (.iload_n 2, 1) := by decide +kernel
theorem d_Pa_isShut_22 : decode b_Pa_isShut 22 = .ok (.invokestatic 50, 3) := by decide +kernel
theorem d_Pa_isShut_25 : decode b_Pa_isShut 25 = .ok (.iaload, 1) := by decide +kernel
theorem d_Pa_isShut_26 : decode b_Pa_isShut 26 = .ok (.aload_n 0, 1) := by decide +kernel
theorem d_Pa_isShut_27 : decode b_Pa_isShut 27 = .ok (.getfield 19, 3) := by decide +kernel
theorem d_Pa_isShut_30 : decode b_Pa_isShut 30 = .ok (.iload_n 1, 1) := by decide +kernel
theorem d_Pa_isShut_31 : decode b_Pa_isShut 31 = .ok (.iload_n 2, 1) := by decide +kernel
theorem d_Pa_isShut_32 : decode b_Pa_isShut 32 = .ok (.invokestatic 50, 3) := by decide +kernel
theorem d_Pa_isShut_35 : decode b_Pa_isShut 35 = .ok (.iaload, 1) := by decide +kernel
theorem d_Pa_isShut_36 : decode b_Pa_isShut 36 = .ok (.if_icmp .eq 7, 3) := by decide +kernel
theorem d_Pa_isShut_39 : decode b_Pa_isShut 39 = .ok (.iconst 1, 1) := by decide +kernel
theorem d_Pa_isShut_40 : decode b_Pa_isShut 40 = .ok (.goto 4, 3) := by decide +kernel
theorem d_Pa_isShut_43 : decode b_Pa_isShut 43 = .ok (.iconst 0, 1) := by decide +kernel
theorem d_Pa_isShut_44 : decode b_Pa_isShut 44 = .ok (.ireturn, 1) := by decide +kernel
theorem mf_Pa_isShut : zMF y_Pa_isShut b_Pa_isShut 3 (some .boolean) 2 := ⟨zGW_in 1135 (by decide +kernel) (by decide +kernel), zGW_in 131 (by decide +kernel) (by decide +kernel), by decide +kernel⟩
theorem in_Pa_isShut : Cond.instanceMethod y_Pa_isShut ∈ zGW := zGW_in 1133 (by decide +kernel) (by decide +kernel)
theorem se_Pa_isShut : Cond.selects y_Pa_isShut.cls y_Pa_isShut y_Pa_isShut ∈ zGW := zGW_in 1134 (by decide +kernel) (by decide +kernel)
def y_Pa_daysThrough : MethodName := ⟨zNm 4, "daysThrough", "(II)I"⟩
abbrev b_Pa_daysThrough : ByteArray := prog_5_method_7_code
theorem d_Pa_daysThrough_0 : decode b_Pa_daysThrough 0 = .ok (.aload_n 0, 1) := by decide +kernel
theorem d_Pa_daysThrough_1 : decode b_Pa_daysThrough 1 = .ok (.iload_n 1, 1) := by decide +kernel
theorem d_Pa_daysThrough_2 : decode b_Pa_daysThrough 2 = .ok (.invokevirtual 61, 3) := by decide +kernel
theorem d_Pa_daysThrough_5 : decode b_Pa_daysThrough 5 = .ok (.ifCond .eq 24, 3) := by decide +kernel
theorem d_Pa_daysThrough_8 : decode b_Pa_daysThrough 8 = .ok (.aload_n 0, 1) := by decide +kernel
theorem d_Pa_daysThrough_9 : decode b_Pa_daysThrough 9 = .ok (.iload_n 2, 1) := by decide +kernel
theorem d_Pa_daysThrough_10 : decode b_Pa_daysThrough 10 = .ok (.invokevirtual 61, 3) := by decide +kernel
theorem d_Pa_daysThrough_13 : decode b_Pa_daysThrough 13 = .ok (.ifCond .eq 16, 3) := by decide +kernel
theorem d_Pa_daysThrough_16 : decode b_Pa_daysThrough 16 = .ok (.aload_n 0, 1) := by decide +kernel
theorem d_Pa_daysThrough_17 : decode b_Pa_daysThrough 17 = .ok (.getfield 15, 3) := by decide +kernel
theorem d_Pa_daysThrough_20 : decode b_Pa_daysThrough 20 = .ok (.iload_n 1, 1) := by decide +kernel
theorem d_Pa_daysThrough_21 : decode b_Pa_daysThrough 21 = .ok (.iload_n 2, 1) := by decide +kernel
theorem d_Pa_daysThrough_22 : decode b_Pa_daysThrough 22 = .ok (.invokestatic 50, 3) := by decide +kernel
theorem d_Pa_daysThrough_25 : decode b_Pa_daysThrough 25 = .ok (.iaload, 1) := by decide +kernel
theorem d_Pa_daysThrough_26 : decode b_Pa_daysThrough 26 = .ok (.goto 5, 3) := by decide +kernel
theorem d_Pa_daysThrough_29 : decode b_Pa_daysThrough 29 = .ok (.ldc 49, 2) := by decide +kernel
theorem d_Pa_daysThrough_31 : decode b_Pa_daysThrough 31 = .ok (.ireturn, 1) := by decide +kernel
theorem mf_Pa_daysThrough : zMF y_Pa_daysThrough b_Pa_daysThrough 3 (some .int) 2 := ⟨zGW_in 1139 (by decide +kernel) (by decide +kernel), zGW_in 131 (by decide +kernel) (by decide +kernel), by decide +kernel⟩
theorem in_Pa_daysThrough : Cond.instanceMethod y_Pa_daysThrough ∈ zGW := zGW_in 1137 (by decide +kernel) (by decide +kernel)
theorem se_Pa_daysThrough : Cond.selects y_Pa_daysThrough.cls y_Pa_daysThrough y_Pa_daysThrough ∈ zGW := zGW_in 1138 (by decide +kernel) (by decide +kernel)
def y_Ou_leftFrom : MethodName := ⟨zNm 3, "leftFrom", "(II)I"⟩
abbrev b_Ou_leftFrom : ByteArray := prog_4_method_4_code
theorem d_Ou_leftFrom_0 : decode b_Ou_leftFrom 0 = .ok (.iload_n 2, 1) := by decide +kernel
theorem d_Ou_leftFrom_1 : decode b_Ou_leftFrom 1 = .ok (.bipush 9, 2) := by decide +kernel
theorem d_Ou_leftFrom_3 : decode b_Ou_leftFrom 3 = .ok (.imul, 1) := by decide +kernel
theorem d_Ou_leftFrom_4 : decode b_Ou_leftFrom 4 = .ok (.iload_n 1, 1) := by decide +kernel
theorem d_Ou_leftFrom_5 : decode b_Ou_leftFrom 5 = .ok (.iadd, 1) := by decide +kernel
theorem d_Ou_leftFrom_6 : decode b_Ou_leftFrom 6 = .ok (.istore_n 3, 1) := by decide +kernel
theorem d_Ou_leftFrom_7 : decode b_Ou_leftFrom 7 = .ok (.iload_n 2, 1) := by decide +kernel
theorem d_Ou_leftFrom_8 : decode b_Ou_leftFrom 8 = .ok (.ifCond .lt 25, 3) := by decide +kernel
theorem d_Ou_leftFrom_11 : decode b_Ou_leftFrom 11 = .ok (.iload_n 3, 1) := by decide +kernel
theorem d_Ou_leftFrom_12 : decode b_Ou_leftFrom 12 = .ok (.ifCond .lt 21, 3) := by decide +kernel
theorem d_Ou_leftFrom_15 : decode b_Ou_leftFrom 15 = .ok (.iload_n 3, 1) := by decide +kernel
theorem d_Ou_leftFrom_16 : decode b_Ou_leftFrom 16 = .ok (.aload_n 0, 1) := by decide +kernel
theorem d_Ou_leftFrom_17 : decode b_Ou_leftFrom 17 = .ok (.getfield 9, 3) := by decide +kernel
theorem d_Ou_leftFrom_20 : decode b_Ou_leftFrom 20 = .ok (.arraylength, 1) := by decide +kernel
theorem d_Ou_leftFrom_21 : decode b_Ou_leftFrom 21 = .ok (.if_icmp .ge 12, 3) := by decide +kernel
theorem d_Ou_leftFrom_24 : decode b_Ou_leftFrom 24 = .ok (.aload_n 0, 1) := by decide +kernel
theorem d_Ou_leftFrom_25 : decode b_Ou_leftFrom 25 = .ok (.getfield 9, 3) := by decide +kernel
theorem d_Ou_leftFrom_28 : decode b_Ou_leftFrom 28 = .ok (.iload_n 3, 1) := by decide +kernel
theorem d_Ou_leftFrom_29 : decode b_Ou_leftFrom 29 = .ok (.iaload, 1) := by decide +kernel
theorem d_Ou_leftFrom_30 : decode b_Ou_leftFrom 30 = .ok (.goto 5, 3) := by decide +kernel
theorem d_Ou_leftFrom_33 : decode b_Ou_leftFrom 33 = .ok (.ldc 19, 2) := by decide +kernel
theorem d_Ou_leftFrom_35 : decode b_Ou_leftFrom 35 = .ok (.ireturn, 1) := by decide +kernel
theorem mf_Ou_leftFrom : zMF y_Ou_leftFrom b_Ou_leftFrom 4 (some .int) 2 := ⟨zGW_in 1143 (by decide +kernel) (by decide +kernel), zGW_in 133 (by decide +kernel) (by decide +kernel), by decide +kernel⟩
theorem in_Ou_leftFrom : Cond.instanceMethod y_Ou_leftFrom ∈ zGW := zGW_in 1142 (by decide +kernel) (by decide +kernel)
theorem se_Ou_leftFrom : Cond.selects y_Ou_leftFrom.cls y_Ou_leftFrom y_Ou_leftFrom ∈ zGW := zGW_in 33 (by decide +kernel) (by decide +kernel)
def y_Ou_daysBy : MethodName := ⟨zNm 3, "daysBy", "(LEelClerk$Paper;III)I"⟩
abbrev b_Ou_daysBy : ByteArray := prog_4_method_5_code
theorem d_Ou_daysBy_0 : decode b_Ou_daysBy 0 = .ok (.aload_n 1, 1) := by decide +kernel
theorem d_Ou_daysBy_1 : decode b_Ou_daysBy 1 = .ok (.iload_n 2, 1) := by decide +kernel
theorem d_Ou_daysBy_2 : decode b_Ou_daysBy 2 = .ok (.iload_n 3, 1) := by decide +kernel
theorem d_Ou_daysBy_3 : decode b_Ou_daysBy 3 = .ok (.invokevirtual 34, 3) := by decide +kernel
theorem d_Ou_daysBy_6 : decode b_Ou_daysBy 6 = .ok (.ifCond .eq 10, 3) := by decide +kernel
theorem d_Ou_daysBy_9 : decode b_Ou_daysBy 9 = .ok (.iload 4, 2) := by decide +kernel
theorem d_Ou_daysBy_11 : decode b_Ou_daysBy 11 = .ok (.iconst 1, 1) := by decide +kernel
theorem d_Ou_daysBy_12 : decode b_Ou_daysBy 12 = .ok (.isub, 1) := by decide +kernel
theorem d_Ou_daysBy_13 : decode b_Ou_daysBy 13 = .ok (.goto 5, 3) := by decide +kernel
theorem d_Ou_daysBy_16 : decode b_Ou_daysBy 16 = .ok (.iload 4, 2) := by decide +kernel
theorem d_Ou_daysBy_18 : decode b_Ou_daysBy 18 = .ok (.istore 5, 2) := by decide +kernel
theorem d_Ou_daysBy_20 : decode b_Ou_daysBy 20 = .ok (.aload_n 1, 1) := by decide +kernel
theorem d_Ou_daysBy_21 : decode b_Ou_daysBy 21 = .ok (.iload_n 2, 1) := by decide +kernel
theorem d_Ou_daysBy_22 : decode b_Ou_daysBy 22 = .ok (.iload_n 3, 1) := by decide +kernel
theorem d_Ou_daysBy_23 : decode b_Ou_daysBy 23 = .ok (.invokevirtual 40, 3) := by decide +kernel
theorem d_Ou_daysBy_26 : decode b_Ou_daysBy 26 = .ok (.aload_n 0, 1) := by decide +kernel
theorem d_Ou_daysBy_27 : decode b_Ou_daysBy 27 = .ok (.iload_n 3, 1) := by decide +kernel
theorem d_Ou_daysBy_28 : decode b_Ou_daysBy 28 = .ok (.iload 5, 2) := by decide +kernel
theorem d_Ou_daysBy_30 : decode b_Ou_daysBy 30 = .ok (.invokevirtual 44, 3) := by decide +kernel
theorem d_Ou_daysBy_33 : decode b_Ou_daysBy 33 = .ok (.iadd, 1) := by decide +kernel
theorem d_Ou_daysBy_34 : decode b_Ou_daysBy 34 = .ok (.ireturn, 1) := by decide +kernel
theorem mf_Ou_daysBy : zMF y_Ou_daysBy b_Ou_daysBy 6 (some .int) 4 := ⟨zGW_in 1131 (by decide +kernel) (by decide +kernel), zGW_in 133 (by decide +kernel) (by decide +kernel), by decide +kernel⟩
theorem in_Ou_daysBy : Cond.instanceMethod y_Ou_daysBy ∈ zGW := zGW_in 1130 (by decide +kernel) (by decide +kernel)
theorem se_Ou_daysBy : Cond.selects y_Ou_daysBy.cls y_Ou_daysBy y_Ou_daysBy ∈ zGW := zGW_in 32 (by decide +kernel) (by decide +kernel)
def y_Ou_shorten : MethodName := ⟨zNm 3, "shorten", "(LEelClerk$Paper;I)V"⟩
abbrev b_Ou_shorten : ByteArray := prog_4_method_3_code
theorem d_Ou_shorten_0 : decode b_Ou_shorten 0 = .ok (.iconst 0, 1) := by decide +kernel
theorem d_Ou_shorten_1 : decode b_Ou_shorten 1 = .ok (.istore_n 3, 1) := by decide +kernel
theorem d_Ou_shorten_2 : decode b_Ou_shorten 2 = .ok (.iload_n 3, 1) := by decide +kernel
theorem d_Ou_shorten_3 : decode b_Ou_shorten 3 = .ok (.bipush 9, 2) := by decide +kernel
theorem d_Ou_shorten_5 : decode b_Ou_shorten 5 = .ok (.if_icmp .ge 65, 3) := by decide +kernel
theorem d_Ou_shorten_8 : decode b_Ou_shorten 8 = .ok (.iconst 0, 1) := by decide +kernel
theorem d_Ou_shorten_9 : decode b_Ou_shorten 9 = .ok (.istore 4, 2) := by decide +kernel
theorem d_Ou_shorten_11 : decode b_Ou_shorten 11 = .ok (.iload 4, 2) := by decide +kernel
theorem d_Ou_shorten_13 : decode b_Ou_shorten 13 = .ok (.bipush 9, 2) := by decide +kernel
theorem d_Ou_shorten_15 : decode b_Ou_shorten 15 = .ok (.if_icmp .ge 49, 3) := by decide +kernel
theorem d_Ou_shorten_18 : decode b_Ou_shorten 18 = .ok (.aload_n 0, 1) := by decide +kernel
theorem d_Ou_shorten_19 : decode b_Ou_shorten 19 = .ok (.aload_n 1, 1) := by decide +kernel
theorem d_Ou_shorten_20 : decode b_Ou_shorten 20 = .ok (.iload_n 3, 1) := by decide +kernel
theorem d_Ou_shorten_21 : decode b_Ou_shorten 21 = .ok (.iload 4, 2) := by decide +kernel
theorem d_Ou_shorten_23 : decode b_Ou_shorten 23 = .ok (.iload_n 2, 1) := by decide +kernel
theorem d_Ou_shorten_24 : decode b_Ou_shorten 24 = .ok (.invokevirtual 30, 3) := by decide +kernel
theorem d_Ou_shorten_27 : decode b_Ou_shorten 27 = .ok (.istore 5, 2) := by decide +kernel
theorem d_Ou_shorten_29 : decode b_Ou_shorten 29 = .ok (.iload 5, 2) := by decide +kernel
theorem d_Ou_shorten_31 : decode b_Ou_shorten 31 = .ok (.aload_n 0, 1) := by decide +kernel
theorem d_Ou_shorten_32 : decode b_Ou_shorten 32 = .ok (.getfield 9, 3) := by decide +kernel
theorem d_Ou_shorten_35 : decode b_Ou_shorten 35 = .ok (.iload_n 2, 1) := by decide +kernel
theorem d_Ou_shorten_36 : decode b_Ou_shorten 36 = .ok (.bipush 9, 2) := by decide +kernel
theorem d_Ou_shorten_38 : decode b_Ou_shorten 38 = .ok (.imul, 1) := by decide +kernel
theorem d_Ou_shorten_39 : decode b_Ou_shorten 39 = .ok (.iload_n 3, 1) := by decide +kernel
theorem d_Ou_shorten_40 : decode b_Ou_shorten 40 = .ok (.iadd, 1) := by decide +kernel
theorem d_Ou_shorten_41 : decode b_Ou_shorten 41 = .ok (.iaload, 1) := by decide +kernel
theorem d_Ou_shorten_42 : decode b_Ou_shorten 42 = .ok (.if_icmp .ge 16, 3) := by decide +kernel
theorem d_Ou_shorten_45 : decode b_Ou_shorten 45 = .ok (.aload_n 0, 1) := by decide +kernel
theorem d_Ou_shorten_46 : decode b_Ou_shorten 46 = .ok (.getfield 9, 3) := by decide +kernel
theorem d_Ou_shorten_49 : decode b_Ou_shorten 49 = .ok (.iload_n 2, 1) := by decide +kernel
theorem d_Ou_shorten_50 : decode b_Ou_shorten 50 = .ok (.bipush 9, 2) := by decide +kernel
theorem d_Ou_shorten_52 : decode b_Ou_shorten 52 = .ok (.imul, 1) := by decide +kernel
theorem d_Ou_shorten_53 : decode b_Ou_shorten 53 = .ok (.iload_n 3, 1) := by decide +kernel
theorem d_Ou_shorten_54 : decode b_Ou_shorten 54 = .ok (.iadd, 1) := by decide +kernel
theorem d_Ou_shorten_55 : decode b_Ou_shorten 55 = .ok (.iload 5, 2) := by decide +kernel
theorem d_Ou_shorten_57 : decode b_Ou_shorten 57 = .ok (.iastore, 1) := by decide +kernel
theorem d_Ou_shorten_58 : decode b_Ou_shorten 58 = .ok (.iinc 4 1, 3) := by decide +kernel
theorem d_Ou_shorten_61 : decode b_Ou_shorten 61 = .ok (.goto (-50), 3) := by decide +kernel
theorem d_Ou_shorten_64 : decode b_Ou_shorten 64 = .ok (.iinc 3 1, 3) := by decide +kernel
theorem d_Ou_shorten_67 : decode b_Ou_shorten 67 = .ok (.goto (-65), 3) := by decide +kernel
theorem d_Ou_shorten_70 : decode b_Ou_shorten 70 = .ok (.return_, 1) := by decide +kernel
theorem mf_Ou_shorten : zMF y_Ou_shorten b_Ou_shorten 6 none 2 := ⟨zGW_in 1127 (by decide +kernel) (by decide +kernel), zGW_in 133 (by decide +kernel) (by decide +kernel), by decide +kernel⟩
theorem in_Ou_shorten : Cond.instanceMethod y_Ou_shorten ∈ zGW := zGW_in 1126 (by decide +kernel) (by decide +kernel)
theorem se_Ou_shorten : Cond.selects y_Ou_shorten.cls y_Ou_shorten y_Ou_shorten ∈ zGW := zGW_in 31 (by decide +kernel) (by decide +kernel)
def y_Ou_fill : MethodName := ⟨zNm 3, "fill", "(LEelClerk$Paper;I)V"⟩
abbrev b_Ou_fill : ByteArray := prog_4_method_2_code
theorem d_Ou_fill_0 : decode b_Ou_fill 0 = .ok (.aload_n 0, 1) := by decide +kernel
theorem d_Ou_fill_1 : decode b_Ou_fill 1 = .ok (.iload_n 2, 1) := by decide +kernel
theorem d_Ou_fill_2 : decode b_Ou_fill 2 = .ok (.bipush 9, 2) := by decide +kernel
theorem d_Ou_fill_4 : decode b_Ou_fill 4 = .ok (.if_icmp .ge 7, 3) := by decide +kernel
theorem d_Ou_fill_7 : decode b_Ou_fill 7 = .ok (.iload_n 2, 1) := by decide +kernel
theorem d_Ou_fill_8 : decode b_Ou_fill 8 = .ok (.goto 5, 3) := by decide +kernel
theorem d_Ou_fill_11 : decode b_Ou_fill 11 = .ok (.bipush 9, 2) := by decide +kernel
theorem d_Ou_fill_13 : decode b_Ou_fill 13 = .ok (.putfield 15, 3) := by decide +kernel
theorem d_Ou_fill_16 : decode b_Ou_fill 16 = .ok (.aload_n 0, 1) := by decide +kernel
theorem d_Ou_fill_17 : decode b_Ou_fill 17 = .ok (.getfield 9, 3) := by decide +kernel
theorem d_Ou_fill_20 : decode b_Ou_fill 20 = .ok (.ldc 19, 2) := by decide +kernel
theorem d_Ou_fill_22 : decode b_Ou_fill 22 = .ok (.invokestatic 20, 3) := by decide +kernel
theorem d_Ou_fill_25 : decode b_Ou_fill 25 = .ok (.iconst 0, 1) := by decide +kernel
theorem d_Ou_fill_26 : decode b_Ou_fill 26 = .ok (.istore_n 3, 1) := by decide +kernel
theorem d_Ou_fill_27 : decode b_Ou_fill 27 = .ok (.iload_n 3, 1) := by decide +kernel
theorem d_Ou_fill_28 : decode b_Ou_fill 28 = .ok (.aload_n 0, 1) := by decide +kernel
theorem d_Ou_fill_29 : decode b_Ou_fill 29 = .ok (.getfield 15, 3) := by decide +kernel
theorem d_Ou_fill_32 : decode b_Ou_fill 32 = .ok (.if_icmp .gt 41, 3) := by decide +kernel
theorem d_Ou_fill_35 : decode b_Ou_fill 35 = .ok (.aload_n 0, 1) := by decide +kernel
theorem d_Ou_fill_36 : decode b_Ou_fill 36 = .ok (.getfield 9, 3) := by decide +kernel
theorem d_Ou_fill_39 : decode b_Ou_fill 39 = .ok (.iload_n 3, 1) := by decide +kernel
theorem d_Ou_fill_40 : decode b_Ou_fill 40 = .ok (.bipush 9, 2) := by decide +kernel
theorem d_Ou_fill_42 : decode b_Ou_fill 42 = .ok (.imul, 1) := by decide +kernel
theorem d_Ou_fill_43 : decode b_Ou_fill 43 = .ok (.iconst 0, 1) := by decide +kernel
theorem d_Ou_fill_44 : decode b_Ou_fill 44 = .ok (.iastore, 1) := by decide +kernel
theorem d_Ou_fill_45 : decode b_Ou_fill 45 = .ok (.iconst 0, 1) := by decide +kernel
theorem d_Ou_fill_46 : decode b_Ou_fill 46 = .ok (.istore 4, 2) := by decide +kernel
theorem d_Ou_fill_48 : decode b_Ou_fill 48 = .ok (.iload 4, 2) := by decide +kernel
theorem d_Ou_fill_50 : decode b_Ou_fill 50 = .ok (.bipush 9, 2) := by decide +kernel
theorem d_Ou_fill_52 : decode b_Ou_fill 52 = .ok (.if_icmp .ge 15, 3) := by decide +kernel
theorem d_Ou_fill_55 : decode b_Ou_fill 55 = .ok (.aload_n 0, 1) := by decide +kernel
theorem d_Ou_fill_56 : decode b_Ou_fill 56 = .ok (.aload_n 1, 1) := by decide +kernel
theorem d_Ou_fill_57 : decode b_Ou_fill 57 = .ok (.iload_n 3, 1) := by decide +kernel
theorem d_Ou_fill_58 : decode b_Ou_fill 58 = .ok (.invokevirtual 26, 3) := by decide +kernel
theorem d_Ou_fill_61 : decode b_Ou_fill 61 = .ok (.iinc 4 1, 3) := by decide +kernel
theorem d_Ou_fill_64 : decode b_Ou_fill 64 = .ok (.goto (-16), 3) := by decide +kernel
theorem d_Ou_fill_67 : decode b_Ou_fill 67 = .ok (.iinc 3 1, 3) := by decide +kernel
theorem d_Ou_fill_70 : decode b_Ou_fill 70 = .ok (.goto (-43), 3) := by decide +kernel
theorem d_Ou_fill_73 : decode b_Ou_fill 73 = .ok (.return_, 1) := by decide +kernel
theorem mf_Ou_fill : zMF y_Ou_fill b_Ou_fill 5 none 2 := ⟨zGW_in 1121 (by decide +kernel) (by decide +kernel), zGW_in 133 (by decide +kernel) (by decide +kernel), by decide +kernel⟩
theorem in_Ou_fill : Cond.instanceMethod y_Ou_fill ∈ zGW := zGW_in 1119 (by decide +kernel) (by decide +kernel)
theorem se_Ou_fill : Cond.selects y_Ou_fill.cls y_Ou_fill y_Ou_fill ∈ zGW := zGW_in 1120 (by decide +kernel) (by decide +kernel)
def y_Ou_days : MethodName := ⟨zNm 3, "days", "(I)I"⟩
abbrev b_Ou_days : ByteArray := prog_4_method_6_code
theorem d_Ou_days_0 : decode b_Ou_days 0 = .ok (.aload_n 0, 1) := by decide +kernel
theorem d_Ou_days_1 : decode b_Ou_days 1 = .ok (.iload_n 1, 1) := by decide +kernel
theorem d_Ou_days_2 : decode b_Ou_days 2 = .ok (.aload_n 0, 1) := by decide +kernel
theorem d_Ou_days_3 : decode b_Ou_days 3 = .ok (.getfield 15, 3) := by decide +kernel
theorem d_Ou_days_6 : decode b_Ou_days 6 = .ok (.invokevirtual 44, 3) := by decide +kernel
theorem d_Ou_days_9 : decode b_Ou_days 9 = .ok (.istore_n 2, 1) := by decide +kernel
theorem d_Ou_days_10 : decode b_Ou_days 10 = .ok (.iload_n 2, 1) := by decide +kernel
theorem d_Ou_days_11 : decode b_Ou_days 11 = .ok (.ldc 19, 2) := by decide +kernel
theorem d_Ou_days_13 : decode b_Ou_days 13 = .ok (.if_icmp .ge 7, 3) := by decide +kernel
theorem d_Ou_days_16 : decode b_Ou_days 16 = .ok (.iload_n 2, 1) := by decide +kernel
theorem d_Ou_days_17 : decode b_Ou_days 17 = .ok (.goto 4, 3) := by decide +kernel
theorem d_Ou_days_20 : decode b_Ou_days 20 = .ok (.iconst (-1), 1) := by decide +kernel
theorem d_Ou_days_21 : decode b_Ou_days 21 = .ok (.ireturn, 1) := by decide +kernel
theorem mf_Ou_days : zMF y_Ou_days b_Ou_days 3 (some .int) 1 := ⟨zGW_in 1147 (by decide +kernel) (by decide +kernel), zGW_in 133 (by decide +kernel) (by decide +kernel), by decide +kernel⟩
theorem in_Ou_days : Cond.instanceMethod y_Ou_days ∈ zGW := zGW_in 1145 (by decide +kernel) (by decide +kernel)
theorem se_Ou_days : Cond.selects y_Ou_days.cls y_Ou_days y_Ou_days ∈ zGW := zGW_in 1146 (by decide +kernel) (by decide +kernel)
def y_Ou_nextOnWay : MethodName := ⟨zNm 3, "nextOnWay", "(LEelClerk$Paper;II)I"⟩
abbrev b_Ou_nextOnWay : ByteArray := prog_4_method_8_code
theorem d_Ou_nextOnWay_0 : decode b_Ou_nextOnWay 0 = .ok (.iload_n 2, 1) := by decide +kernel
theorem d_Ou_nextOnWay_1 : decode b_Ou_nextOnWay 1 = .ok (.ifCond .ne 5, 3) := by decide +kernel
theorem d_Ou_nextOnWay_4 : decode b_Ou_nextOnWay 4 = .ok (.iconst (-1), 1) := by decide +kernel
theorem d_Ou_nextOnWay_5 : decode b_Ou_nextOnWay 5 = .ok (.ireturn, 1) := by decide +kernel
theorem d_Ou_nextOnWay_6 : decode b_Ou_nextOnWay 6 = .ok (.iconst 0, 1) := by decide +kernel
theorem d_Ou_nextOnWay_7 : decode b_Ou_nextOnWay 7 = .ok (.istore 4, 2) := by decide +kernel
theorem d_Ou_nextOnWay_9 : decode b_Ou_nextOnWay 9 = .ok (.iload 4, 2) := by decide +kernel
theorem d_Ou_nextOnWay_11 : decode b_Ou_nextOnWay 11 = .ok (.bipush 9, 2) := by decide +kernel
theorem d_Ou_nextOnWay_13 : decode b_Ou_nextOnWay 13 = .ok (.if_icmp .ge 30, 3) := by decide +kernel
theorem d_Ou_nextOnWay_16 : decode b_Ou_nextOnWay 16 = .ok (.aload_n 0, 1) := by decide +kernel
theorem d_Ou_nextOnWay_17 : decode b_Ou_nextOnWay 17 = .ok (.aload_n 1, 1) := by decide +kernel
theorem d_Ou_nextOnWay_18 : decode b_Ou_nextOnWay 18 = .ok (.iload_n 2, 1) := by decide +kernel
theorem d_Ou_nextOnWay_19 : decode b_Ou_nextOnWay 19 = .ok (.iload 4, 2) := by decide +kernel
theorem d_Ou_nextOnWay_21 : decode b_Ou_nextOnWay 21 = .ok (.iload_n 3, 1) := by decide +kernel
theorem d_Ou_nextOnWay_22 : decode b_Ou_nextOnWay 22 = .ok (.invokevirtual 30, 3) := by decide +kernel
theorem d_Ou_nextOnWay_25 : decode b_Ou_nextOnWay 25 = .ok (.aload_n 0, 1) := by decide +kernel
theorem d_Ou_nextOnWay_26 : decode b_Ou_nextOnWay 26 = .ok (.iload_n 2, 1) := by decide +kernel
theorem d_Ou_nextOnWay_27 : decode b_Ou_nextOnWay 27 = .ok (.iload_n 3, 1) := by decide +kernel
theorem d_Ou_nextOnWay_28 : decode b_Ou_nextOnWay 28 = .ok (.invokevirtual 44, 3) := by decide +kernel
theorem d_Ou_nextOnWay_31 : decode b_Ou_nextOnWay 31 = .ok (.if_icmp .ne 6, 3) := by decide +kernel
theorem d_Ou_nextOnWay_34 : decode b_Ou_nextOnWay 34 = .ok (.iload 4, 2) := by decide +kernel
theorem d_Ou_nextOnWay_36 : decode b_Ou_nextOnWay 36 = .ok (.ireturn, 1) := by decide +kernel
theorem d_Ou_nextOnWay_37 : decode b_Ou_nextOnWay 37 = .ok (.iinc 4 1, 3) := by decide +kernel
theorem d_Ou_nextOnWay_40 : decode b_Ou_nextOnWay 40 = .ok (.goto (-31), 3) := by decide +kernel
theorem d_Ou_nextOnWay_43 : decode b_Ou_nextOnWay 43 = .ok (.iconst (-1), 1) := by decide +kernel
theorem d_Ou_nextOnWay_44 : decode b_Ou_nextOnWay 44 = .ok (.ireturn, 1) := by decide +kernel
theorem mf_Ou_nextOnWay : zMF y_Ou_nextOnWay b_Ou_nextOnWay 5 (some .int) 3 := ⟨zGW_in 1156 (by decide +kernel) (by decide +kernel), zGW_in 133 (by decide +kernel) (by decide +kernel), by decide +kernel⟩
theorem in_Ou_nextOnWay : Cond.instanceMethod y_Ou_nextOnWay ∈ zGW := zGW_in 1155 (by decide +kernel) (by decide +kernel)
theorem se_Ou_nextOnWay : Cond.selects y_Ou_nextOnWay.cls y_Ou_nextOnWay y_Ou_nextOnWay ∈ zGW := zGW_in 34 (by decide +kernel) (by decide +kernel)
def y_Ou_onWay : MethodName := ⟨zNm 3, "onWay", "(LEelClerk$Paper;II)I"⟩
abbrev b_Ou_onWay : ByteArray := prog_4_method_7_code
theorem d_Ou_onWay_0 : decode b_Ou_onWay 0 = .ok (.iload_n 3, 1) := by decide +kernel
theorem d_Ou_onWay_1 : decode b_Ou_onWay 1 = .ok (.ifCond .lt 18, 3) := by decide +kernel
theorem d_Ou_onWay_4 : decode b_Ou_onWay 4 = .ok (.iload_n 3, 1) := by decide +kernel
theorem d_Ou_onWay_5 : decode b_Ou_onWay 5 = .ok (.bipush 9, 2) := by decide +kernel
theorem d_Ou_onWay_7 : decode b_Ou_onWay 7 = .ok (.if_icmp .ge 12, 3) := by decide +kernel
theorem d_Ou_onWay_10 : decode b_Ou_onWay 10 = .ok (.aload_n 0, 1) := by decide +kernel
theorem d_Ou_onWay_11 : decode b_Ou_onWay 11 = .ok (.iload_n 2, 1) := by decide +kernel
theorem d_Ou_onWay_12 : decode b_Ou_onWay 12 = .ok (.invokevirtual 47, 3) := by decide +kernel
theorem d_Ou_onWay_15 : decode b_Ou_onWay 15 = .ok (.iconst (-1), 1) := by decide +kernel
theorem d_Ou_onWay_16 : decode b_Ou_onWay 16 = .ok (.if_icmp .ne 5, 3) := by decide +kernel
theorem d_Ou_onWay_19 : decode b_Ou_onWay 19 = .ok (.iconst (-1), 1) := by decide +kernel
theorem d_Ou_onWay_20 : decode b_Ou_onWay 20 = .ok (.ireturn, 1) := by decide +kernel
theorem d_Ou_onWay_21 : decode b_Ou_onWay 21 = .ok (.iload_n 2, 1) := by decide +kernel
theorem d_Ou_onWay_22 : decode b_Ou_onWay 22 = .ok (.istore 4, 2) := by decide +kernel
theorem d_Ou_onWay_24 : decode b_Ou_onWay 24 = .ok (.aload_n 0, 1) := by decide +kernel
theorem d_Ou_onWay_25 : decode b_Ou_onWay 25 = .ok (.getfield 15, 3) := by decide +kernel
theorem d_Ou_onWay_28 : decode b_Ou_onWay 28 = .ok (.istore 5, 2) := by decide +kernel
theorem d_Ou_onWay_30 : decode b_Ou_onWay 30 = .ok (.iconst 0, 1) := by decide +kernel
theorem d_Ou_onWay_31 : decode b_Ou_onWay 31 = .ok (.istore 6, 2) := by decide +kernel
theorem d_Ou_onWay_33 : decode b_Ou_onWay 33 = .ok (.iload 6, 2) := by decide +kernel
theorem d_Ou_onWay_35 : decode b_Ou_onWay 35 = .ok (.iload_n 3, 1) := by decide +kernel
theorem d_Ou_onWay_36 : decode b_Ou_onWay 36 = .ok (.if_icmp .ge 54, 3) := by decide +kernel
theorem d_Ou_onWay_39 : decode b_Ou_onWay 39 = .ok (.aload_n 0, 1) := by decide +kernel
theorem d_Ou_onWay_40 : decode b_Ou_onWay 40 = .ok (.aload_n 1, 1) := by decide +kernel
theorem d_Ou_onWay_41 : decode b_Ou_onWay 41 = .ok (.iload 4, 2) := by decide +kernel
theorem d_Ou_onWay_43 : decode b_Ou_onWay 43 = .ok (.iload 5, 2) := by decide +kernel
theorem d_Ou_onWay_45 : decode b_Ou_onWay 45 = .ok (.invokevirtual 51, 3) := by decide +kernel
theorem d_Ou_onWay_48 : decode b_Ou_onWay 48 = .ok (.istore 7, 2) := by decide +kernel
theorem d_Ou_onWay_50 : decode b_Ou_onWay 50 = .ok (.iload 7, 2) := by decide +kernel
theorem d_Ou_onWay_52 : decode b_Ou_onWay 52 = .ok (.iconst (-1), 1) := by decide +kernel
theorem d_Ou_onWay_53 : decode b_Ou_onWay 53 = .ok (.if_icmp .ne 5, 3) := by decide +kernel
theorem d_Ou_onWay_56 : decode b_Ou_onWay 56 = .ok (.iconst (-1), 1) := by decide +kernel
theorem d_Ou_onWay_57 : decode b_Ou_onWay 57 = .ok (.ireturn, 1) := by decide +kernel
theorem d_Ou_onWay_58 : decode b_Ou_onWay 58 = .ok (.aload_n 1, 1) := by decide +kernel
theorem d_Ou_onWay_59 : decode b_Ou_onWay 59 = .ok (.iload 4, 2) := by decide +kernel
theorem d_Ou_onWay_61 : decode b_Ou_onWay 61 = .ok (.iload 7, 2) := by decide +kernel
theorem d_Ou_onWay_63 : decode b_Ou_onWay 63 = .ok (.invokevirtual 34, 3) := by decide +kernel
theorem d_Ou_onWay_66 : decode b_Ou_onWay 66 = .ok (.ifCond .eq 10, 3) := by decide +kernel
theorem d_Ou_onWay_69 : decode b_Ou_onWay 69 = .ok (.iload 5, 2) := by decide +kernel
theorem d_Ou_onWay_71 : decode b_Ou_onWay 71 = .ok (.iconst 1, 1) := by decide +kernel
theorem d_Ou_onWay_72 : decode b_Ou_onWay 72 = .ok (.isub, 1) := by decide +kernel
theorem d_Ou_onWay_73 : decode b_Ou_onWay 73 = .ok (.goto 5, 3) := by decide +kernel
theorem d_Ou_onWay_76 : decode b_Ou_onWay 76 = .ok (.iload 5, 2) := by decide +kernel
theorem d_Ou_onWay_78 : decode b_Ou_onWay 78 = .ok (.istore 5, 2) := by decide +kernel
theorem d_Ou_onWay_80 : decode b_Ou_onWay 80 = .ok (.iload 7, 2) := by decide +kernel
theorem d_Ou_onWay_82 : decode b_Ou_onWay 82 = .ok (.istore 4, 2) := by decide +kernel
theorem d_Ou_onWay_84 : decode b_Ou_onWay 84 = .ok (.iinc 6 1, 3) := by decide +kernel
theorem d_Ou_onWay_87 : decode b_Ou_onWay 87 = .ok (.goto (-54), 3) := by decide +kernel
theorem d_Ou_onWay_90 : decode b_Ou_onWay 90 = .ok (.iload 4, 2) := by decide +kernel
theorem d_Ou_onWay_92 : decode b_Ou_onWay 92 = .ok (.ireturn, 1) := by decide +kernel
theorem mf_Ou_onWay : zMF y_Ou_onWay b_Ou_onWay 8 (some .int) 3 := ⟨zGW_in 1151 (by decide +kernel) (by decide +kernel), zGW_in 133 (by decide +kernel) (by decide +kernel), by decide +kernel⟩
theorem in_Ou_onWay : Cond.instanceMethod y_Ou_onWay ∈ zGW := zGW_in 1149 (by decide +kernel) (by decide +kernel)
theorem se_Ou_onWay : Cond.selects y_Ou_onWay.cls y_Ou_onWay y_Ou_onWay ∈ zGW := zGW_in 1150 (by decide +kernel) (by decide +kernel)
def y_E_sea : MethodName := ⟨zNm 0, "sea", "(II)I"⟩
abbrev b_E_sea : ByteArray := prog_1_method_28_code
theorem d_E_sea_0 : decode b_E_sea 0 = .ok (.aload_n 0, 1) := by decide +kernel
theorem d_E_sea_1 : decode b_E_sea 1 = .ok (.getfield 12, 3) := by decide +kernel
theorem d_E_sea_4 : decode b_E_sea 4 = .ok (.getfield 113, 3) := by decide +kernel
theorem d_E_sea_7 : decode b_E_sea 7 = .ok (.ifCond .eq 18, 3) := by decide +kernel
theorem d_E_sea_10 : decode b_E_sea 10 = .ok (.iload_n 1, 1) := by decide +kernel
theorem d_E_sea_11 : decode b_E_sea 11 = .ok (.ifCond .lt 14, 3) := by decide +kernel
theorem d_E_sea_14 : decode b_E_sea 14 = .ok (.iload_n 1, 1) := by decide +kernel
theorem d_E_sea_15 : decode b_E_sea 15 = .ok (.bipush 9, 2) := by decide +kernel
theorem d_E_sea_17 : decode b_E_sea 17 = .ok (.if_icmp .gt 8, 3) := by decide +kernel
theorem d_E_sea_20 : decode b_E_sea 20 = .ok (.iload_n 2, 1) := by decide +kernel
theorem d_E_sea_21 : decode b_E_sea 21 = .ok (.iconst (-1), 1) := by decide +kernel
theorem d_E_sea_22 : decode b_E_sea 22 = .ok (.if_icmp .ge 5, 3) := by decide +kernel
theorem d_E_sea_25 : decode b_E_sea 25 = .ok (.iconst (-1), 1) := by decide +kernel
theorem d_E_sea_26 : decode b_E_sea 26 = .ok (.ireturn, 1) := by decide +kernel
theorem d_E_sea_27 : decode b_E_sea 27 = .ok (.aload_n 0, 1) := by decide +kernel
theorem d_E_sea_28 : decode b_E_sea 28 = .ok (.invokevirtual 226, 3) := by decide +kernel
theorem d_E_sea_31 : decode b_E_sea 31 = .ok (.aload_n 0, 1) := by decide +kernel
theorem d_E_sea_32 : decode b_E_sea 32 = .ok (.getfield 74, 3) := by decide +kernel
theorem d_E_sea_35 : decode b_E_sea 35 = .ok (.aload_n 0, 1) := by decide +kernel
theorem d_E_sea_36 : decode b_E_sea 36 = .ok (.getfield 60, 3) := by decide +kernel
theorem d_E_sea_39 : decode b_E_sea 39 = .ok (.iload_n 1, 1) := by decide +kernel
theorem d_E_sea_40 : decode b_E_sea 40 = .ok (.invokevirtual 274, 3) := by decide +kernel
theorem d_E_sea_43 : decode b_E_sea 43 = .ok (.iload_n 2, 1) := by decide +kernel
theorem d_E_sea_44 : decode b_E_sea 44 = .ok (.iconst (-1), 1) := by decide +kernel
theorem d_E_sea_45 : decode b_E_sea 45 = .ok (.if_icmp .ne 20, 3) := by decide +kernel
theorem d_E_sea_48 : decode b_E_sea 48 = .ok (.aload_n 0, 1) := by decide +kernel
theorem d_E_sea_49 : decode b_E_sea 49 = .ok (.getfield 74, 3) := by decide +kernel
theorem d_E_sea_52 : decode b_E_sea 52 = .ok (.aload_n 0, 1) := by decide +kernel
theorem d_E_sea_53 : decode b_E_sea 53 = .ok (.getfield 12, 3) := by decide +kernel
theorem d_E_sea_56 : decode b_E_sea 56 = .ok (.getfield 248, 3) := by decide +kernel
theorem d_E_sea_59 : decode b_E_sea 59 = .ok (.invokevirtual 278, 3) := by decide +kernel
theorem d_E_sea_62 : decode b_E_sea 62 = .ok (.goto 22, 3) := by decide +kernel
theorem d_E_sea_65 : decode b_E_sea 65 = .ok (.aload_n 0, 1) := by decide +kernel
theorem d_E_sea_66 : decode b_E_sea 66 = .ok (.getfield 74, 3) := by decide +kernel
theorem d_E_sea_69 : decode b_E_sea 69 = .ok (.aload_n 0, 1) := by decide +kernel
theorem d_E_sea_70 : decode b_E_sea 70 = .ok (.getfield 60, 3) := by decide +kernel
theorem d_E_sea_73 : decode b_E_sea 73 = .ok (.aload_n 0, 1) := by decide +kernel
theorem d_E_sea_74 : decode b_E_sea 74 = .ok (.getfield 12, 3) := by decide +kernel
theorem d_E_sea_77 : decode b_E_sea 77 = .ok (.getfield 248, 3) := by decide +kernel
theorem d_E_sea_80 : decode b_E_sea 80 = .ok (.iload_n 2, 1) := by decide +kernel
theorem d_E_sea_81 : decode b_E_sea 81 = .ok (.invokevirtual 280, 3) := by decide +kernel
theorem d_E_sea_84 : decode b_E_sea 84 = .ok (.ireturn, 1) := by decide +kernel
theorem mf_E_sea : zMF y_E_sea b_E_sea 3 (some .int) 2 := ⟨zGW_in 1117 (by decide +kernel) (by decide +kernel), zGW_in 124 (by decide +kernel) (by decide +kernel), by decide +kernel⟩
theorem in_E_sea : Cond.instanceMethod y_E_sea ∈ zGW := zGW_in 1115 (by decide +kernel) (by decide +kernel)
theorem se_E_sea : Cond.selects y_E_sea.cls y_E_sea y_E_sea ∈ zGW := zGW_in 1116 (by decide +kernel) (by decide +kernel)
def y_Ps_hear : MethodName := ⟨zNm 5, "hear", "(II)I"⟩
abbrev b_Ps_hear : ByteArray := prog_6_method_16_code
theorem d_Ps_hear_0 : decode b_Ps_hear 0 = .ok (.aload_n 0, 1) := by decide +kernel
theorem d_Ps_hear_1 : decode b_Ps_hear 1 = .ok (.getfield 41, 3) := by decide +kernel
theorem d_Ps_hear_4 : decode b_Ps_hear 4 = .ok (.ifCond .lt 42, 3) := by decide +kernel
theorem d_Ps_hear_7 : decode b_Ps_hear 7 = .ok (.aload_n 0, 1) := by decide +kernel
theorem d_Ps_hear_8 : decode b_Ps_hear 8 = .ok (.getfield 41, 3) := by decide +kernel
theorem d_Ps_hear_11 : decode b_Ps_hear 11 = .ok (.bipush 6, 2) := by decide +kernel
theorem d_Ps_hear_13 : decode b_Ps_hear 13 = .ok (.if_icmp .ge 33, 3) := by decide +kernel
theorem d_Ps_hear_16 : decode b_Ps_hear 16 = .ok (.aload_n 0, 1) := by decide +kernel
theorem d_Ps_hear_17 : decode b_Ps_hear 17 = .ok (.getfield 44, 3) := by decide +kernel
theorem d_Ps_hear_20 : decode b_Ps_hear 20 = .ok (.aload_n 0, 1) := by decide +kernel
theorem d_Ps_hear_21 : decode b_Ps_hear 21 = .ok (.getfield 41, 3) := by decide +kernel
theorem d_Ps_hear_24 : decode b_Ps_hear 24 = .ok (.iload_n 1, 1) := by decide +kernel
theorem d_Ps_hear_25 : decode b_Ps_hear 25 = .ok (.iastore, 1) := by decide +kernel
theorem d_Ps_hear_26 : decode b_Ps_hear 26 = .ok (.aload_n 0, 1) := by decide +kernel
theorem d_Ps_hear_27 : decode b_Ps_hear 27 = .ok (.getfield 47, 3) := by decide +kernel
theorem d_Ps_hear_30 : decode b_Ps_hear 30 = .ok (.aload_n 0, 1) := by decide +kernel
theorem d_Ps_hear_31 : decode b_Ps_hear 31 = .ok (.getfield 41, 3) := by decide +kernel
theorem d_Ps_hear_34 : decode b_Ps_hear 34 = .ok (.iload_n 2, 1) := by decide +kernel
theorem d_Ps_hear_35 : decode b_Ps_hear 35 = .ok (.iastore, 1) := by decide +kernel
theorem d_Ps_hear_36 : decode b_Ps_hear 36 = .ok (.aload_n 0, 1) := by decide +kernel
theorem d_Ps_hear_37 : decode b_Ps_hear 37 = .ok (.dup, 1) := by decide +kernel
theorem d_Ps_hear_38 : decode b_Ps_hear 38 = .ok (.getfield 41, 3) := by decide +kernel
theorem d_Ps_hear_41 : decode b_Ps_hear 41 = .ok (.iconst 1, 1) := by decide +kernel
theorem d_Ps_hear_42 : decode b_Ps_hear 42 = .ok (.iadd, 1) := by decide +kernel
theorem d_Ps_hear_43 : decode b_Ps_hear 43 = .ok (.putfield 41, 3) := by decide +kernel
theorem d_Ps_hear_46 : decode b_Ps_hear 46 = .ok (.aload_n 0, 1) := by decide +kernel
theorem d_Ps_hear_47 : decode b_Ps_hear 47 = .ok (.getfield 41, 3) := by decide +kernel
theorem d_Ps_hear_50 : decode b_Ps_hear 50 = .ok (.ireturn, 1) := by decide +kernel
theorem mf_Ps_hear : zMF y_Ps_hear b_Ps_hear 3 (some .int) 2 := ⟨zGW_in 1164 (by decide +kernel) (by decide +kernel), zGW_in 125 (by decide +kernel) (by decide +kernel), by decide +kernel⟩
theorem in_Ps_hear : Cond.instanceMethod y_Ps_hear ∈ zGW := zGW_in 1162 (by decide +kernel) (by decide +kernel)
theorem se_Ps_hear : Cond.selects y_Ps_hear.cls y_Ps_hear y_Ps_hear ∈ zGW := zGW_in 1163 (by decide +kernel) (by decide +kernel)
def y_E_heard : MethodName := ⟨zNm 0, "heard", "(II)I"⟩
abbrev b_E_heard : ByteArray := prog_1_method_29_code
theorem d_E_heard_0 : decode b_E_heard 0 = .ok (.iload_n 2, 1) := by decide +kernel
theorem d_E_heard_1 : decode b_E_heard 1 = .ok (.ifCond .lt 10, 3) := by decide +kernel
theorem d_E_heard_4 : decode b_E_heard 4 = .ok (.iload_n 2, 1) := by decide +kernel
theorem d_E_heard_5 : decode b_E_heard 5 = .ok (.sipush 999, 3) := by decide +kernel
theorem d_E_heard_8 : decode b_E_heard 8 = .ok (.if_icmp .le 9, 3) := by decide +kernel
theorem d_E_heard_11 : decode b_E_heard 11 = .ok (.aload_n 0, 1) := by decide +kernel
theorem d_E_heard_12 : decode b_E_heard 12 = .ok (.iconst (-1), 1) := by decide +kernel
theorem d_E_heard_13 : decode b_E_heard 13 = .ok (.invokevirtual 109, 3) := by decide +kernel
theorem d_E_heard_16 : decode b_E_heard 16 = .ok (.ireturn, 1) := by decide +kernel
theorem d_E_heard_17 : decode b_E_heard 17 = .ok (.aload_n 0, 1) := by decide +kernel
theorem d_E_heard_18 : decode b_E_heard 18 = .ok (.getfield 12, 3) := by decide +kernel
theorem d_E_heard_21 : decode b_E_heard 21 = .ok (.iload_n 1, 1) := by decide +kernel
theorem d_E_heard_22 : decode b_E_heard 22 = .ok (.invokevirtual 126, 3) := by decide +kernel
theorem d_E_heard_25 : decode b_E_heard 25 = .ok (.ifCond .ne 10, 3) := by decide +kernel
theorem d_E_heard_28 : decode b_E_heard 28 = .ok (.aload_n 0, 1) := by decide +kernel
theorem d_E_heard_29 : decode b_E_heard 29 = .ok (.bipush (-2), 2) := by decide +kernel
theorem d_E_heard_31 : decode b_E_heard 31 = .ok (.invokevirtual 109, 3) := by decide +kernel
theorem d_E_heard_34 : decode b_E_heard 34 = .ok (.ireturn, 1) := by decide +kernel
theorem d_E_heard_35 : decode b_E_heard 35 = .ok (.aload_n 0, 1) := by decide +kernel
theorem d_E_heard_36 : decode b_E_heard 36 = .ok (.getfield 12, 3) := by decide +kernel
theorem d_E_heard_39 : decode b_E_heard 39 = .ok (.getfield 283, 3) := by decide +kernel
theorem d_E_heard_42 : decode b_E_heard 42 = .ok (.bipush 6, 2) := by decide +kernel
theorem d_E_heard_44 : decode b_E_heard 44 = .ok (.if_icmp .lt 10, 3) := by decide +kernel
theorem d_E_heard_47 : decode b_E_heard 47 = .ok (.aload_n 0, 1) := by decide +kernel
theorem d_E_heard_48 : decode b_E_heard 48 = .ok (.bipush (-5), 2) := by decide +kernel
theorem d_E_heard_50 : decode b_E_heard 50 = .ok (.invokevirtual 109, 3) := by decide +kernel
theorem d_E_heard_53 : decode b_E_heard 53 = .ok (.ireturn, 1) := by decide +kernel
theorem d_E_heard_54 : decode b_E_heard 54 = .ok (.aload_n 0, 1) := by decide +kernel
theorem d_E_heard_55 : decode b_E_heard 55 = .ok (.aload_n 0, 1) := by decide +kernel
theorem d_E_heard_56 : decode b_E_heard 56 = .ok (.getfield 12, 3) := by decide +kernel
theorem d_E_heard_59 : decode b_E_heard 59 = .ok (.iload_n 1, 1) := by decide +kernel
theorem d_E_heard_60 : decode b_E_heard 60 = .ok (.iload_n 2, 1) := by decide +kernel
theorem d_E_heard_61 : decode b_E_heard 61 = .ok (.invokevirtual 286, 3) := by decide +kernel
theorem d_E_heard_64 : decode b_E_heard 64 = .ok (.invokevirtual 123, 3) := by decide +kernel
theorem d_E_heard_67 : decode b_E_heard 67 = .ok (.ireturn, 1) := by decide +kernel
theorem mf_E_heard : zMF y_E_heard b_E_heard 3 (some .int) 2 := ⟨zGW_in 1160 (by decide +kernel) (by decide +kernel), zGW_in 124 (by decide +kernel) (by decide +kernel), by decide +kernel⟩
theorem in_E_heard : Cond.instanceMethod y_E_heard ∈ zGW := zGW_in 1158 (by decide +kernel) (by decide +kernel)
theorem se_E_heard : Cond.selects y_E_heard.cls y_E_heard y_E_heard ∈ zGW := zGW_in 1159 (by decide +kernel) (by decide +kernel)
def y_E_forget : MethodName := ⟨zNm 0, "forget", "()I"⟩
abbrev b_E_forget : ByteArray := prog_1_method_30_code
theorem d_E_forget_0 : decode b_E_forget 0 = .ok (.aload_n 0, 1) := by decide +kernel
theorem d_E_forget_1 : decode b_E_forget 1 = .ok (.getfield 12, 3) := by decide +kernel
theorem d_E_forget_4 : decode b_E_forget 4 = .ok (.getfield 283, 3) := by decide +kernel
theorem d_E_forget_7 : decode b_E_forget 7 = .ok (.istore_n 1, 1) := by decide +kernel
theorem d_E_forget_8 : decode b_E_forget 8 = .ok (.aload_n 0, 1) := by decide +kernel
theorem d_E_forget_9 : decode b_E_forget 9 = .ok (.getfield 12, 3) := by decide +kernel
theorem d_E_forget_12 : decode b_E_forget 12 = .ok (.iconst 0, 1) := by decide +kernel
theorem d_E_forget_13 : decode b_E_forget 13 = .ok (.putfield 283, 3) := by decide +kernel
theorem d_E_forget_16 : decode b_E_forget 16 = .ok (.iload_n 1, 1) := by decide +kernel
theorem d_E_forget_17 : decode b_E_forget 17 = .ok (.ireturn, 1) := by decide +kernel
theorem mf_E_forget : zMF y_E_forget b_E_forget 2 (some .int) 0 := ⟨zGW_in 1168 (by decide +kernel) (by decide +kernel), zGW_in 124 (by decide +kernel) (by decide +kernel), by decide +kernel⟩
theorem in_E_forget : Cond.instanceMethod y_E_forget ∈ zGW := zGW_in 1166 (by decide +kernel) (by decide +kernel)
theorem se_E_forget : Cond.selects y_E_forget.cls y_E_forget y_E_forget ∈ zGW := zGW_in 1167 (by decide +kernel) (by decide +kernel)
def y_Ru_startBy : MethodName := ⟨zNm 8, "startBy", "(LEelClerk$Paper;LEelClerk$Parish;I)I"⟩
abbrev b_Ru_startBy : ByteArray := prog_9_method_3_code
theorem d_Ru_startBy_0 : decode b_Ru_startBy 0 = .ok (.iconst (-1), 1) := by decide +kernel
theorem d_Ru_startBy_1 : decode b_Ru_startBy 1 = .ok (.istore_n 3, 1) := by decide +kernel
theorem d_Ru_startBy_2 : decode b_Ru_startBy 2 = .ok (.iconst 0, 1) := by decide +kernel
theorem d_Ru_startBy_3 : decode b_Ru_startBy 3 = .ok (.istore 4, 2) := by decide +kernel
theorem d_Ru_startBy_5 : decode b_Ru_startBy 5 = .ok (.iload 4, 2) := by decide +kernel
theorem d_Ru_startBy_7 : decode b_Ru_startBy 7 = .ok (.aload_n 1, 1) := by decide +kernel
theorem d_Ru_startBy_8 : decode b_Ru_startBy 8 = .ok (.getfield 26, 3) := by decide +kernel
theorem d_Ru_startBy_11 : decode b_Ru_startBy 11 = .ok (.if_icmp .ge 69, 3) := by decide +kernel
theorem d_Ru_startBy_14 : decode b_Ru_startBy 14 = .ok (.iload 4, 2) := by decide +kernel
theorem d_Ru_startBy_16 : decode b_Ru_startBy 16 = .ok (.bipush 6, 2) := by decide +kernel
theorem d_Ru_startBy_18 : decode b_Ru_startBy 18 = .ok (.if_icmp .ge 62, 3) := by decide +kernel
theorem d_Ru_startBy_21 : decode b_Ru_startBy 21 = .ok (.aload_n 0, 1) := by decide +kernel
theorem d_Ru_startBy_22 : decode b_Ru_startBy 22 = .ok (.iload_n 2, 1) := by decide +kernel
theorem d_Ru_startBy_23 : decode b_Ru_startBy 23 = .ok (.aload_n 1, 1) := by decide +kernel
theorem d_Ru_startBy_24 : decode b_Ru_startBy 24 = .ok (.getfield 31, 3) := by decide +kernel
theorem d_Ru_startBy_27 : decode b_Ru_startBy 27 = .ok (.iload 4, 2) := by decide +kernel
theorem d_Ru_startBy_29 : decode b_Ru_startBy 29 = .ok (.iaload, 1) := by decide +kernel
theorem d_Ru_startBy_30 : decode b_Ru_startBy 30 = .ok (.invokevirtual 34, 3) := by decide +kernel
theorem d_Ru_startBy_33 : decode b_Ru_startBy 33 = .ok (.istore 5, 2) := by decide +kernel
theorem d_Ru_startBy_35 : decode b_Ru_startBy 35 = .ok (.aload_n 1, 1) := by decide +kernel
theorem d_Ru_startBy_36 : decode b_Ru_startBy 36 = .ok (.getfield 38, 3) := by decide +kernel
theorem d_Ru_startBy_39 : decode b_Ru_startBy 39 = .ok (.iload 4, 2) := by decide +kernel
theorem d_Ru_startBy_41 : decode b_Ru_startBy 41 = .ok (.iaload, 1) := by decide +kernel
theorem d_Ru_startBy_42 : decode b_Ru_startBy 42 = .ok (.iload 5, 2) := by decide +kernel
theorem d_Ru_startBy_44 : decode b_Ru_startBy 44 = .ok (.isub, 1) := by decide +kernel
theorem d_Ru_startBy_45 : decode b_Ru_startBy 45 = .ok (.istore 6, 2) := by decide +kernel
theorem d_Ru_startBy_47 : decode b_Ru_startBy 47 = .ok (.iload 5, 2) := by decide +kernel
theorem d_Ru_startBy_49 : decode b_Ru_startBy 49 = .ok (.iconst (-1), 1) := by decide +kernel
theorem d_Ru_startBy_50 : decode b_Ru_startBy 50 = .ok (.if_icmp .eq 19, 3) := by decide +kernel
theorem d_Ru_startBy_53 : decode b_Ru_startBy 53 = .ok (.iload 6, 2) := by decide +kernel
theorem d_Ru_startBy_55 : decode b_Ru_startBy 55 = .ok (.ifCond .lt 14, 3) := by decide +kernel
theorem d_Ru_startBy_58 : decode b_Ru_startBy 58 = .ok (.iload_n 3, 1) := by decide +kernel
theorem d_Ru_startBy_59 : decode b_Ru_startBy 59 = .ok (.iconst (-1), 1) := by decide +kernel
theorem d_Ru_startBy_60 : decode b_Ru_startBy 60 = .ok (.if_icmp .eq 11, 3) := by decide +kernel
theorem d_Ru_startBy_63 : decode b_Ru_startBy 63 = .ok (.iload_n 3, 1) := by decide +kernel
theorem d_Ru_startBy_64 : decode b_Ru_startBy 64 = .ok (.iload 6, 2) := by decide +kernel
theorem d_Ru_startBy_66 : decode b_Ru_startBy 66 = .ok (.if_icmp .eq 5, 3) := by decide +kernel
theorem d_Ru_startBy_69 : decode b_Ru_startBy 69 = .ok (.iconst (-1), 1) := by decide +kernel
theorem d_Ru_startBy_70 : decode b_Ru_startBy 70 = .ok (.ireturn, 1) := by decide +kernel
theorem d_Ru_startBy_71 : decode b_Ru_startBy 71 = .ok (.iload 6, 2) := by decide +kernel
theorem d_Ru_startBy_73 : decode b_Ru_startBy 73 = .ok (.istore_n 3, 1) := by decide +kernel
theorem d_Ru_startBy_74 : decode b_Ru_startBy 74 = .ok (.iinc 4 1, 3) := by decide +kernel
theorem d_Ru_startBy_77 : decode b_Ru_startBy 77 = .ok (.goto (-72), 3) := by decide +kernel
theorem d_Ru_startBy_80 : decode b_Ru_startBy 80 = .ok (.iload_n 3, 1) := by decide +kernel
theorem d_Ru_startBy_81 : decode b_Ru_startBy 81 = .ok (.iconst (-1), 1) := by decide +kernel
theorem d_Ru_startBy_82 : decode b_Ru_startBy 82 = .ok (.if_icmp .ne 7, 3) := by decide +kernel
theorem d_Ru_startBy_85 : decode b_Ru_startBy 85 = .ok (.iconst 0, 1) := by decide +kernel
theorem d_Ru_startBy_86 : decode b_Ru_startBy 86 = .ok (.goto 4, 3) := by decide +kernel
theorem d_Ru_startBy_89 : decode b_Ru_startBy 89 = .ok (.iload_n 3, 1) := by decide +kernel
theorem d_Ru_startBy_90 : decode b_Ru_startBy 90 = .ok (.ireturn, 1) := by decide +kernel
theorem mf_Ru_startBy : zMF y_Ru_startBy b_Ru_startBy 7 (some .int) 3 := ⟨zGW_in 1179 (by decide +kernel) (by decide +kernel), zGW_in 134 (by decide +kernel) (by decide +kernel), by decide +kernel⟩
theorem st_Ru_startBy : Cond.static y_Ru_startBy ∈ zGW := zGW_in 1178 (by decide +kernel) (by decide +kernel)
def y_Ru_fill : MethodName := ⟨zNm 8, "fill", "(LEelClerk$Paper;LEelClerk$Parish;)V"⟩
abbrev b_Ru_fill : ByteArray := prog_9_method_2_code
theorem d_Ru_fill_0 : decode b_Ru_fill 0 = .ok (.aload_n 0, 1) := by decide +kernel
theorem d_Ru_fill_1 : decode b_Ru_fill 1 = .ok (.aload_n 1, 1) := by decide +kernel
theorem d_Ru_fill_2 : decode b_Ru_fill 2 = .ok (.getfield 19, 3) := by decide +kernel
theorem d_Ru_fill_5 : decode b_Ru_fill 5 = .ok (.putfield 15, 3) := by decide +kernel
theorem d_Ru_fill_8 : decode b_Ru_fill 8 = .ok (.iconst 0, 1) := by decide +kernel
theorem d_Ru_fill_9 : decode b_Ru_fill 9 = .ok (.istore_n 3, 1) := by decide +kernel
theorem d_Ru_fill_10 : decode b_Ru_fill 10 = .ok (.iload_n 3, 1) := by decide +kernel
theorem d_Ru_fill_11 : decode b_Ru_fill 11 = .ok (.aload_n 0, 1) := by decide +kernel
theorem d_Ru_fill_12 : decode b_Ru_fill 12 = .ok (.getfield 15, 3) := by decide +kernel
theorem d_Ru_fill_15 : decode b_Ru_fill 15 = .ok (.if_icmp .ge 21, 3) := by decide +kernel
theorem d_Ru_fill_18 : decode b_Ru_fill 18 = .ok (.aload_n 0, 1) := by decide +kernel
theorem d_Ru_fill_19 : decode b_Ru_fill 19 = .ok (.getfield 9, 3) := by decide +kernel
theorem d_Ru_fill_22 : decode b_Ru_fill 22 = .ok (.iload_n 3, 1) := by decide +kernel
theorem d_Ru_fill_23 : decode b_Ru_fill 23 = .ok (.aload_n 1, 1) := by decide +kernel
theorem d_Ru_fill_24 : decode b_Ru_fill 24 = .ok (.aload_n 2, 1) := by decide +kernel
theorem d_Ru_fill_25 : decode b_Ru_fill 25 = .ok (.iload_n 3, 1) := by decide +kernel
theorem d_Ru_fill_26 : decode b_Ru_fill 26 = .ok (.invokestatic 22, 3) := by decide +kernel
theorem d_Ru_fill_29 : decode b_Ru_fill 29 = .ok (.iastore, 1) := by decide +kernel
theorem d_Ru_fill_30 : decode b_Ru_fill 30 = .ok (.iinc 3 1, 3) := by decide +kernel
theorem d_Ru_fill_33 : decode b_Ru_fill 33 = .ok (.goto (-23), 3) := by decide +kernel
theorem d_Ru_fill_36 : decode b_Ru_fill 36 = .ok (.return_, 1) := by decide +kernel
theorem mf_Ru_fill : zMF y_Ru_fill b_Ru_fill 4 none 2 := ⟨zGW_in 1176 (by decide +kernel) (by decide +kernel), zGW_in 134 (by decide +kernel) (by decide +kernel), by decide +kernel⟩
theorem in_Ru_fill : Cond.instanceMethod y_Ru_fill ∈ zGW := zGW_in 1174 (by decide +kernel) (by decide +kernel)
theorem se_Ru_fill : Cond.selects y_Ru_fill.cls y_Ru_fill y_Ru_fill ∈ zGW := zGW_in 1175 (by decide +kernel) (by decide +kernel)
theorem lk_0_235 : Cond.methodLink (zNm 0) 235 y_Pa_unreached ∈ zGW := zGW_in 1033 (by decide +kernel) (by decide +kernel)
theorem lk_4_70 : Cond.methodLink (zNm 4) 70 y_Pa_lastDay ∈ zGW := zGW_in 1045 (by decide +kernel) (by decide +kernel)
theorem lk_0_238 : Cond.methodLink (zNm 0) 238 y_Pa_middle ∈ zGW := zGW_in 1041 (by decide +kernel) (by decide +kernel)
theorem lk_0_242 : Cond.methodLink (zNm 0) 242 y_Pa_lastDay ∈ zGW := zGW_in 1049 (by decide +kernel) (by decide +kernel)
theorem lk_7_41 : Cond.methodLink (zNm 7) 41 y_Pa_soonest ∈ zGW := zGW_in 1065 (by decide +kernel) (by decide +kernel)
theorem zc_7_44 : Cond.constant (zNm 7) 44 (1000000 : Int32) ∈ zGW := zGW_in 1066 (by decide +kernel) (by decide +kernel)
theorem lk_7_45 : Cond.methodLink (zNm 7) 45 y_Ro_daysBy ∈ zGW := zGW_in 1071 (by decide +kernel) (by decide +kernel)
theorem lk_7_33 : Cond.methodLink (zNm 7) 33 y_Ro_daysOf ∈ zGW := zGW_in 1062 (by decide +kernel) (by decide +kernel)
theorem lk_7_37 : Cond.methodLink (zNm 7) 37 y_Ro_fewestBehind ∈ zGW := zGW_in 1067 (by decide +kernel) (by decide +kernel)
theorem lk_7_49 : Cond.methodLink (zNm 7) 49 y_Ro_days ∈ zGW := zGW_in 1083 (by decide +kernel) (by decide +kernel)
theorem lk_7_53 : Cond.methodLink (zNm 7) 53 y_Ro_nextStop ∈ zGW := zGW_in 1084 (by decide +kernel) (by decide +kernel)
theorem lk_0_245 : Cond.methodLink (zNm 0) 245 y_Ps_hasAll ∈ zGW := zGW_in 1054 (by decide +kernel) (by decide +kernel)
theorem lk_0_251 : Cond.methodLink (zNm 0) 251 y_Ro_plan ∈ zGW := zGW_in 1058 (by decide +kernel) (by decide +kernel)
theorem lk_0_255 : Cond.methodLink (zNm 0) 255 y_Ro_days ∈ zGW := zGW_in 1075 (by decide +kernel) (by decide +kernel)
theorem lk_0_258 : Cond.methodLink (zNm 0) 258 y_Ro_stop ∈ zGW := zGW_in 1079 (by decide +kernel) (by decide +kernel)
theorem lk_4_73 : Cond.methodLink (zNm 4) 73 y_Ps_lawInForce ∈ zGW := zGW_in 1096 (by decide +kernel) (by decide +kernel)
theorem lk_4_77 : Cond.methodLink (zNm 4) 77 y_Pa_cutOf ∈ zGW := zGW_in 1101 (by decide +kernel) (by decide +kernel)
theorem lk_0_261 : Cond.methodLink (zNm 0) 261 y_Pa_fillCuts ∈ zGW := zGW_in 1092 (by decide +kernel) (by decide +kernel)
theorem lk_0_265 : Cond.methodLink (zNm 0) 265 y_Pa_lightestSet ∈ zGW := zGW_in 1097 (by decide +kernel) (by decide +kernel)
theorem lk_0_268 : Cond.methodLink (zNm 0) 268 y_Pa_cutOf ∈ zGW := zGW_in 1105 (by decide +kernel) (by decide +kernel)
theorem lk_0_271 : Cond.methodLink (zNm 0) 271 y_Pa_nearestOf ∈ zGW := zGW_in 1110 (by decide +kernel) (by decide +kernel)
theorem zc_3_19 : Cond.constant (zNm 3) 19 (1000000 : Int32) ∈ zGW := zGW_in 1122 (by decide +kernel) (by decide +kernel)
theorem lk_3_34 : Cond.methodLink (zNm 3) 34 y_Pa_isShut ∈ zGW := zGW_in 1132 (by decide +kernel) (by decide +kernel)
theorem lk_3_40 : Cond.methodLink (zNm 3) 40 y_Pa_daysThrough ∈ zGW := zGW_in 1136 (by decide +kernel) (by decide +kernel)
theorem lk_3_44 : Cond.methodLink (zNm 3) 44 y_Ou_leftFrom ∈ zGW := zGW_in 1140 (by decide +kernel) (by decide +kernel)
theorem lk_3_30 : Cond.methodLink (zNm 3) 30 y_Ou_daysBy ∈ zGW := zGW_in 1128 (by decide +kernel) (by decide +kernel)
theorem lk_3_20 : Cond.methodLink (zNm 3) 20 y_Ar_fillI ∈ zGW := zGW_in 1123 (by decide +kernel) (by decide +kernel)
theorem lk_3_26 : Cond.methodLink (zNm 3) 26 y_Ou_shorten ∈ zGW := zGW_in 1124 (by decide +kernel) (by decide +kernel)
theorem lk_3_47 : Cond.methodLink (zNm 3) 47 y_Ou_days ∈ zGW := zGW_in 1152 (by decide +kernel) (by decide +kernel)
theorem lk_3_51 : Cond.methodLink (zNm 3) 51 y_Ou_nextOnWay ∈ zGW := zGW_in 1153 (by decide +kernel) (by decide +kernel)
theorem lk_0_274 : Cond.methodLink (zNm 0) 274 y_Ou_fill ∈ zGW := zGW_in 1118 (by decide +kernel) (by decide +kernel)
theorem lk_0_278 : Cond.methodLink (zNm 0) 278 y_Ou_days ∈ zGW := zGW_in 1144 (by decide +kernel) (by decide +kernel)
theorem lk_0_280 : Cond.methodLink (zNm 0) 280 y_Ou_onWay ∈ zGW := zGW_in 1148 (by decide +kernel) (by decide +kernel)
theorem lk_0_286 : Cond.methodLink (zNm 0) 286 y_Ps_hear ∈ zGW := zGW_in 1161 (by decide +kernel) (by decide +kernel)
theorem lk_8_34 : Cond.methodLink (zNm 8) 34 y_Pa_soonest ∈ zGW := zGW_in 1180 (by decide +kernel) (by decide +kernel)
theorem lk_8_22 : Cond.methodLink (zNm 8) 22 y_Ru_startBy ∈ zGW := zGW_in 1177 (by decide +kernel) (by decide +kernel)
def f_Pa_unreached_14 (fu : Nat) : Nat → Int32 → Int32 → Int32 → zSt → Option Int32
  | 0, _, _, _, _ => none
  | n + 1, a1, a2, a3, S => if (zI S 55 0) ≤ a3 then some a2 else zb1 (f_Pa_soonest a1 a3 S) (fun r3 => if r3 = (-1 : Int32) then f_Pa_unreached_14 fu n a1 (a2 ||| ((1 : Int32) <<< (a3 &&& 31))) (a3 + (1 : Int32)) S else f_Pa_unreached_14 fu n a1 a2 (a3 + (1 : Int32)) S)
def f_Pa_unreached (fu : Nat) (a1 : Int32) (S : zSt) : Option Int32 := zb1 (f_Pa_has a1 S) (fun r2 => if r2 = 0 then some (-1 : Int32) else f_Pa_unreached_14 fu fu a1 (0 : Int32) (0 : Int32) S)
set_option maxRecDepth 100000 in
set_option maxHeartbeats 4000000 in
theorem c_Pa_unreached_14 {p : Program} {l : Launch} {e : Env} {s : State} {m : MethodId} {args : Array Value} {below : List Frame} {meth : Method} {c : Code} {G : zG} (C : zC p s m args meth c G b_Pa_unreached 4 y_Pa_unreached.cls) (hret : meth.sig.returnType = (some .int)) {fu : Nat} {r : Int32} : ∀ (n : Nat) (a1 : Int32) (a2 : Int32) (a3 : Int32) (S : zSt) , f_Pa_unreached_14 fu n a1 a2 a3 S = some r → zJ p l e rm_Pa_unreached s m args below meth c G true 4 0 0 (zQm below G args s rm_Pa_unreached true (some (zi r)) S) S 14 [(0, zr (some 55)), (1, zi a1), (2, zi a2), (3, zi a3)] [] := by
  intro n
  induction n with
  | zero =>
    intro a1 a2 a3 S h
    cases h
  | succ n ih =>
    intro a1 a2 a3 S h
    rw [f_Pa_unreached_14] at h
    refine z_iload_n C 3 rfl d_Pa_unreached_14 rfl ?_
    refine z_aload_n C 0 rfl d_Pa_unreached_15 rfl ?_
    refine z_getI C 4 (by decide) 0 (by decide) rfl zo_55 zk_55 zfl_4_9 d_Pa_unreached_16 ?_
    rcases zite h with ⟨c1, h⟩ | ⟨c1, h⟩
    · refine z_icmp_get C 44 c1 d_Pa_unreached_19 (by decide) ?_
      refine z_iload_n C 2 rfl d_Pa_unreached_44 rfl ?_
      cases h
      exact z_iret C .int hret rfl ⟨Nat.zero_le _, Nat.zero_le _⟩ d_Pa_unreached_45
    · refine z_icmp_gef C 44 c1 d_Pa_unreached_19 (by decide) ?_
      refine z_aload_n C 0 rfl d_Pa_unreached_22 rfl ?_
      refine z_iload_n C 1 rfl d_Pa_unreached_23 rfl ?_
      refine z_iload_n C 3 rfl d_Pa_unreached_24 rfl ?_
      obtain ⟨r3, h2, h⟩ := zb1_some h
      refine z_cV C 4 (by decide) (m_Pa_soonest l h2) mf_Pa_soonest lk_4_64 in_Pa_soonest se_Pa_soonest rfl zo_55 zk_55 ⟨rfl, rfl⟩ ⟨by decide, by decide⟩ ⟨Nat.zero_le _, Nat.zero_le _⟩ rfl _ [] rfl (Nat.le_of_ble_eq_true rfl) d_Pa_unreached_25 ?_
      refine z_iconst C (-1 : Int32) (by decide) d_Pa_unreached_28 ?_
      rcases zite h with ⟨c4, h⟩ | ⟨c4, h⟩
      · refine z_icmp_nef C 38 c4 d_Pa_unreached_29 (by decide) ?_
        refine z_iload_n C 2 rfl d_Pa_unreached_32 rfl ?_
        refine z_iconst C (1 : Int32) (by decide) d_Pa_unreached_33 ?_
        refine z_iload_n C 3 rfl d_Pa_unreached_34 rfl ?_
        refine z_ishl C d_Pa_unreached_35 ?_
        refine z_ior C d_Pa_unreached_36 ?_
        refine z_istore_n C [(2, zi (a2 ||| ((1 : Int32) <<< (a3 &&& 31)))), (0, zr (some 55)), (1, zi a1), (3, zi a3)] d_Pa_unreached_37 rfl (by decide) rfl ?_
        refine z_iinc C 3 (a3 + (1 : Int32)) [(3, zi (a3 + (1 : Int32))), (2, zi (a2 ||| ((1 : Int32) <<< (a3 &&& 31)))), (0, zr (some 55)), (1, zi a1)] rfl d_Pa_unreached_38 (by first | rfl | decide) (by decide) rfl ?_
        refine z_goto C 14 d_Pa_unreached_41 (by decide) ?_
        refine zq_lsub [2, 3, 1, 0] [(0, zr (some 55)), (1, zi a1), (2, zi (a2 ||| ((1 : Int32) <<< (a3 &&& 31)))), (3, zi (a3 + (1 : Int32)))] rfl ?_
        exact ih a1 (a2 ||| ((1 : Int32) <<< (a3 &&& 31))) (a3 + (1 : Int32)) S h
      · refine z_icmp_net C 38 c4 d_Pa_unreached_29 (by decide) ?_
        refine z_iinc C 3 (a3 + (1 : Int32)) [(3, zi (a3 + (1 : Int32))), (0, zr (some 55)), (1, zi a1), (2, zi a2)] rfl d_Pa_unreached_38 (by first | rfl | decide) (by decide) rfl ?_
        refine z_goto C 14 d_Pa_unreached_41 (by decide) ?_
        refine zq_lsub [1, 2, 3, 0] [(0, zr (some 55)), (1, zi a1), (2, zi a2), (3, zi (a3 + (1 : Int32)))] rfl ?_
        exact ih a1 a2 (a3 + (1 : Int32)) S h
set_option maxRecDepth 100000 in
set_option maxHeartbeats 4000000 in
theorem m_Pa_unreached (l : Launch) {fu : Nat} {a1 : Int32} {S : zSt} {r : Int32} (h : f_Pa_unreached fu a1 S = some r) : zPM l y_Pa_unreached b_Pa_unreached 4 (some .int) rm_Pa_unreached true true [zr (some 55), zi a1] S (some (zi r)) S := by
  refine zPM_of (by decide) (Nat.le_of_ble_eq_true rfl) (fun p e s m args below meth c G C hret hname => ?_)
  unfold f_Pa_unreached at h
  refine (?_ : zJ p l e rm_Pa_unreached s m args below meth c G true 4 0 0 (zQm below G args s rm_Pa_unreached true (some (zi r)) S) S 0 [(0, zr (some 55)), (1, zi a1)] [])
  refine z_aload_n C 0 rfl d_Pa_unreached_0 rfl ?_
  refine z_iload_n C 1 rfl d_Pa_unreached_1 rfl ?_
  obtain ⟨r2, h1, h⟩ := zb1_some h
  refine z_cV C 4 (by decide) (m_Pa_has l h1) mf_Pa_has lk_4_61 in_Pa_has se_Pa_has rfl zo_55 zk_55 ⟨rfl, rfl⟩ ⟨by decide, by decide⟩ ⟨Nat.zero_le _, Nat.zero_le _⟩ rfl _ [] rfl (Nat.le_of_ble_eq_true rfl) d_Pa_unreached_2 ?_
  rcases zite h with ⟨c3, h⟩ | ⟨c3, h⟩
  · refine z_if_nef C 10 c3 d_Pa_unreached_5 (by decide) ?_
    refine z_iconst C (-1 : Int32) (by decide) d_Pa_unreached_8 ?_
    cases h
    exact z_iret C .int hret rfl ⟨Nat.zero_le _, Nat.zero_le _⟩ d_Pa_unreached_9
  · refine z_if_net C 10 c3 d_Pa_unreached_5 (by decide) ?_
    refine z_iconst C (0 : Int32) (by decide) d_Pa_unreached_10 ?_
    refine z_istore_n C [(2, zi (0 : Int32)), (0, zr (some 55)), (1, zi a1)] d_Pa_unreached_11 rfl (by decide) rfl ?_
    refine z_iconst C (0 : Int32) (by decide) d_Pa_unreached_12 ?_
    refine z_istore_n C [(3, zi (0 : Int32)), (2, zi (0 : Int32)), (0, zr (some 55)), (1, zi a1)] d_Pa_unreached_13 rfl (by decide) rfl ?_
    refine zq_lsub [2, 3, 1, 0] [(0, zr (some 55)), (1, zi a1), (2, zi (0 : Int32)), (3, zi (0 : Int32))] rfl ?_
    exact c_Pa_unreached_14 C hret fu  a1 (0 : Int32) (0 : Int32) S h
def f_E_never (fu : Nat) (a1 : Int32) (S : zSt) : Option (Int32 × zSt) := zb1 (f_E_fillPaper fu S) (fun S2 => zb1 (f_Pa_unreached fu a1 S2) (fun r4 => some (r4, S2)))
set_option maxRecDepth 100000 in
set_option maxHeartbeats 4000000 in
theorem m_E_never (l : Launch) {fu : Nat} {a1 : Int32} {S : zSt} {r : Int32} {S1 : zSt} (h : f_E_never fu a1 S = some (r, S1)) : zPM l y_E_never b_E_never 2 (some .int) rm_E_never true true [zr (some 0), zi a1] S (some (zi r)) S1 := by
  refine zPM_of (by decide) (Nat.le_of_ble_eq_true rfl) (fun p e s m args below meth c G C hret hname => ?_)
  unfold f_E_never at h
  refine (?_ : zJ p l e rm_E_never s m args below meth c G true 2 0 0 (zQm below G args s rm_E_never true (some (zi r)) S1) S 0 [(0, zr (some 0)), (1, zi a1)] [])
  refine z_aload_n C 0 rfl d_E_never_0 rfl ?_
  obtain ⟨S2, h1, h⟩ := zb1_some h
  refine z_cV C 0 (by decide) (m_E_fillPaper l h1) mf_E_fillPaper lk_0_226 in_E_fillPaper se_E_fillPaper rfl zo_0 zk_0 ⟨rfl, rfl⟩ ⟨by decide, by decide⟩ ⟨Nat.zero_le _, Nat.zero_le _⟩ rfl _ [] rfl (Nat.le_of_ble_eq_true rfl) d_E_never_1 ?_
  refine z_aload_n C 0 rfl d_E_never_4 rfl ?_
  refine z_getF2 C 0 (by decide) 9 (by decide) rfl 55 0 rfl (55) rfl zp_0 zk_0 zfl_0_60 d_E_never_5 ?_
  refine z_iload_n C 1 rfl d_E_never_8 rfl ?_
  obtain ⟨r4, h3, h⟩ := zb1_some h
  refine z_cV C 4 (by decide) (m_Pa_unreached l h3) mf_Pa_unreached lk_0_235 in_Pa_unreached se_Pa_unreached rfl zo_55 zk_55 ⟨rfl, rfl⟩ ⟨by decide, by decide⟩ ⟨Nat.zero_le _, Nat.zero_le _⟩ rfl _ [] rfl (Nat.le_of_ble_eq_true rfl) d_E_never_9 ?_
  cases h
  exact z_iret C .int hret rfl ⟨Nat.zero_le _, Nat.zero_le _⟩ d_E_never_12
def f_Pa_lastDay_4 (fu : Nat) : Nat → Int32 → Int32 → Int32 → zSt → Option Int32
  | 0, _, _, _, _ => none
  | n + 1, a1, a2, a3, S => zb1 (f_Pa_has a1 S) (fun r2 => if r2 = 0 then some a2 else if (zI S 55 0) ≤ a3 then some a2 else zb1 (f_Pa_pair a1 a3) (fun r6 => zgd (0 ≤ r6 ∧ r6.toNatClampNeg < 81) (if (zI S 58 r6.toNatClampNeg) ≤ a2 then f_Pa_lastDay_4 fu n a1 a2 (a3 + (1 : Int32)) S else f_Pa_lastDay_4 fu n a1 (zI S 58 r6.toNatClampNeg) (a3 + (1 : Int32)) S)))
def f_Pa_lastDay (fu : Nat) (a1 : Int32) (S : zSt) : Option Int32 := f_Pa_lastDay_4 fu fu a1 (0 : Int32) (0 : Int32) S
set_option maxRecDepth 100000 in
set_option maxHeartbeats 4000000 in
theorem c_Pa_lastDay_4 {p : Program} {l : Launch} {e : Env} {s : State} {m : MethodId} {args : Array Value} {below : List Frame} {meth : Method} {c : Code} {G : zG} (C : zC p s m args meth c G b_Pa_lastDay 5 y_Pa_lastDay.cls) (hret : meth.sig.returnType = (some .int)) {fu : Nat} {r : Int32} : ∀ (n : Nat) (a1 : Int32) (a2 : Int32) (a3 : Int32) (S : zSt) , f_Pa_lastDay_4 fu n a1 a2 a3 S = some r → zJ p l e rm_Pa_lastDay s m args below meth c G true 5 0 0 (zQm below G args s rm_Pa_lastDay true (some (zi r)) S) S 4 [(0, zr (some 55)), (1, zi a1), (2, zi a2), (3, zi a3)] [] := by
  intro n
  induction n with
  | zero =>
    intro a1 a2 a3 S h
    cases h
  | succ n ih =>
    intro a1 a2 a3 S h
    rw [f_Pa_lastDay_4] at h
    refine z_aload_n C 0 rfl d_Pa_lastDay_4 rfl ?_
    refine z_iload_n C 1 rfl d_Pa_lastDay_5 rfl ?_
    obtain ⟨r2, h1, h⟩ := zb1_some h
    refine z_cV C 4 (by decide) (m_Pa_has l h1) mf_Pa_has lk_4_61 in_Pa_has se_Pa_has rfl zo_55 zk_55 ⟨rfl, rfl⟩ ⟨by decide, by decide⟩ ⟨Nat.zero_le _, Nat.zero_le _⟩ rfl _ [] rfl (Nat.le_of_ble_eq_true rfl) d_Pa_lastDay_6 ?_
    rcases zite h with ⟨c3, h⟩ | ⟨c3, h⟩
    · refine z_if_eqt C 51 c3 d_Pa_lastDay_9 (by decide) ?_
      refine z_iload_n C 2 rfl d_Pa_lastDay_51 rfl ?_
      cases h
      exact z_iret C .int hret rfl ⟨Nat.zero_le _, Nat.zero_le _⟩ d_Pa_lastDay_52
    · refine z_if_eqf C 51 c3 d_Pa_lastDay_9 (by decide) ?_
      refine z_iload_n C 3 rfl d_Pa_lastDay_12 rfl ?_
      refine z_aload_n C 0 rfl d_Pa_lastDay_13 rfl ?_
      refine z_getI C 4 (by decide) 0 (by decide) rfl zo_55 zk_55 zfl_4_9 d_Pa_lastDay_14 ?_
      rcases zite h with ⟨c4, h⟩ | ⟨c4, h⟩
      · refine z_icmp_get C 51 c4 d_Pa_lastDay_17 (by decide) ?_
        refine z_iload_n C 2 rfl d_Pa_lastDay_51 rfl ?_
        cases h
        exact z_iret C .int hret rfl ⟨Nat.zero_le _, Nat.zero_le _⟩ d_Pa_lastDay_52
      · refine z_icmp_gef C 51 c4 d_Pa_lastDay_17 (by decide) ?_
        refine z_aload_n C 0 rfl d_Pa_lastDay_20 rfl ?_
        refine z_getF2 C 4 (by decide) 3 (by decide) rfl 3 81 rfl (58) rfl zp_55 zk_55 zfl_4_22 d_Pa_lastDay_21 ?_
        refine z_iload_n C 1 rfl d_Pa_lastDay_24 rfl ?_
        refine z_iload_n C 3 rfl d_Pa_lastDay_25 rfl ?_
        obtain ⟨r6, h5, h⟩ := zb1_some h
        refine z_cS C (m_Pa_pair l h5) mf_Pa_pair lk_4_50 st_Pa_pair ⟨rfl, rfl⟩ ⟨by decide, by decide⟩ ⟨Nat.zero_le _, Nat.zero_le _⟩ rfl _ [zr (some 58)] rfl (Nat.le_of_ble_eq_true rfl) d_Pa_lastDay_26 ?_
        refine z_fact (fun hSR => ?_)
        obtain ⟨g7, h⟩ := zgd_some h
        refine z_ialoadS C zo_58 zk_58 (za_58 hSR) g7 d_Pa_lastDay_29 ?_
        refine z_istore C [(4, zi (zI S 58 r6.toNatClampNeg)), (0, zr (some 55)), (1, zi a1), (2, zi a2), (3, zi a3)] d_Pa_lastDay_30 (by decide) rfl ?_
        refine z_iload C 0 rfl d_Pa_lastDay_32 ?_
        refine z_iload_n C 3 rfl d_Pa_lastDay_34 rfl ?_
        rcases zite h with ⟨c8, h⟩ | ⟨c8, h⟩
        · refine z_icmp_let C 43 c8 d_Pa_lastDay_35 (by decide) ?_
          refine z_iload_n C 3 rfl d_Pa_lastDay_43 rfl ?_
          refine z_istore_n C [(2, zi a2), (4, zi (zI S 58 r6.toNatClampNeg)), (0, zr (some 55)), (1, zi a1), (3, zi a3)] d_Pa_lastDay_44 rfl (by decide) rfl ?_
          refine z_iinc C 4 (a3 + (1 : Int32)) [(3, zi (a3 + (1 : Int32))), (2, zi a2), (4, zi (zI S 58 r6.toNatClampNeg)), (0, zr (some 55)), (1, zi a1)] rfl d_Pa_lastDay_45 (by first | rfl | decide) (by decide) rfl ?_
          refine z_goto C 4 d_Pa_lastDay_48 (by decide) ?_
          refine zq_lsub [3, 4, 1, 0] [(0, zr (some 55)), (1, zi a1), (2, zi a2), (3, zi (a3 + (1 : Int32)))] rfl ?_
          exact ih a1 a2 (a3 + (1 : Int32)) S h
        · refine z_icmp_lef C 43 c8 d_Pa_lastDay_35 (by decide) ?_
          refine z_iload C 0 rfl d_Pa_lastDay_38 ?_
          refine z_goto C 44 d_Pa_lastDay_40 (by decide) ?_
          refine z_istore_n C [(2, zi (zI S 58 r6.toNatClampNeg)), (4, zi (zI S 58 r6.toNatClampNeg)), (0, zr (some 55)), (1, zi a1), (3, zi a3)] d_Pa_lastDay_44 rfl (by decide) rfl ?_
          refine z_iinc C 4 (a3 + (1 : Int32)) [(3, zi (a3 + (1 : Int32))), (2, zi (zI S 58 r6.toNatClampNeg)), (4, zi (zI S 58 r6.toNatClampNeg)), (0, zr (some 55)), (1, zi a1)] rfl d_Pa_lastDay_45 (by first | rfl | decide) (by decide) rfl ?_
          refine z_goto C 4 d_Pa_lastDay_48 (by decide) ?_
          refine zq_lsub [3, 4, 1, 0] [(0, zr (some 55)), (1, zi a1), (2, zi (zI S 58 r6.toNatClampNeg)), (3, zi (a3 + (1 : Int32)))] rfl ?_
          exact ih a1 (zI S 58 r6.toNatClampNeg) (a3 + (1 : Int32)) S h
set_option maxRecDepth 100000 in
set_option maxHeartbeats 4000000 in
theorem m_Pa_lastDay (l : Launch) {fu : Nat} {a1 : Int32} {S : zSt} {r : Int32} (h : f_Pa_lastDay fu a1 S = some r) : zPM l y_Pa_lastDay b_Pa_lastDay 5 (some .int) rm_Pa_lastDay true true [zr (some 55), zi a1] S (some (zi r)) S := by
  refine zPM_of (by decide) (Nat.le_of_ble_eq_true rfl) (fun p e s m args below meth c G C hret hname => ?_)
  unfold f_Pa_lastDay at h
  refine (?_ : zJ p l e rm_Pa_lastDay s m args below meth c G true 5 0 0 (zQm below G args s rm_Pa_lastDay true (some (zi r)) S) S 0 [(0, zr (some 55)), (1, zi a1)] [])
  refine z_iconst C (0 : Int32) (by decide) d_Pa_lastDay_0 ?_
  refine z_istore_n C [(2, zi (0 : Int32)), (0, zr (some 55)), (1, zi a1)] d_Pa_lastDay_1 rfl (by decide) rfl ?_
  refine z_iconst C (0 : Int32) (by decide) d_Pa_lastDay_2 ?_
  refine z_istore_n C [(3, zi (0 : Int32)), (2, zi (0 : Int32)), (0, zr (some 55)), (1, zi a1)] d_Pa_lastDay_3 rfl (by decide) rfl ?_
  refine zq_lsub [2, 3, 1, 0] [(0, zr (some 55)), (1, zi a1), (2, zi (0 : Int32)), (3, zi (0 : Int32))] rfl ?_
  exact c_Pa_lastDay_4 C hret fu  a1 (0 : Int32) (0 : Int32) S h
def f_Pa_middle_7 (fu : Nat) : Nat → Int32 → Int32 → Int32 → zSt → Option Int32
  | 0, _, _, _, _ => none
  | n + 1, a1, a2, a3, S => if (zI S 55 0) ≤ a3 then some a1 else zb1 (f_Pa_lastDay fu a3 S) (fun r3 => if a2 ≤ r3 then f_Pa_middle_7 fu n a1 a2 (a3 + (1 : Int32)) S else f_Pa_middle_7 fu n a3 r3 (a3 + (1 : Int32)) S)
def f_Pa_middle (fu : Nat) (S : zSt) : Option Int32 := f_Pa_middle_7 fu fu (-1 : Int32) (1000000 : Int32) (0 : Int32) S
set_option maxRecDepth 100000 in
set_option maxHeartbeats 4000000 in
theorem c_Pa_middle_7 {p : Program} {l : Launch} {e : Env} {s : State} {m : MethodId} {args : Array Value} {below : List Frame} {meth : Method} {c : Code} {G : zG} (C : zC p s m args meth c G b_Pa_middle 5 y_Pa_middle.cls) (hret : meth.sig.returnType = (some .int)) {fu : Nat} {r : Int32} : ∀ (n : Nat) (a1 : Int32) (a2 : Int32) (a3 : Int32) (S : zSt) , f_Pa_middle_7 fu n a1 a2 a3 S = some r → zJ p l e rm_Pa_middle s m args below meth c G true 5 0 0 (zQm below G args s rm_Pa_middle true (some (zi r)) S) S 7 [(0, zr (some 55)), (1, zi a1), (2, zi a2), (3, zi a3)] [] := by
  intro n
  induction n with
  | zero =>
    intro a1 a2 a3 S h
    cases h
  | succ n ih =>
    intro a1 a2 a3 S h
    rw [f_Pa_middle_7] at h
    refine z_iload_n C 3 rfl d_Pa_middle_7 rfl ?_
    refine z_aload_n C 0 rfl d_Pa_middle_8 rfl ?_
    refine z_getI C 4 (by decide) 0 (by decide) rfl zo_55 zk_55 zfl_4_9 d_Pa_middle_9 ?_
    rcases zite h with ⟨c1, h⟩ | ⟨c1, h⟩
    · refine z_icmp_get C 39 c1 d_Pa_middle_12 (by decide) ?_
      refine z_iload_n C 1 rfl d_Pa_middle_39 rfl ?_
      cases h
      exact z_iret C .int hret rfl ⟨Nat.zero_le _, Nat.zero_le _⟩ d_Pa_middle_40
    · refine z_icmp_gef C 39 c1 d_Pa_middle_12 (by decide) ?_
      refine z_aload_n C 0 rfl d_Pa_middle_15 rfl ?_
      refine z_iload_n C 3 rfl d_Pa_middle_16 rfl ?_
      obtain ⟨r3, h2, h⟩ := zb1_some h
      refine z_cV C 4 (by decide) (m_Pa_lastDay l h2) mf_Pa_lastDay lk_4_70 in_Pa_lastDay se_Pa_lastDay rfl zo_55 zk_55 ⟨rfl, rfl⟩ ⟨by decide, by decide⟩ ⟨Nat.zero_le _, Nat.zero_le _⟩ rfl _ [] rfl (Nat.le_of_ble_eq_true rfl) d_Pa_middle_17 ?_
      refine z_istore C [(4, zi r3), (0, zr (some 55)), (1, zi a1), (2, zi a2), (3, zi a3)] d_Pa_middle_20 (by decide) rfl ?_
      refine z_iload C 0 rfl d_Pa_middle_22 ?_
      refine z_iload_n C 3 rfl d_Pa_middle_24 rfl ?_
      rcases zite h with ⟨c4, h⟩ | ⟨c4, h⟩
      · refine z_icmp_get C 33 c4 d_Pa_middle_25 (by decide) ?_
        refine z_iinc C 4 (a3 + (1 : Int32)) [(3, zi (a3 + (1 : Int32))), (4, zi r3), (0, zr (some 55)), (1, zi a1), (2, zi a2)] rfl d_Pa_middle_33 (by first | rfl | decide) (by decide) rfl ?_
        refine z_goto C 7 d_Pa_middle_36 (by decide) ?_
        refine zq_lsub [2, 3, 4, 0] [(0, zr (some 55)), (1, zi a1), (2, zi a2), (3, zi (a3 + (1 : Int32)))] rfl ?_
        exact ih a1 a2 (a3 + (1 : Int32)) S h
      · refine z_icmp_gef C 33 c4 d_Pa_middle_25 (by decide) ?_
        refine z_iload_n C 4 rfl d_Pa_middle_28 rfl ?_
        refine z_istore_n C [(1, zi a3), (4, zi r3), (0, zr (some 55)), (2, zi a2), (3, zi a3)] d_Pa_middle_29 rfl (by decide) rfl ?_
        refine z_iload C 1 rfl d_Pa_middle_30 ?_
        refine z_istore_n C [(2, zi r3), (1, zi a3), (4, zi r3), (0, zr (some 55)), (3, zi a3)] d_Pa_middle_32 rfl (by decide) rfl ?_
        refine z_iinc C 4 (a3 + (1 : Int32)) [(3, zi (a3 + (1 : Int32))), (2, zi r3), (1, zi a3), (4, zi r3), (0, zr (some 55))] rfl d_Pa_middle_33 (by first | rfl | decide) (by decide) rfl ?_
        refine z_goto C 7 d_Pa_middle_36 (by decide) ?_
        refine zq_lsub [4, 2, 1, 0] [(0, zr (some 55)), (1, zi a3), (2, zi r3), (3, zi (a3 + (1 : Int32)))] rfl ?_
        exact ih a3 r3 (a3 + (1 : Int32)) S h
set_option maxRecDepth 100000 in
set_option maxHeartbeats 4000000 in
theorem m_Pa_middle (l : Launch) {fu : Nat} {S : zSt} {r : Int32} (h : f_Pa_middle fu  S = some r) : zPM l y_Pa_middle b_Pa_middle 5 (some .int) rm_Pa_middle true true [zr (some 55)] S (some (zi r)) S := by
  refine zPM_of (by decide) (Nat.le_of_ble_eq_true rfl) (fun p e s m args below meth c G C hret hname => ?_)
  unfold f_Pa_middle at h
  refine (?_ : zJ p l e rm_Pa_middle s m args below meth c G true 5 0 0 (zQm below G args s rm_Pa_middle true (some (zi r)) S) S 0 [(0, zr (some 55))] [])
  refine z_iconst C (-1 : Int32) (by decide) d_Pa_middle_0 ?_
  refine z_istore_n C [(1, zi (-1 : Int32)), (0, zr (some 55))] d_Pa_middle_1 rfl (by decide) rfl ?_
  refine z_ldc C zc_4_49 d_Pa_middle_2 ?_
  refine z_istore_n C [(2, zi (1000000 : Int32)), (1, zi (-1 : Int32)), (0, zr (some 55))] d_Pa_middle_4 rfl (by decide) rfl ?_
  refine z_iconst C (0 : Int32) (by decide) d_Pa_middle_5 ?_
  refine z_istore_n C [(3, zi (0 : Int32)), (2, zi (1000000 : Int32)), (1, zi (-1 : Int32)), (0, zr (some 55))] d_Pa_middle_6 rfl (by decide) rfl ?_
  refine zq_lsub [3, 2, 1, 0] [(0, zr (some 55)), (1, zi (-1 : Int32)), (2, zi (1000000 : Int32)), (3, zi (0 : Int32))] rfl ?_
  exact c_Pa_middle_7 C hret fu  (-1 : Int32) (1000000 : Int32) (0 : Int32) S h
def f_E_centre_11 (fu : Nat) (a1 : Int32) (S : zSt) : Option (Int32 × zSt) := zb1 (f_E_fillPaper fu S) (fun S2 => zb1 (f_Pa_middle fu S2) (fun r4 => if a1 = 0 then some (r4, S2) else if r4 = (-1 : Int32) then some (r4, S2) else zb1 (f_Pa_lastDay fu r4 S2) (fun r8 => some (r8, S2))))
def f_E_centre (fu : Nat) (a1 : Int32) (S : zSt) : Option (Int32 × zSt) := if a1 = 0 then f_E_centre_11 fu a1 S else if a1 = (1 : Int32) then f_E_centre_11 fu a1 S else some ((-1 : Int32), S)
set_option maxRecDepth 100000 in
set_option maxHeartbeats 4000000 in
theorem c_E_centre_11 {p : Program} {l : Launch} {e : Env} {s : State} {m : MethodId} {args : Array Value} {below : List Frame} {meth : Method} {c : Code} {G : zG} (C : zC p s m args meth c G b_E_centre 3 y_E_centre.cls) (hret : meth.sig.returnType = (some .int)) {fu : Nat} {r : Int32} {S1 : zSt} : ∀ (a1 : Int32) (S : zSt) , f_E_centre_11 fu a1 S = some (r, S1) → zJ p l e rm_E_centre s m args below meth c G true 3 0 0 (zQm below G args s rm_E_centre true (some (zi r)) S1) S 11 [(0, zr (some 0)), (1, zi a1)] [] := by
  intro a1 S h
  unfold f_E_centre_11 at h
  refine z_aload_n C 0 rfl d_E_centre_11 rfl ?_
  obtain ⟨S2, h1, h⟩ := zb1_some h
  refine z_cV C 0 (by decide) (m_E_fillPaper l h1) mf_E_fillPaper lk_0_226 in_E_fillPaper se_E_fillPaper rfl zo_0 zk_0 ⟨rfl, rfl⟩ ⟨by decide, by decide⟩ ⟨Nat.zero_le _, Nat.zero_le _⟩ rfl _ [] rfl (Nat.le_of_ble_eq_true rfl) d_E_centre_12 ?_
  refine z_aload_n C 0 rfl d_E_centre_15 rfl ?_
  refine z_getF2 C 0 (by decide) 9 (by decide) rfl 55 0 rfl (55) rfl zp_0 zk_0 zfl_0_60 d_E_centre_16 ?_
  obtain ⟨r4, h3, h⟩ := zb1_some h
  refine z_cV C 4 (by decide) (m_Pa_middle l h3) mf_Pa_middle lk_0_238 in_Pa_middle se_Pa_middle rfl zo_55 zk_55 ⟨rfl, rfl⟩ ⟨by decide, by decide⟩ ⟨Nat.zero_le _, Nat.zero_le _⟩ rfl _ [] rfl (Nat.le_of_ble_eq_true rfl) d_E_centre_19 ?_
  refine z_istore_n C [(2, zi r4), (0, zr (some 0)), (1, zi a1)] d_E_centre_22 rfl (by decide) rfl ?_
  refine z_iload_n C 2 rfl d_E_centre_23 rfl ?_
  rcases zite h with ⟨c5, h⟩ | ⟨c5, h⟩
  · refine z_if_eqt C 32 c5 d_E_centre_24 (by decide) ?_
    refine z_iload_n C 0 rfl d_E_centre_32 rfl ?_
    refine z_goto C 44 d_E_centre_33 (by decide) ?_
    cases h
    exact z_iret C .int hret rfl ⟨Nat.zero_le _, Nat.zero_le _⟩ d_E_centre_44
  · refine z_if_eqf C 32 c5 d_E_centre_24 (by decide) ?_
    refine z_iload_n C 0 rfl d_E_centre_27 rfl ?_
    refine z_iconst C (-1 : Int32) (by decide) d_E_centre_28 ?_
    rcases zite h with ⟨c6, h⟩ | ⟨c6, h⟩
    · refine z_icmp_nef C 36 c6 d_E_centre_29 (by decide) ?_
      refine z_iload_n C 0 rfl d_E_centre_32 rfl ?_
      refine z_goto C 44 d_E_centre_33 (by decide) ?_
      cases h
      exact z_iret C .int hret rfl ⟨Nat.zero_le _, Nat.zero_le _⟩ d_E_centre_44
    · refine z_icmp_net C 36 c6 d_E_centre_29 (by decide) ?_
      refine z_aload_n C 1 rfl d_E_centre_36 rfl ?_
      refine z_getF2 C 0 (by decide) 9 (by decide) rfl 55 0 rfl (55) rfl zp_0 zk_0 zfl_0_60 d_E_centre_37 ?_
      refine z_iload_n C 0 rfl d_E_centre_40 rfl ?_
      obtain ⟨r8, h7, h⟩ := zb1_some h
      refine z_cV C 4 (by decide) (m_Pa_lastDay l h7) mf_Pa_lastDay lk_0_242 in_Pa_lastDay se_Pa_lastDay rfl zo_55 zk_55 ⟨rfl, rfl⟩ ⟨by decide, by decide⟩ ⟨Nat.zero_le _, Nat.zero_le _⟩ rfl _ [] rfl (Nat.le_of_ble_eq_true rfl) d_E_centre_41 ?_
      cases h
      exact z_iret C .int hret rfl ⟨Nat.zero_le _, Nat.zero_le _⟩ d_E_centre_44
set_option maxRecDepth 100000 in
set_option maxHeartbeats 4000000 in
theorem m_E_centre (l : Launch) {fu : Nat} {a1 : Int32} {S : zSt} {r : Int32} {S1 : zSt} (h : f_E_centre fu a1 S = some (r, S1)) : zPM l y_E_centre b_E_centre 3 (some .int) rm_E_centre true true [zr (some 0), zi a1] S (some (zi r)) S1 := by
  refine zPM_of (by decide) (Nat.le_of_ble_eq_true rfl) (fun p e s m args below meth c G C hret hname => ?_)
  unfold f_E_centre at h
  refine (?_ : zJ p l e rm_E_centre s m args below meth c G true 3 0 0 (zQm below G args s rm_E_centre true (some (zi r)) S1) S 0 [(0, zr (some 0)), (1, zi a1)] [])
  refine z_iload_n C 1 rfl d_E_centre_0 rfl ?_
  rcases zite h with ⟨c1, h⟩ | ⟨c1, h⟩
  · refine z_if_eqt C 11 c1 d_E_centre_1 (by decide) ?_
    refine zq_lsub [0, 1] [(0, zr (some 0)), (1, zi a1)] rfl ?_
    exact c_E_centre_11 C hret  a1 S h
  · refine z_if_eqf C 11 c1 d_E_centre_1 (by decide) ?_
    refine z_iload_n C 1 rfl d_E_centre_4 rfl ?_
    refine z_iconst C (1 : Int32) (by decide) d_E_centre_5 ?_
    rcases zite h with ⟨c2, h⟩ | ⟨c2, h⟩
    · refine z_icmp_eqt C 11 c2 d_E_centre_6 (by decide) ?_
      refine zq_lsub [0, 1] [(0, zr (some 0)), (1, zi a1)] rfl ?_
      exact c_E_centre_11 C hret  a1 S h
    · refine z_icmp_eqf C 11 c2 d_E_centre_6 (by decide) ?_
      refine z_iconst C (-1 : Int32) (by decide) d_E_centre_9 ?_
      cases h
      exact z_iret C .int hret rfl ⟨Nat.zero_le _, Nat.zero_le _⟩ d_E_centre_10
def f_Ps_hasAll (a0 : Nat) (a1 : Int32) (S : zSt) : Option Int32 := if a1 < 0 then some (0 : Int32) else if ((1 : Int32) <<< ((zI S a0 0) &&& 31)) ≤ a1 then some (0 : Int32) else some (1 : Int32)
set_option maxRecDepth 100000 in
set_option maxHeartbeats 4000000 in
theorem m_Ps_hasAll (l : Launch) {a0 : Nat} {a1 : Int32} {S : zSt} {r : Int32} (ha0 : zK a0 = 5) (ga0 : a0 < zN0) (h : f_Ps_hasAll a0 a1 S = some r) : zPM l y_Ps_hasAll b_Ps_hasAll 2 (some .boolean) rm_Ps_hasAll true true [zr (some a0), zi a1] S (some (zi r)) S := by
  refine zPM_of (by decide) (Nat.le_of_ble_eq_true rfl) (fun p e s m args below meth c G C hret hname => ?_)
  unfold f_Ps_hasAll at h
  refine (?_ : zJ p l e rm_Ps_hasAll s m args below meth c G true 2 0 0 (zQm below G args s rm_Ps_hasAll true (some (zi r)) S) S 0 [(0, zr (some a0)), (1, zi a1)] [])
  refine z_iload_n C 1 rfl d_Ps_hasAll_0 rfl ?_
  rcases zite h with ⟨c1, h⟩ | ⟨c1, h⟩
  · refine z_if_ltt C 18 c1 d_Ps_hasAll_1 (by decide) ?_
    refine z_iconst C (0 : Int32) (by decide) d_Ps_hasAll_18 ?_
    cases h
    exact z_iret C .boolean hret rfl ⟨Nat.zero_le _, Nat.zero_le _⟩ d_Ps_hasAll_19
  · refine z_if_ltf C 18 c1 d_Ps_hasAll_1 (by decide) ?_
    refine z_iload_n C 1 rfl d_Ps_hasAll_4 rfl ?_
    refine z_iconst C (1 : Int32) (by decide) d_Ps_hasAll_5 ?_
    refine z_aload_n C 0 rfl d_Ps_hasAll_6 rfl ?_
    refine z_getI C 5 (by decide) 0 (by decide) rfl (Or.inl ⟨rfl, ga0⟩) ha0 zfl_5_9 d_Ps_hasAll_7 ?_
    refine z_ishl C d_Ps_hasAll_10 ?_
    rcases zite h with ⟨c2, h⟩ | ⟨c2, h⟩
    · refine z_icmp_get C 18 c2 d_Ps_hasAll_11 (by decide) ?_
      refine z_iconst C (0 : Int32) (by decide) d_Ps_hasAll_18 ?_
      cases h
      exact z_iret C .boolean hret rfl ⟨Nat.zero_le _, Nat.zero_le _⟩ d_Ps_hasAll_19
    · refine z_icmp_gef C 18 c2 d_Ps_hasAll_11 (by decide) ?_
      refine z_iconst C (1 : Int32) (by decide) d_Ps_hasAll_14 ?_
      refine z_goto C 19 d_Ps_hasAll_15 (by decide) ?_
      cases h
      exact z_iret C .boolean hret rfl ⟨Nat.zero_le _, Nat.zero_le _⟩ d_Ps_hasAll_19
def f_Ro_daysOf (a1 : Int32) (a2 : Int32) (S : zSt) : Option Int32 := zb1 (f_Pa_soonest a1 a2 S) (fun r2 => if r2 = (-1 : Int32) then some (1000000 : Int32) else some r2)
set_option maxRecDepth 100000 in
set_option maxHeartbeats 4000000 in
theorem m_Ro_daysOf (l : Launch) {a1 : Int32} {a2 : Int32} {S : zSt} {r : Int32} (h : f_Ro_daysOf a1 a2 S = some r) : zPM l y_Ro_daysOf b_Ro_daysOf 4 (some .int) rm_Ro_daysOf true true [zr (some 55), zi a1, zi a2] S (some (zi r)) S := by
  refine zPM_of (by decide) (Nat.le_of_ble_eq_true rfl) (fun p e s m args below meth c G C hret hname => ?_)
  unfold f_Ro_daysOf at h
  refine (?_ : zJ p l e rm_Ro_daysOf s m args below meth c G true 4 0 0 (zQm below G args s rm_Ro_daysOf true (some (zi r)) S) S 0 [(0, zr (some 55)), (1, zi a1), (2, zi a2)] [])
  refine z_aload_n C 0 rfl d_Ro_daysOf_0 rfl ?_
  refine z_iload_n C 1 rfl d_Ro_daysOf_1 rfl ?_
  refine z_iload_n C 2 rfl d_Ro_daysOf_2 rfl ?_
  obtain ⟨r2, h1, h⟩ := zb1_some h
  refine z_cV C 4 (by decide) (m_Pa_soonest l h1) mf_Pa_soonest lk_7_41 in_Pa_soonest se_Pa_soonest rfl zo_55 zk_55 ⟨rfl, rfl⟩ ⟨by decide, by decide⟩ ⟨Nat.zero_le _, Nat.zero_le _⟩ rfl _ [] rfl (Nat.le_of_ble_eq_true rfl) d_Ro_daysOf_3 ?_
  refine z_istore_n C [(3, zi r2), (0, zr (some 55)), (1, zi a1), (2, zi a2)] d_Ro_daysOf_6 rfl (by decide) rfl ?_
  refine z_iload_n C 0 rfl d_Ro_daysOf_7 rfl ?_
  refine z_iconst C (-1 : Int32) (by decide) d_Ro_daysOf_8 ?_
  rcases zite h with ⟨c3, h⟩ | ⟨c3, h⟩
  · refine z_icmp_nef C 17 c3 d_Ro_daysOf_9 (by decide) ?_
    refine z_ldc C zc_7_44 d_Ro_daysOf_12 ?_
    refine z_goto C 18 d_Ro_daysOf_14 (by decide) ?_
    cases h
    exact z_iret C .int hret rfl ⟨Nat.zero_le _, Nat.zero_le _⟩ d_Ro_daysOf_18
  · refine z_icmp_net C 17 c3 d_Ro_daysOf_9 (by decide) ?_
    refine z_iload_n C 0 rfl d_Ro_daysOf_17 rfl ?_
    cases h
    exact z_iret C .int hret rfl ⟨Nat.zero_le _, Nat.zero_le _⟩ d_Ro_daysOf_18
def f_Ro_daysBy_25 (a1 : Int32) (a3 : Int32) (k0 : Int32) (S : zSt) : Option Int32 := zgd (0 ≤ (((a1 ||| ((1 : Int32) <<< (a3 &&& 31))) * (8 : Int32)) + a3) ∧ (((a1 ||| ((1 : Int32) <<< (a3 &&& 31))) * (8 : Int32)) + a3).toNatClampNeg < 2048) (some (k0 + (zI S 64 (((a1 ||| ((1 : Int32) <<< (a3 &&& 31))) * (8 : Int32)) + a3).toNatClampNeg)))
def f_Ro_daysBy (a1 : Int32) (a2 : Int32) (a3 : Int32) (S : zSt) : Option Int32 := if a2 = (-1 : Int32) then zgd (0 ≤ a3 ∧ a3.toNatClampNeg < 8) (f_Ro_daysBy_25 a1 a3 (zI S 62 a3.toNatClampNeg) S) else zgd (0 ≤ ((a2 * (8 : Int32)) + a3) ∧ ((a2 * (8 : Int32)) + a3).toNatClampNeg < 64) (f_Ro_daysBy_25 a1 a3 (zI S 63 ((a2 * (8 : Int32)) + a3).toNatClampNeg) S)
set_option maxRecDepth 100000 in
set_option maxHeartbeats 4000000 in
theorem c_Ro_daysBy_25 {p : Program} {l : Launch} {e : Env} {s : State} {m : MethodId} {args : Array Value} {below : List Frame} {meth : Method} {c : Code} {G : zG} (C : zC p s m args meth c G b_Ro_daysBy 5 y_Ro_daysBy.cls) (hret : meth.sig.returnType = (some .int)) {r : Int32} : ∀ (a1 : Int32) (a3 : Int32) (k0 : Int32) (S : zSt) , f_Ro_daysBy_25 a1 a3 k0 S = some r → zJ p l e rm_Ro_daysBy s m args below meth c G true 5 0 0 (zQm below G args s rm_Ro_daysBy true (some (zi r)) S) S 25 [(0, zr (some 60)), (1, zi a1), (3, zi a3)] [zi k0] := by
  intro a1 a3 k0 S h
  unfold f_Ro_daysBy_25 at h
  refine z_istore C [(4, zi k0), (0, zr (some 60)), (1, zi a1), (3, zi a3)] d_Ro_daysBy_25 (by decide) rfl ?_
  refine z_iload C 0 rfl d_Ro_daysBy_27 ?_
  refine z_aload_n C 1 rfl d_Ro_daysBy_29 rfl ?_
  refine z_getF2 C 7 (by decide) 4 (by decide) rfl 4 2048 rfl (64) rfl zp_60 zk_60 zfl_7_25 d_Ro_daysBy_30 ?_
  refine z_iload_n C 2 rfl d_Ro_daysBy_33 rfl ?_
  refine z_iconst C (1 : Int32) (by decide) d_Ro_daysBy_34 ?_
  refine z_iload_n C 3 rfl d_Ro_daysBy_35 rfl ?_
  refine z_ishl C d_Ro_daysBy_36 ?_
  refine z_ior C d_Ro_daysBy_37 ?_
  refine z_bipush C (8 : Int32) (by decide) d_Ro_daysBy_38 ?_
  refine z_imul C d_Ro_daysBy_40 ?_
  refine z_iload_n C 3 rfl d_Ro_daysBy_41 rfl ?_
  refine z_iadd C d_Ro_daysBy_42 ?_
  refine z_fact (fun hSR => ?_)
  obtain ⟨g1, h⟩ := zgd_some h
  refine z_ialoadS C zo_64 zk_64 (za_64 hSR) g1 d_Ro_daysBy_43 ?_
  refine z_iadd C d_Ro_daysBy_44 ?_
  cases h
  exact z_iret C .int hret rfl ⟨Nat.zero_le _, Nat.zero_le _⟩ d_Ro_daysBy_45
set_option maxRecDepth 100000 in
set_option maxHeartbeats 4000000 in
theorem m_Ro_daysBy (l : Launch) {a1 : Int32} {a2 : Int32} {a3 : Int32} {S : zSt} {r : Int32} (h : f_Ro_daysBy a1 a2 a3 S = some r) : zPM l y_Ro_daysBy b_Ro_daysBy 5 (some .int) rm_Ro_daysBy true true [zr (some 60), zi a1, zi a2, zi a3] S (some (zi r)) S := by
  refine zPM_of (by decide) (Nat.le_of_ble_eq_true rfl) (fun p e s m args below meth c G C hret hname => ?_)
  unfold f_Ro_daysBy at h
  refine (?_ : zJ p l e rm_Ro_daysBy s m args below meth c G true 5 0 0 (zQm below G args s rm_Ro_daysBy true (some (zi r)) S) S 0 [(0, zr (some 60)), (1, zi a1), (2, zi a2), (3, zi a3)] [])
  refine z_iload_n C 2 rfl d_Ro_daysBy_0 rfl ?_
  refine z_iconst C (-1 : Int32) (by decide) d_Ro_daysBy_1 ?_
  rcases zite h with ⟨c1, h⟩ | ⟨c1, h⟩
  · refine z_icmp_nef C 14 c1 d_Ro_daysBy_2 (by decide) ?_
    refine z_aload_n C 0 rfl d_Ro_daysBy_5 rfl ?_
    refine z_getF2 C 7 (by decide) 2 (by decide) rfl 2 8 rfl (62) rfl zp_60 zk_60 zfl_7_19 d_Ro_daysBy_6 ?_
    refine z_iload_n C 3 rfl d_Ro_daysBy_9 rfl ?_
    refine z_fact (fun hSR => ?_)
    obtain ⟨g3, h⟩ := zgd_some h
    refine z_ialoadS C zo_62 zk_62 (za_62 hSR) g3 d_Ro_daysBy_10 ?_
    refine z_goto C 25 d_Ro_daysBy_11 (by decide) ?_
    refine zq_lsub [0, 1, 3] [(0, zr (some 60)), (1, zi a1), (3, zi a3)] rfl ?_
    exact c_Ro_daysBy_25 C hret  a1 a3 (zI S 62 a3.toNatClampNeg) S h
  · refine z_icmp_net C 14 c1 d_Ro_daysBy_2 (by decide) ?_
    refine z_aload_n C 0 rfl d_Ro_daysBy_14 rfl ?_
    refine z_getF2 C 7 (by decide) 3 (by decide) rfl 3 64 rfl (63) rfl zp_60 zk_60 zfl_7_22 d_Ro_daysBy_15 ?_
    refine z_iload_n C 2 rfl d_Ro_daysBy_18 rfl ?_
    refine z_bipush C (8 : Int32) (by decide) d_Ro_daysBy_19 ?_
    refine z_imul C d_Ro_daysBy_21 ?_
    refine z_iload_n C 3 rfl d_Ro_daysBy_22 rfl ?_
    refine z_iadd C d_Ro_daysBy_23 ?_
    refine z_fact (fun hSR => ?_)
    obtain ⟨g2, h⟩ := zgd_some h
    refine z_ialoadS C zo_63 zk_63 (za_63 hSR) g2 d_Ro_daysBy_24 ?_
    refine zq_lsub [0, 1, 3] [(0, zr (some 60)), (1, zi a1), (3, zi a3)] rfl ?_
    exact c_Ro_daysBy_25 C hret  a1 a3 (zI S 63 ((a2 * (8 : Int32)) + a3).toNatClampNeg) S h
def f_Ro_fewestBehind_6 (fu : Nat) : Nat → Int32 → Int32 → Int32 → Int32 → zSt → Option Int32
  | 0, _, _, _, _, _ => none
  | n + 1, a1, a2, a3, a4, S => if (zI S 60 1) ≤ a4 then some a3 else if ((a1 >>> (a4 &&& 31)) &&& (1 : Int32)) = 0 then zb1 (f_Ro_daysBy a1 a2 a4 S) (fun r4 => if a3 ≤ r4 then f_Ro_fewestBehind_6 fu n a1 a2 a3 (a4 + (1 : Int32)) S else f_Ro_fewestBehind_6 fu n a1 a2 r4 (a4 + (1 : Int32)) S) else f_Ro_fewestBehind_6 fu n a1 a2 a3 (a4 + (1 : Int32)) S
def f_Ro_fewestBehind (fu : Nat) (a1 : Int32) (a2 : Int32) (S : zSt) : Option Int32 := f_Ro_fewestBehind_6 fu fu a1 a2 (1000000 : Int32) (0 : Int32) S
set_option maxRecDepth 100000 in
set_option maxHeartbeats 4000000 in
theorem c_Ro_fewestBehind_6 {p : Program} {l : Launch} {e : Env} {s : State} {m : MethodId} {args : Array Value} {below : List Frame} {meth : Method} {c : Code} {G : zG} (C : zC p s m args meth c G b_Ro_fewestBehind 6 y_Ro_fewestBehind.cls) (hret : meth.sig.returnType = (some .int)) {fu : Nat} {r : Int32} : ∀ (n : Nat) (a1 : Int32) (a2 : Int32) (a3 : Int32) (a4 : Int32) (S : zSt) , f_Ro_fewestBehind_6 fu n a1 a2 a3 a4 S = some r → zJ p l e rm_Ro_fewestBehind s m args below meth c G true 6 0 0 (zQm below G args s rm_Ro_fewestBehind true (some (zi r)) S) S 6 [(0, zr (some 60)), (1, zi a1), (2, zi a2), (3, zi a3), (4, zi a4)] [] := by
  intro n
  induction n with
  | zero =>
    intro a1 a2 a3 a4 S h
    cases h
  | succ n ih =>
    intro a1 a2 a3 a4 S h
    rw [f_Ro_fewestBehind_6] at h
    refine z_iload C 4 rfl d_Ro_fewestBehind_6 ?_
    refine z_aload_n C 0 rfl d_Ro_fewestBehind_8 rfl ?_
    refine z_getI C 7 (by decide) 1 (by decide) rfl zo_60 zk_60 zfl_7_15 d_Ro_fewestBehind_9 ?_
    rcases zite h with ⟨c1, h⟩ | ⟨c1, h⟩
    · refine z_icmp_get C 53 c1 d_Ro_fewestBehind_12 (by decide) ?_
      refine z_iload_n C 3 rfl d_Ro_fewestBehind_53 rfl ?_
      cases h
      exact z_iret C .int hret rfl ⟨Nat.zero_le _, Nat.zero_le _⟩ d_Ro_fewestBehind_54
    · refine z_icmp_gef C 53 c1 d_Ro_fewestBehind_12 (by decide) ?_
      refine z_iload_n C 1 rfl d_Ro_fewestBehind_15 rfl ?_
      refine z_iload C 4 rfl d_Ro_fewestBehind_16 ?_
      refine z_ishr C d_Ro_fewestBehind_18 ?_
      refine z_iconst C (1 : Int32) (by decide) d_Ro_fewestBehind_19 ?_
      refine z_iand C d_Ro_fewestBehind_20 ?_
      rcases zite h with ⟨c2, h⟩ | ⟨c2, h⟩
      · refine z_if_nef C 47 c2 d_Ro_fewestBehind_21 (by decide) ?_
        refine z_aload_n C 0 rfl d_Ro_fewestBehind_24 rfl ?_
        refine z_iload_n C 1 rfl d_Ro_fewestBehind_25 rfl ?_
        refine z_iload_n C 2 rfl d_Ro_fewestBehind_26 rfl ?_
        refine z_iload C 4 rfl d_Ro_fewestBehind_27 ?_
        obtain ⟨r4, h3, h⟩ := zb1_some h
        refine z_cV C 7 (by decide) (m_Ro_daysBy l h3) mf_Ro_daysBy lk_7_45 in_Ro_daysBy se_Ro_daysBy rfl zo_60 zk_60 ⟨rfl, rfl⟩ ⟨by decide, by decide⟩ ⟨Nat.zero_le _, Nat.zero_le _⟩ rfl _ [] rfl (Nat.le_of_ble_eq_true rfl) d_Ro_fewestBehind_29 ?_
        refine z_istore C [(5, zi r4), (0, zr (some 60)), (1, zi a1), (2, zi a2), (3, zi a3), (4, zi a4)] d_Ro_fewestBehind_32 (by decide) rfl ?_
        refine z_iload C 0 rfl d_Ro_fewestBehind_34 ?_
        refine z_iload_n C 4 rfl d_Ro_fewestBehind_36 rfl ?_
        rcases zite h with ⟨c5, h⟩ | ⟨c5, h⟩
        · refine z_icmp_get C 45 c5 d_Ro_fewestBehind_37 (by decide) ?_
          refine z_iload_n C 4 rfl d_Ro_fewestBehind_45 rfl ?_
          refine z_istore_n C [(3, zi a3), (5, zi r4), (0, zr (some 60)), (1, zi a1), (2, zi a2), (4, zi a4)] d_Ro_fewestBehind_46 rfl (by decide) rfl ?_
          refine z_iinc C 5 (a4 + (1 : Int32)) [(4, zi (a4 + (1 : Int32))), (3, zi a3), (5, zi r4), (0, zr (some 60)), (1, zi a1), (2, zi a2)] rfl d_Ro_fewestBehind_47 (by first | rfl | decide) (by decide) rfl ?_
          refine z_goto C 6 d_Ro_fewestBehind_50 (by decide) ?_
          refine zq_lsub [3, 4, 5, 1, 0] [(0, zr (some 60)), (1, zi a1), (2, zi a2), (3, zi a3), (4, zi (a4 + (1 : Int32)))] rfl ?_
          exact ih a1 a2 a3 (a4 + (1 : Int32)) S h
        · refine z_icmp_gef C 45 c5 d_Ro_fewestBehind_37 (by decide) ?_
          refine z_iload C 0 rfl d_Ro_fewestBehind_40 ?_
          refine z_goto C 46 d_Ro_fewestBehind_42 (by decide) ?_
          refine z_istore_n C [(3, zi r4), (5, zi r4), (0, zr (some 60)), (1, zi a1), (2, zi a2), (4, zi a4)] d_Ro_fewestBehind_46 rfl (by decide) rfl ?_
          refine z_iinc C 5 (a4 + (1 : Int32)) [(4, zi (a4 + (1 : Int32))), (3, zi r4), (5, zi r4), (0, zr (some 60)), (1, zi a1), (2, zi a2)] rfl d_Ro_fewestBehind_47 (by first | rfl | decide) (by decide) rfl ?_
          refine z_goto C 6 d_Ro_fewestBehind_50 (by decide) ?_
          refine zq_lsub [3, 4, 5, 1, 0] [(0, zr (some 60)), (1, zi a1), (2, zi a2), (3, zi r4), (4, zi (a4 + (1 : Int32)))] rfl ?_
          exact ih a1 a2 r4 (a4 + (1 : Int32)) S h
      · refine z_if_net C 47 c2 d_Ro_fewestBehind_21 (by decide) ?_
        refine z_iinc C 4 (a4 + (1 : Int32)) [(4, zi (a4 + (1 : Int32))), (0, zr (some 60)), (1, zi a1), (2, zi a2), (3, zi a3)] rfl d_Ro_fewestBehind_47 (by first | rfl | decide) (by decide) rfl ?_
        refine z_goto C 6 d_Ro_fewestBehind_50 (by decide) ?_
        refine zq_lsub [1, 2, 3, 4, 0] [(0, zr (some 60)), (1, zi a1), (2, zi a2), (3, zi a3), (4, zi (a4 + (1 : Int32)))] rfl ?_
        exact ih a1 a2 a3 (a4 + (1 : Int32)) S h
set_option maxRecDepth 100000 in
set_option maxHeartbeats 4000000 in
theorem m_Ro_fewestBehind (l : Launch) {fu : Nat} {a1 : Int32} {a2 : Int32} {S : zSt} {r : Int32} (h : f_Ro_fewestBehind fu a1 a2 S = some r) : zPM l y_Ro_fewestBehind b_Ro_fewestBehind 6 (some .int) rm_Ro_fewestBehind true true [zr (some 60), zi a1, zi a2] S (some (zi r)) S := by
  refine zPM_of (by decide) (Nat.le_of_ble_eq_true rfl) (fun p e s m args below meth c G C hret hname => ?_)
  unfold f_Ro_fewestBehind at h
  refine (?_ : zJ p l e rm_Ro_fewestBehind s m args below meth c G true 6 0 0 (zQm below G args s rm_Ro_fewestBehind true (some (zi r)) S) S 0 [(0, zr (some 60)), (1, zi a1), (2, zi a2)] [])
  refine z_ldc C zc_7_44 d_Ro_fewestBehind_0 ?_
  refine z_istore_n C [(3, zi (1000000 : Int32)), (0, zr (some 60)), (1, zi a1), (2, zi a2)] d_Ro_fewestBehind_2 rfl (by decide) rfl ?_
  refine z_iconst C (0 : Int32) (by decide) d_Ro_fewestBehind_3 ?_
  refine z_istore C [(4, zi (0 : Int32)), (3, zi (1000000 : Int32)), (0, zr (some 60)), (1, zi a1), (2, zi a2)] d_Ro_fewestBehind_4 (by decide) rfl ?_
  refine zq_lsub [2, 3, 4, 1, 0] [(0, zr (some 60)), (1, zi a1), (2, zi a2), (3, zi (1000000 : Int32)), (4, zi (0 : Int32))] rfl ?_
  exact c_Ro_fewestBehind_6 C hret fu  a1 a2 (1000000 : Int32) (0 : Int32) S h
def f_Ro_plan_138 (fu : Nat) (k82 : Int32 → Int32 → Int32 → zSt → Option zSt) : Nat → Int32 → Int32 → Int32 → Int32 → zSt → Option zSt
  | 0, _, _, _, _, _ => none
  | n + 1, a2, a4, a5, a6, S => if (zI S 60 1) ≤ a6 then k82 a2 a4 (a5 + (1 : Int32)) S else zgd (0 ≤ a5 ∧ a5.toNatClampNeg < 8) (zgd (0 ≤ a6 ∧ a6.toNatClampNeg < 8) (zb1 (f_Ro_daysOf (zI S 61 a5.toNatClampNeg) (zI S 61 a6.toNatClampNeg) S) (fun r5 => zgd (0 ≤ ((a5 * (8 : Int32)) + a6) ∧ ((a5 * (8 : Int32)) + a6).toNatClampNeg < 64) (f_Ro_plan_138 fu k82 n a2 a4 a5 (a6 + (1 : Int32)) (zwI S 63 ((a5 * (8 : Int32)) + a6).toNatClampNeg r5)))))
def f_Ro_plan_204 (fu : Nat) (k196 : Int32 → zSt → Option zSt) : Nat → Int32 → Int32 → zSt → Option zSt
  | 0, _, _, _ => none
  | n + 1, a5, a6, S => if (zI S 60 1) ≤ a6 then k196 (a5 + (-1 : Int32)) S else zb1 (f_Ro_fewestBehind fu a5 a6 S) (fun r3 => zgd (0 ≤ ((a5 * (8 : Int32)) + a6) ∧ ((a5 * (8 : Int32)) + a6).toNatClampNeg < 2048) (f_Ro_plan_204 fu k196 n a5 (a6 + (1 : Int32)) (zwI S 64 ((a5 * (8 : Int32)) + a6).toNatClampNeg r3)))
def f_Ro_plan_196 (fu : Nat) : Nat → Int32 → zSt → Option zSt
  | 0, _, _ => none
  | n + 1, a5, S => if a5 ≤ 0 then some S else f_Ro_plan_204 fu (f_Ro_plan_196 fu n) fu a5 (0 : Int32) S
def f_Ro_plan_190 (fu : Nat) (a4 : Int32) (S : zSt) : Option zSt := f_Ro_plan_196 fu fu (a4 - (1 : Int32)) S
def f_Ro_plan_82 (fu : Nat) : Nat → Int32 → Int32 → Int32 → zSt → Option zSt
  | 0, _, _, _, _ => none
  | n + 1, a2, a4, a5, S => if (zI S 60 1) ≤ a5 then f_Ro_plan_190 fu a4 S else zgd (0 ≤ a5 ∧ a5.toNatClampNeg < 8) (zb1 (f_Ro_daysOf a2 (zI S 61 a5.toNatClampNeg) S) (fun r4 => zgd (0 ≤ a5 ∧ a5.toNatClampNeg < 8) (zgd (0 ≤ a5 ∧ a5.toNatClampNeg < 8) (zb1 (f_Ro_daysOf (zI (zwI S 62 a5.toNatClampNeg r4) 61 a5.toNatClampNeg) a2 (zwI S 62 a5.toNatClampNeg r4)) (fun r8 => zgd (0 ≤ ((a4 * (8 : Int32)) + a5) ∧ ((a4 * (8 : Int32)) + a5).toNatClampNeg < 2048) (f_Ro_plan_138 fu (f_Ro_plan_82 fu n) fu a2 a4 a5 (0 : Int32) (zwI (zwI S 62 a5.toNatClampNeg r4) 64 ((a4 * (8 : Int32)) + a5).toNatClampNeg r8)))))))
def f_Ro_plan_69 (fu : Nat) (a2 : Int32) (S : zSt) : Option zSt := f_Ro_plan_82 fu fu a2 (((1 : Int32) <<< ((zI S 60 1) &&& 31)) - (1 : Int32)) (0 : Int32) S
def f_Ro_plan_8 (fu : Nat) : Nat → Int32 → Int32 → Int32 → zSt → Option zSt
  | 0, _, _, _, _ => none
  | n + 1, a2, a3, a4, S => if (zI S 55 0) ≤ a4 then f_Ro_plan_69 fu a2 S else if (8 : Int32) ≤ (zI S 60 1) then f_Ro_plan_69 fu a2 S else if a4 = a2 then f_Ro_plan_8 fu n a2 a3 (a4 + (1 : Int32)) S else if ((a3 >>> (a4 &&& 31)) &&& (1 : Int32)) = (1 : Int32) then zgd (0 ≤ (zI S 60 1) ∧ (zI S 60 1).toNatClampNeg < 8) (f_Ro_plan_8 fu n a2 a3 (a4 + (1 : Int32)) (zwI (zwI S 61 (zI S 60 1).toNatClampNeg a4) 60 1 ((zI (zwI S 61 (zI S 60 1).toNatClampNeg a4) 60 1) + (1 : Int32)))) else f_Ro_plan_8 fu n a2 a3 (a4 + (1 : Int32)) S
def f_Ro_plan (fu : Nat) (a2 : Int32) (a3 : Int32) (S : zSt) : Option zSt := f_Ro_plan_8 fu fu a2 a3 (0 : Int32) (zwI S 60 1 (0 : Int32))
set_option maxRecDepth 100000 in
set_option maxHeartbeats 4000000 in
theorem c_Ro_plan_138 {p : Program} {l : Launch} {e : Env} {s : State} {m : MethodId} {args : Array Value} {below : List Frame} {meth : Method} {c : Code} {G : zG} (C : zC p s m args meth c G b_Ro_plan 7 y_Ro_plan.cls) (hret : meth.sig.returnType = none) {fu : Nat} {S1 : zSt} {k82 : Int32 → Int32 → Int32 → zSt → Option zSt} (hk82 : ∀ (a2 : Int32) (a4 : Int32) (a5 : Int32) (S : zSt) , k82 a2 a4 a5 S = some S1 → zJ p l e rm_Ro_plan s m args below meth c G true 7 0 0 (zQm below G args s rm_Ro_plan true none S1) S 82 [(0, zr (some 60)), (1, zr (some 55)), (2, zi a2), (4, zi a4), (5, zi a5)] []) : ∀ (n : Nat) (a2 : Int32) (a4 : Int32) (a5 : Int32) (a6 : Int32) (S : zSt) , f_Ro_plan_138 fu k82 n a2 a4 a5 a6 S = some S1 → zJ p l e rm_Ro_plan s m args below meth c G true 7 0 0 (zQm below G args s rm_Ro_plan true none S1) S 138 [(0, zr (some 60)), (1, zr (some 55)), (2, zi a2), (4, zi a4), (5, zi a5), (6, zi a6)] [] := by
  intro n
  induction n with
  | zero =>
    intro a2 a4 a5 a6 S h
    cases h
  | succ n ih =>
    intro a2 a4 a5 a6 S h
    rw [f_Ro_plan_138] at h
    refine z_iload C 5 rfl d_Ro_plan_138 ?_
    refine z_aload_n C 0 rfl d_Ro_plan_140 rfl ?_
    refine z_getI C 7 (by decide) 1 (by decide) rfl zo_60 zk_60 zfl_7_15 d_Ro_plan_141 ?_
    rcases zite h with ⟨c1, h⟩ | ⟨c1, h⟩
    · refine z_icmp_get C 184 c1 d_Ro_plan_144 (by decide) ?_
      refine z_iinc C 4 (a5 + (1 : Int32)) [(5, zi (a5 + (1 : Int32))), (0, zr (some 60)), (1, zr (some 55)), (2, zi a2), (4, zi a4), (6, zi a6)] rfl d_Ro_plan_184 (by first | rfl | decide) (by decide) rfl ?_
      refine z_goto C 82 d_Ro_plan_187 (by decide) ?_
      refine zq_lsub [1, 2, 3, 4, 0] [(0, zr (some 60)), (1, zr (some 55)), (2, zi a2), (4, zi a4), (5, zi (a5 + (1 : Int32)))] rfl ?_
      exact hk82 a2 a4 (a5 + (1 : Int32)) S h
    · refine z_icmp_gef C 184 c1 d_Ro_plan_144 (by decide) ?_
      refine z_aload_n C 0 rfl d_Ro_plan_147 rfl ?_
      refine z_getF2 C 7 (by decide) 3 (by decide) rfl 3 64 rfl (63) rfl zp_60 zk_60 zfl_7_22 d_Ro_plan_148 ?_
      refine z_iload C 4 rfl d_Ro_plan_151 ?_
      refine z_bipush C (8 : Int32) (by decide) d_Ro_plan_153 ?_
      refine z_imul C d_Ro_plan_155 ?_
      refine z_iload C 5 rfl d_Ro_plan_156 ?_
      refine z_iadd C d_Ro_plan_158 ?_
      refine z_aload_n C 1 rfl d_Ro_plan_159 rfl ?_
      refine z_aload_n C 0 rfl d_Ro_plan_160 rfl ?_
      refine z_getF2 C 7 (by decide) 0 (by decide) rfl 1 8 rfl (61) rfl zp_60 zk_60 zfl_7_11 d_Ro_plan_161 ?_
      refine z_iload C 4 rfl d_Ro_plan_164 ?_
      refine z_fact (fun hSR => ?_)
      obtain ⟨g2, h⟩ := zgd_some h
      refine z_ialoadS C zo_61 zk_61 (za_61 hSR) g2 d_Ro_plan_166 ?_
      refine z_aload_n C 0 rfl d_Ro_plan_167 rfl ?_
      refine z_getF2 C 7 (by decide) 0 (by decide) rfl 1 8 rfl (61) rfl zp_60 zk_60 zfl_7_11 d_Ro_plan_168 ?_
      refine z_iload C 5 rfl d_Ro_plan_171 ?_
      refine z_fact (fun hSR => ?_)
      obtain ⟨g3, h⟩ := zgd_some h
      refine z_ialoadS C zo_61 zk_61 (za_61 hSR) g3 d_Ro_plan_173 ?_
      obtain ⟨r5, h4, h⟩ := zb1_some h
      refine z_cS C (m_Ro_daysOf l h4) mf_Ro_daysOf lk_7_33 st_Ro_daysOf ⟨rfl, rfl⟩ ⟨by decide, by decide⟩ ⟨Nat.zero_le _, Nat.zero_le _⟩ rfl _ [zi ((a5 * (8 : Int32)) + a6), zr (some 63)] rfl (Nat.le_of_ble_eq_true rfl) d_Ro_plan_174 ?_
      refine z_fact (fun hSR => ?_)
      obtain ⟨g6, h⟩ := zgd_some h
      refine z_iastoreS C zo_63 zk_63 (za_63 hSR) g6 d_Ro_plan_177 ?_
      refine z_iinc C 5 (a6 + (1 : Int32)) [(6, zi (a6 + (1 : Int32))), (0, zr (some 60)), (1, zr (some 55)), (2, zi a2), (4, zi a4), (5, zi a5)] rfl d_Ro_plan_178 (by first | rfl | decide) (by decide) rfl ?_
      refine z_goto C 138 d_Ro_plan_181 (by decide) ?_
      refine zq_lsub [1, 2, 3, 4, 5, 0] [(0, zr (some 60)), (1, zr (some 55)), (2, zi a2), (4, zi a4), (5, zi a5), (6, zi (a6 + (1 : Int32)))] rfl ?_
      exact ih a2 a4 a5 (a6 + (1 : Int32)) (zwI S 63 ((a5 * (8 : Int32)) + a6).toNatClampNeg r5) h
set_option maxRecDepth 100000 in
set_option maxHeartbeats 4000000 in
theorem c_Ro_plan_204 {p : Program} {l : Launch} {e : Env} {s : State} {m : MethodId} {args : Array Value} {below : List Frame} {meth : Method} {c : Code} {G : zG} (C : zC p s m args meth c G b_Ro_plan 7 y_Ro_plan.cls) (hret : meth.sig.returnType = none) {fu : Nat} {S1 : zSt} {k196 : Int32 → zSt → Option zSt} (hk196 : ∀ (a5 : Int32) (S : zSt) , k196 a5 S = some S1 → zJ p l e rm_Ro_plan s m args below meth c G true 7 0 0 (zQm below G args s rm_Ro_plan true none S1) S 196 [(0, zr (some 60)), (5, zi a5)] []) : ∀ (n : Nat) (a5 : Int32) (a6 : Int32) (S : zSt) , f_Ro_plan_204 fu k196 n a5 a6 S = some S1 → zJ p l e rm_Ro_plan s m args below meth c G true 7 0 0 (zQm below G args s rm_Ro_plan true none S1) S 204 [(0, zr (some 60)), (5, zi a5), (6, zi a6)] [] := by
  intro n
  induction n with
  | zero =>
    intro a5 a6 S h
    cases h
  | succ n ih =>
    intro a5 a6 S h
    rw [f_Ro_plan_204] at h
    refine z_iload C 2 rfl d_Ro_plan_204 ?_
    refine z_aload_n C 0 rfl d_Ro_plan_206 rfl ?_
    refine z_getI C 7 (by decide) 1 (by decide) rfl zo_60 zk_60 zfl_7_15 d_Ro_plan_207 ?_
    rcases zite h with ⟨c1, h⟩ | ⟨c1, h⟩
    · refine z_icmp_get C 240 c1 d_Ro_plan_210 (by decide) ?_
      refine z_iinc C 1 (a5 + (-1 : Int32)) [(5, zi (a5 + (-1 : Int32))), (0, zr (some 60)), (6, zi a6)] rfl d_Ro_plan_240 (by first | rfl | decide) (by decide) rfl ?_
      refine z_goto C 196 d_Ro_plan_243 (by decide) ?_
      refine zq_lsub [1, 0] [(0, zr (some 60)), (5, zi (a5 + (-1 : Int32)))] rfl ?_
      exact hk196 (a5 + (-1 : Int32)) S h
    · refine z_icmp_gef C 240 c1 d_Ro_plan_210 (by decide) ?_
      refine z_aload_n C 0 rfl d_Ro_plan_213 rfl ?_
      refine z_getF2 C 7 (by decide) 4 (by decide) rfl 4 2048 rfl (64) rfl zp_60 zk_60 zfl_7_25 d_Ro_plan_214 ?_
      refine z_iload C 1 rfl d_Ro_plan_217 ?_
      refine z_bipush C (8 : Int32) (by decide) d_Ro_plan_219 ?_
      refine z_imul C d_Ro_plan_221 ?_
      refine z_iload C 2 rfl d_Ro_plan_222 ?_
      refine z_iadd C d_Ro_plan_224 ?_
      refine z_aload_n C 0 rfl d_Ro_plan_225 rfl ?_
      refine z_iload C 1 rfl d_Ro_plan_226 ?_
      refine z_iload C 2 rfl d_Ro_plan_228 ?_
      obtain ⟨r3, h2, h⟩ := zb1_some h
      refine z_cV C 7 (by decide) (m_Ro_fewestBehind l h2) mf_Ro_fewestBehind lk_7_37 in_Ro_fewestBehind se_Ro_fewestBehind rfl zo_60 zk_60 ⟨rfl, rfl⟩ ⟨by decide, by decide⟩ ⟨Nat.zero_le _, Nat.zero_le _⟩ rfl _ [zi ((a5 * (8 : Int32)) + a6), zr (some 64)] rfl (Nat.le_of_ble_eq_true rfl) d_Ro_plan_230 ?_
      refine z_fact (fun hSR => ?_)
      obtain ⟨g4, h⟩ := zgd_some h
      refine z_iastoreS C zo_64 zk_64 (za_64 hSR) g4 d_Ro_plan_233 ?_
      refine z_iinc C 2 (a6 + (1 : Int32)) [(6, zi (a6 + (1 : Int32))), (0, zr (some 60)), (5, zi a5)] rfl d_Ro_plan_234 (by first | rfl | decide) (by decide) rfl ?_
      refine z_goto C 204 d_Ro_plan_237 (by decide) ?_
      refine zq_lsub [1, 2, 0] [(0, zr (some 60)), (5, zi a5), (6, zi (a6 + (1 : Int32)))] rfl ?_
      exact ih a5 (a6 + (1 : Int32)) (zwI S 64 ((a5 * (8 : Int32)) + a6).toNatClampNeg r3) h
set_option maxRecDepth 100000 in
set_option maxHeartbeats 4000000 in
theorem c_Ro_plan_196 {p : Program} {l : Launch} {e : Env} {s : State} {m : MethodId} {args : Array Value} {below : List Frame} {meth : Method} {c : Code} {G : zG} (C : zC p s m args meth c G b_Ro_plan 7 y_Ro_plan.cls) (hret : meth.sig.returnType = none) {fu : Nat} {S1 : zSt} : ∀ (n : Nat) (a5 : Int32) (S : zSt) , f_Ro_plan_196 fu n a5 S = some S1 → zJ p l e rm_Ro_plan s m args below meth c G true 7 0 0 (zQm below G args s rm_Ro_plan true none S1) S 196 [(0, zr (some 60)), (5, zi a5)] [] := by
  intro n
  induction n with
  | zero =>
    intro a5 S h
    cases h
  | succ n ih =>
    intro a5 S h
    rw [f_Ro_plan_196] at h
    refine z_iload C 1 rfl d_Ro_plan_196 ?_
    rcases zite h with ⟨c1, h⟩ | ⟨c1, h⟩
    · refine z_if_let C 246 c1 d_Ro_plan_198 (by decide) ?_
      cases h
      exact z_vret C hret ⟨Nat.zero_le _, Nat.zero_le _⟩ d_Ro_plan_246
    · refine z_if_lef C 246 c1 d_Ro_plan_198 (by decide) ?_
      refine z_iconst C (0 : Int32) (by decide) d_Ro_plan_201 ?_
      refine z_istore C [(6, zi (0 : Int32)), (0, zr (some 60)), (5, zi a5)] d_Ro_plan_202 (by decide) rfl ?_
      refine zq_lsub [1, 2, 0] [(0, zr (some 60)), (5, zi a5), (6, zi (0 : Int32))] rfl ?_
      exact c_Ro_plan_204 C hret (fun z0 zS zh => ih z0 zS zh) fu  a5 (0 : Int32) S h
set_option maxRecDepth 100000 in
set_option maxHeartbeats 4000000 in
theorem c_Ro_plan_190 {p : Program} {l : Launch} {e : Env} {s : State} {m : MethodId} {args : Array Value} {below : List Frame} {meth : Method} {c : Code} {G : zG} (C : zC p s m args meth c G b_Ro_plan 7 y_Ro_plan.cls) (hret : meth.sig.returnType = none) {fu : Nat} {S1 : zSt} : ∀ (a4 : Int32) (S : zSt) , f_Ro_plan_190 fu a4 S = some S1 → zJ p l e rm_Ro_plan s m args below meth c G true 7 0 0 (zQm below G args s rm_Ro_plan true none S1) S 190 [(0, zr (some 60)), (4, zi a4)] [] := by
  intro a4 S h
  unfold f_Ro_plan_190 at h
  refine z_iload C 1 rfl d_Ro_plan_190 ?_
  refine z_iconst C (1 : Int32) (by decide) d_Ro_plan_192 ?_
  refine z_isub C d_Ro_plan_193 ?_
  refine z_istore C [(5, zi (a4 - (1 : Int32))), (0, zr (some 60)), (4, zi a4)] d_Ro_plan_194 (by decide) rfl ?_
  refine zq_lsub [1, 0] [(0, zr (some 60)), (5, zi (a4 - (1 : Int32)))] rfl ?_
  exact c_Ro_plan_196 C hret fu  (a4 - (1 : Int32)) S h
set_option maxRecDepth 100000 in
set_option maxHeartbeats 4000000 in
theorem c_Ro_plan_82 {p : Program} {l : Launch} {e : Env} {s : State} {m : MethodId} {args : Array Value} {below : List Frame} {meth : Method} {c : Code} {G : zG} (C : zC p s m args meth c G b_Ro_plan 7 y_Ro_plan.cls) (hret : meth.sig.returnType = none) {fu : Nat} {S1 : zSt} : ∀ (n : Nat) (a2 : Int32) (a4 : Int32) (a5 : Int32) (S : zSt) , f_Ro_plan_82 fu n a2 a4 a5 S = some S1 → zJ p l e rm_Ro_plan s m args below meth c G true 7 0 0 (zQm below G args s rm_Ro_plan true none S1) S 82 [(0, zr (some 60)), (1, zr (some 55)), (2, zi a2), (4, zi a4), (5, zi a5)] [] := by
  intro n
  induction n with
  | zero =>
    intro a2 a4 a5 S h
    cases h
  | succ n ih =>
    intro a2 a4 a5 S h
    rw [f_Ro_plan_82] at h
    refine z_iload C 4 rfl d_Ro_plan_82 ?_
    refine z_aload_n C 0 rfl d_Ro_plan_84 rfl ?_
    refine z_getI C 7 (by decide) 1 (by decide) rfl zo_60 zk_60 zfl_7_15 d_Ro_plan_85 ?_
    rcases zite h with ⟨c1, h⟩ | ⟨c1, h⟩
    · refine z_icmp_get C 190 c1 d_Ro_plan_88 (by decide) ?_
      refine zq_lsub [0, 3] [(0, zr (some 60)), (4, zi a4)] rfl ?_
      exact c_Ro_plan_190 C hret  a4 S h
    · refine z_icmp_gef C 190 c1 d_Ro_plan_88 (by decide) ?_
      refine z_aload_n C 0 rfl d_Ro_plan_91 rfl ?_
      refine z_getF2 C 7 (by decide) 2 (by decide) rfl 2 8 rfl (62) rfl zp_60 zk_60 zfl_7_19 d_Ro_plan_92 ?_
      refine z_iload C 4 rfl d_Ro_plan_95 ?_
      refine z_aload_n C 1 rfl d_Ro_plan_97 rfl ?_
      refine z_iload_n C 2 rfl d_Ro_plan_98 rfl ?_
      refine z_aload_n C 0 rfl d_Ro_plan_99 rfl ?_
      refine z_getF2 C 7 (by decide) 0 (by decide) rfl 1 8 rfl (61) rfl zp_60 zk_60 zfl_7_11 d_Ro_plan_100 ?_
      refine z_iload C 4 rfl d_Ro_plan_103 ?_
      refine z_fact (fun hSR => ?_)
      obtain ⟨g2, h⟩ := zgd_some h
      refine z_ialoadS C zo_61 zk_61 (za_61 hSR) g2 d_Ro_plan_105 ?_
      obtain ⟨r4, h3, h⟩ := zb1_some h
      refine z_cS C (m_Ro_daysOf l h3) mf_Ro_daysOf lk_7_33 st_Ro_daysOf ⟨rfl, rfl⟩ ⟨by decide, by decide⟩ ⟨Nat.zero_le _, Nat.zero_le _⟩ rfl _ [zi a5, zr (some 62)] rfl (Nat.le_of_ble_eq_true rfl) d_Ro_plan_106 ?_
      refine z_fact (fun hSR => ?_)
      obtain ⟨g5, h⟩ := zgd_some h
      refine z_iastoreS C zo_62 zk_62 (za_62 hSR) g5 d_Ro_plan_109 ?_
      refine z_aload_n C 0 rfl d_Ro_plan_110 rfl ?_
      refine z_getF2 C 7 (by decide) 4 (by decide) rfl 4 2048 rfl (64) rfl zp_60 zk_60 zfl_7_25 d_Ro_plan_111 ?_
      refine z_iload C 3 rfl d_Ro_plan_114 ?_
      refine z_bipush C (8 : Int32) (by decide) d_Ro_plan_116 ?_
      refine z_imul C d_Ro_plan_118 ?_
      refine z_iload C 4 rfl d_Ro_plan_119 ?_
      refine z_iadd C d_Ro_plan_121 ?_
      refine z_aload_n C 1 rfl d_Ro_plan_122 rfl ?_
      refine z_aload_n C 0 rfl d_Ro_plan_123 rfl ?_
      refine z_getF2 C 7 (by decide) 0 (by decide) rfl 1 8 rfl (61) rfl zp_60 zk_60 zfl_7_11 d_Ro_plan_124 ?_
      refine z_iload C 4 rfl d_Ro_plan_127 ?_
      refine z_fact (fun hSR => ?_)
      obtain ⟨g6, h⟩ := zgd_some h
      refine z_ialoadS C zo_61 zk_61 (za_61 hSR) g6 d_Ro_plan_129 ?_
      refine z_iload_n C 2 rfl d_Ro_plan_130 rfl ?_
      obtain ⟨r8, h7, h⟩ := zb1_some h
      refine z_cS C (m_Ro_daysOf l h7) mf_Ro_daysOf lk_7_33 st_Ro_daysOf ⟨rfl, rfl⟩ ⟨by decide, by decide⟩ ⟨Nat.zero_le _, Nat.zero_le _⟩ rfl _ [zi ((a4 * (8 : Int32)) + a5), zr (some 64)] rfl (Nat.le_of_ble_eq_true rfl) d_Ro_plan_131 ?_
      refine z_fact (fun hSR => ?_)
      obtain ⟨g9, h⟩ := zgd_some h
      refine z_iastoreS C zo_64 zk_64 (za_64 hSR) g9 d_Ro_plan_134 ?_
      refine z_iconst C (0 : Int32) (by decide) d_Ro_plan_135 ?_
      refine z_istore C [(6, zi (0 : Int32)), (0, zr (some 60)), (1, zr (some 55)), (2, zi a2), (4, zi a4), (5, zi a5)] d_Ro_plan_136 (by decide) rfl ?_
      refine zq_lsub [1, 2, 3, 4, 5, 0] [(0, zr (some 60)), (1, zr (some 55)), (2, zi a2), (4, zi a4), (5, zi a5), (6, zi (0 : Int32))] rfl ?_
      exact c_Ro_plan_138 C hret (fun z0 z1 z2 zS zh => ih z0 z1 z2 zS zh) fu  a2 a4 a5 (0 : Int32) (zwI (zwI S 62 a5.toNatClampNeg r4) 64 ((a4 * (8 : Int32)) + a5).toNatClampNeg r8) h
set_option maxRecDepth 100000 in
set_option maxHeartbeats 4000000 in
theorem c_Ro_plan_69 {p : Program} {l : Launch} {e : Env} {s : State} {m : MethodId} {args : Array Value} {below : List Frame} {meth : Method} {c : Code} {G : zG} (C : zC p s m args meth c G b_Ro_plan 7 y_Ro_plan.cls) (hret : meth.sig.returnType = none) {fu : Nat} {S1 : zSt} : ∀ (a2 : Int32) (S : zSt) , f_Ro_plan_69 fu a2 S = some S1 → zJ p l e rm_Ro_plan s m args below meth c G true 7 0 0 (zQm below G args s rm_Ro_plan true none S1) S 69 [(0, zr (some 60)), (1, zr (some 55)), (2, zi a2)] [] := by
  intro a2 S h
  unfold f_Ro_plan_69 at h
  refine z_iconst C (1 : Int32) (by decide) d_Ro_plan_69 ?_
  refine z_aload_n C 0 rfl d_Ro_plan_70 rfl ?_
  refine z_getI C 7 (by decide) 1 (by decide) rfl zo_60 zk_60 zfl_7_15 d_Ro_plan_71 ?_
  refine z_ishl C d_Ro_plan_74 ?_
  refine z_iconst C (1 : Int32) (by decide) d_Ro_plan_75 ?_
  refine z_isub C d_Ro_plan_76 ?_
  refine z_istore C [(4, zi (((1 : Int32) <<< ((zI S 60 1) &&& 31)) - (1 : Int32))), (0, zr (some 60)), (1, zr (some 55)), (2, zi a2)] d_Ro_plan_77 (by decide) rfl ?_
  refine z_iconst C (0 : Int32) (by decide) d_Ro_plan_79 ?_
  refine z_istore C [(5, zi (0 : Int32)), (4, zi (((1 : Int32) <<< ((zI S 60 1) &&& 31)) - (1 : Int32))), (0, zr (some 60)), (1, zr (some 55)), (2, zi a2)] d_Ro_plan_80 (by decide) rfl ?_
  refine zq_lsub [2, 3, 4, 1, 0] [(0, zr (some 60)), (1, zr (some 55)), (2, zi a2), (4, zi (((1 : Int32) <<< ((zI S 60 1) &&& 31)) - (1 : Int32))), (5, zi (0 : Int32))] rfl ?_
  exact c_Ro_plan_82 C hret fu  a2 (((1 : Int32) <<< ((zI S 60 1) &&& 31)) - (1 : Int32)) (0 : Int32) S h
set_option maxRecDepth 100000 in
set_option maxHeartbeats 4000000 in
theorem c_Ro_plan_8 {p : Program} {l : Launch} {e : Env} {s : State} {m : MethodId} {args : Array Value} {below : List Frame} {meth : Method} {c : Code} {G : zG} (C : zC p s m args meth c G b_Ro_plan 7 y_Ro_plan.cls) (hret : meth.sig.returnType = none) {fu : Nat} {S1 : zSt} : ∀ (n : Nat) (a2 : Int32) (a3 : Int32) (a4 : Int32) (S : zSt) , f_Ro_plan_8 fu n a2 a3 a4 S = some S1 → zJ p l e rm_Ro_plan s m args below meth c G true 7 0 0 (zQm below G args s rm_Ro_plan true none S1) S 8 [(0, zr (some 60)), (1, zr (some 55)), (2, zi a2), (3, zi a3), (4, zi a4)] [] := by
  intro n
  induction n with
  | zero =>
    intro a2 a3 a4 S h
    cases h
  | succ n ih =>
    intro a2 a3 a4 S h
    rw [f_Ro_plan_8] at h
    refine z_iload C 4 rfl d_Ro_plan_8 ?_
    refine z_aload_n C 1 rfl d_Ro_plan_10 rfl ?_
    refine z_getI C 4 (by decide) 0 (by decide) rfl zo_55 zk_55 zfl_7_28 d_Ro_plan_11 ?_
    rcases zite h with ⟨c1, h⟩ | ⟨c1, h⟩
    · refine z_icmp_get C 69 c1 d_Ro_plan_14 (by decide) ?_
      refine zq_lsub [0, 1, 2] [(0, zr (some 60)), (1, zr (some 55)), (2, zi a2)] rfl ?_
      exact c_Ro_plan_69 C hret  a2 S h
    · refine z_icmp_gef C 69 c1 d_Ro_plan_14 (by decide) ?_
      refine z_aload_n C 0 rfl d_Ro_plan_17 rfl ?_
      refine z_getI C 7 (by decide) 1 (by decide) rfl zo_60 zk_60 zfl_7_15 d_Ro_plan_18 ?_
      refine z_bipush C (8 : Int32) (by decide) d_Ro_plan_21 ?_
      rcases zite h with ⟨c2, h⟩ | ⟨c2, h⟩
      · refine z_icmp_get C 69 c2 d_Ro_plan_23 (by decide) ?_
        refine zq_lsub [0, 1, 2] [(0, zr (some 60)), (1, zr (some 55)), (2, zi a2)] rfl ?_
        exact c_Ro_plan_69 C hret  a2 S h
      · refine z_icmp_gef C 69 c2 d_Ro_plan_23 (by decide) ?_
        refine z_iload C 4 rfl d_Ro_plan_26 ?_
        refine z_iload_n C 2 rfl d_Ro_plan_28 rfl ?_
        rcases zite h with ⟨c3, h⟩ | ⟨c3, h⟩
        · refine z_icmp_eqt C 63 c3 d_Ro_plan_29 (by decide) ?_
          refine z_iinc C 4 (a4 + (1 : Int32)) [(4, zi (a4 + (1 : Int32))), (0, zr (some 60)), (1, zr (some 55)), (2, zi a2), (3, zi a3)] rfl d_Ro_plan_63 (by first | rfl | decide) (by decide) rfl ?_
          refine z_goto C 8 d_Ro_plan_66 (by decide) ?_
          refine zq_lsub [1, 2, 3, 4, 0] [(0, zr (some 60)), (1, zr (some 55)), (2, zi a2), (3, zi a3), (4, zi (a4 + (1 : Int32)))] rfl ?_
          exact ih a2 a3 (a4 + (1 : Int32)) S h
        · refine z_icmp_eqf C 63 c3 d_Ro_plan_29 (by decide) ?_
          refine z_iload_n C 3 rfl d_Ro_plan_32 rfl ?_
          refine z_iload C 4 rfl d_Ro_plan_33 ?_
          refine z_ishr C d_Ro_plan_35 ?_
          refine z_iconst C (1 : Int32) (by decide) d_Ro_plan_36 ?_
          refine z_iand C d_Ro_plan_37 ?_
          refine z_iconst C (1 : Int32) (by decide) d_Ro_plan_38 ?_
          rcases zite h with ⟨c4, h⟩ | ⟨c4, h⟩
          · refine z_icmp_nef C 63 c4 d_Ro_plan_39 (by decide) ?_
            refine z_aload_n C 0 rfl d_Ro_plan_42 rfl ?_
            refine z_getF2 C 7 (by decide) 0 (by decide) rfl 1 8 rfl (61) rfl zp_60 zk_60 zfl_7_11 d_Ro_plan_43 ?_
            refine z_aload_n C 0 rfl d_Ro_plan_46 rfl ?_
            refine z_getI C 7 (by decide) 1 (by decide) rfl zo_60 zk_60 zfl_7_15 d_Ro_plan_47 ?_
            refine z_iload C 4 rfl d_Ro_plan_50 ?_
            refine z_fact (fun hSR => ?_)
            obtain ⟨g5, h⟩ := zgd_some h
            refine z_iastoreS C zo_61 zk_61 (za_61 hSR) g5 d_Ro_plan_52 ?_
            refine z_aload_n C 0 rfl d_Ro_plan_53 rfl ?_
            refine z_dup C rfl d_Ro_plan_54 ?_
            refine z_getI C 7 (by decide) 1 (by decide) rfl zo_60 zk_60 zfl_7_15 d_Ro_plan_55 ?_
            refine z_iconst C (1 : Int32) (by decide) d_Ro_plan_58 ?_
            refine z_iadd C d_Ro_plan_59 ?_
            refine z_putI C 7 (by decide) 1 (by decide) rfl (Or.inl rfl) zo_60 zk_60 zfl_7_15 (Or.inl rfl) d_Ro_plan_60 ?_
            refine z_iinc C 4 (a4 + (1 : Int32)) [(4, zi (a4 + (1 : Int32))), (0, zr (some 60)), (1, zr (some 55)), (2, zi a2), (3, zi a3)] rfl d_Ro_plan_63 (by first | rfl | decide) (by decide) rfl ?_
            refine z_goto C 8 d_Ro_plan_66 (by decide) ?_
            refine zq_lsub [1, 2, 3, 4, 0] [(0, zr (some 60)), (1, zr (some 55)), (2, zi a2), (3, zi a3), (4, zi (a4 + (1 : Int32)))] rfl ?_
            exact ih a2 a3 (a4 + (1 : Int32)) (zwI (zwI S 61 (zI S 60 1).toNatClampNeg a4) 60 1 ((zI (zwI S 61 (zI S 60 1).toNatClampNeg a4) 60 1) + (1 : Int32))) h
          · refine z_icmp_net C 63 c4 d_Ro_plan_39 (by decide) ?_
            refine z_iinc C 4 (a4 + (1 : Int32)) [(4, zi (a4 + (1 : Int32))), (0, zr (some 60)), (1, zr (some 55)), (2, zi a2), (3, zi a3)] rfl d_Ro_plan_63 (by first | rfl | decide) (by decide) rfl ?_
            refine z_goto C 8 d_Ro_plan_66 (by decide) ?_
            refine zq_lsub [1, 2, 3, 4, 0] [(0, zr (some 60)), (1, zr (some 55)), (2, zi a2), (3, zi a3), (4, zi (a4 + (1 : Int32)))] rfl ?_
            exact ih a2 a3 (a4 + (1 : Int32)) S h
set_option maxRecDepth 100000 in
set_option maxHeartbeats 4000000 in
theorem m_Ro_plan (l : Launch) {fu : Nat} {a2 : Int32} {a3 : Int32} {S : zSt} {S1 : zSt} (h : f_Ro_plan fu a2 a3 S = some S1) : zPM l y_Ro_plan b_Ro_plan 7 none rm_Ro_plan true true [zr (some 60), zr (some 55), zi a2, zi a3] S none S1 := by
  refine zPM_of (by decide) (Nat.le_of_ble_eq_true rfl) (fun p e s m args below meth c G C hret hname => ?_)
  unfold f_Ro_plan at h
  refine (?_ : zJ p l e rm_Ro_plan s m args below meth c G true 7 0 0 (zQm below G args s rm_Ro_plan true none S1) S 0 [(0, zr (some 60)), (1, zr (some 55)), (2, zi a2), (3, zi a3)] [])
  refine z_aload_n C 0 rfl d_Ro_plan_0 rfl ?_
  refine z_iconst C (0 : Int32) (by decide) d_Ro_plan_1 ?_
  refine z_putI C 7 (by decide) 1 (by decide) rfl (Or.inl rfl) zo_60 zk_60 zfl_7_15 (Or.inl rfl) d_Ro_plan_2 ?_
  refine z_iconst C (0 : Int32) (by decide) d_Ro_plan_5 ?_
  refine z_istore C [(4, zi (0 : Int32)), (0, zr (some 60)), (1, zr (some 55)), (2, zi a2), (3, zi a3)] d_Ro_plan_6 (by decide) rfl ?_
  refine zq_lsub [1, 2, 3, 4, 0] [(0, zr (some 60)), (1, zr (some 55)), (2, zi a2), (3, zi a3), (4, zi (0 : Int32))] rfl ?_
  exact c_Ro_plan_8 C hret fu  a2 a3 (0 : Int32) (zwI S 60 1 (0 : Int32)) h
def f_Ro_days (fu : Nat) (S : zSt) : Option Int32 := if (zI S 60 1) = 0 then some (0 : Int32) else zb1 (f_Ro_fewestBehind fu (0 : Int32) (-1 : Int32) S) (fun r3 => if (1000000 : Int32) ≤ r3 then some (-1 : Int32) else some r3)
set_option maxRecDepth 100000 in
set_option maxHeartbeats 4000000 in
theorem m_Ro_days (l : Launch) {fu : Nat} {S : zSt} {r : Int32} (h : f_Ro_days fu  S = some r) : zPM l y_Ro_days b_Ro_days 2 (some .int) rm_Ro_days true true [zr (some 60)] S (some (zi r)) S := by
  refine zPM_of (by decide) (Nat.le_of_ble_eq_true rfl) (fun p e s m args below meth c G C hret hname => ?_)
  unfold f_Ro_days at h
  refine (?_ : zJ p l e rm_Ro_days s m args below meth c G true 2 0 0 (zQm below G args s rm_Ro_days true (some (zi r)) S) S 0 [(0, zr (some 60))] [])
  refine z_aload_n C 0 rfl d_Ro_days_0 rfl ?_
  refine z_getI C 7 (by decide) 1 (by decide) rfl zo_60 zk_60 zfl_7_15 d_Ro_days_1 ?_
  rcases zite h with ⟨c1, h⟩ | ⟨c1, h⟩
  · refine z_if_nef C 9 c1 d_Ro_days_4 (by decide) ?_
    refine z_iconst C (0 : Int32) (by decide) d_Ro_days_7 ?_
    cases h
    exact z_iret C .int hret rfl ⟨Nat.zero_le _, Nat.zero_le _⟩ d_Ro_days_8
  · refine z_if_net C 9 c1 d_Ro_days_4 (by decide) ?_
    refine z_aload_n C 0 rfl d_Ro_days_9 rfl ?_
    refine z_iconst C (0 : Int32) (by decide) d_Ro_days_10 ?_
    refine z_iconst C (-1 : Int32) (by decide) d_Ro_days_11 ?_
    obtain ⟨r3, h2, h⟩ := zb1_some h
    refine z_cV C 7 (by decide) (m_Ro_fewestBehind l h2) mf_Ro_fewestBehind lk_7_37 in_Ro_fewestBehind se_Ro_fewestBehind rfl zo_60 zk_60 ⟨rfl, rfl⟩ ⟨by decide, by decide⟩ ⟨Nat.zero_le _, Nat.zero_le _⟩ rfl _ [] rfl (Nat.le_of_ble_eq_true rfl) d_Ro_days_12 ?_
    refine z_istore_n C [(1, zi r3), (0, zr (some 60))] d_Ro_days_15 rfl (by decide) rfl ?_
    refine z_iload_n C 0 rfl d_Ro_days_16 rfl ?_
    refine z_ldc C zc_7_44 d_Ro_days_17 ?_
    rcases zite h with ⟨c4, h⟩ | ⟨c4, h⟩
    · refine z_icmp_get C 26 c4 d_Ro_days_19 (by decide) ?_
      refine z_iconst C (-1 : Int32) (by decide) d_Ro_days_26 ?_
      cases h
      exact z_iret C .int hret rfl ⟨Nat.zero_le _, Nat.zero_le _⟩ d_Ro_days_27
    · refine z_icmp_gef C 26 c4 d_Ro_days_19 (by decide) ?_
      refine z_iload_n C 0 rfl d_Ro_days_22 rfl ?_
      refine z_goto C 27 d_Ro_days_23 (by decide) ?_
      cases h
      exact z_iret C .int hret rfl ⟨Nat.zero_le _, Nat.zero_le _⟩ d_Ro_days_27
def f_Ro_nextStop_10 (fu : Nat) : Nat → Int32 → Int32 → Int32 → Int32 → zSt → Option Int32
  | 0, _, _, _, _, _ => none
  | n + 1, a1, a2, a3, a4, S => if (zI S 60 1) ≤ a4 then some (-1 : Int32) else if ((a1 >>> (a4 &&& 31)) &&& (1 : Int32)) = 0 then zb1 (f_Ro_daysBy a1 a2 a4 S) (fun r4 => if r4 = a3 then some a4 else f_Ro_nextStop_10 fu n a1 a2 a3 (a4 + (1 : Int32)) S) else f_Ro_nextStop_10 fu n a1 a2 a3 (a4 + (1 : Int32)) S
def f_Ro_nextStop (fu : Nat) (a1 : Int32) (a2 : Int32) (S : zSt) : Option Int32 := zb1 (f_Ro_fewestBehind fu a1 a2 S) (fun r2 => f_Ro_nextStop_10 fu fu a1 a2 r2 (0 : Int32) S)
set_option maxRecDepth 100000 in
set_option maxHeartbeats 4000000 in
theorem c_Ro_nextStop_10 {p : Program} {l : Launch} {e : Env} {s : State} {m : MethodId} {args : Array Value} {below : List Frame} {meth : Method} {c : Code} {G : zG} (C : zC p s m args meth c G b_Ro_nextStop 5 y_Ro_nextStop.cls) (hret : meth.sig.returnType = (some .int)) {fu : Nat} {r : Int32} : ∀ (n : Nat) (a1 : Int32) (a2 : Int32) (a3 : Int32) (a4 : Int32) (S : zSt) , f_Ro_nextStop_10 fu n a1 a2 a3 a4 S = some r → zJ p l e rm_Ro_nextStop s m args below meth c G true 5 0 0 (zQm below G args s rm_Ro_nextStop true (some (zi r)) S) S 10 [(0, zr (some 60)), (1, zi a1), (2, zi a2), (3, zi a3), (4, zi a4)] [] := by
  intro n
  induction n with
  | zero =>
    intro a1 a2 a3 a4 S h
    cases h
  | succ n ih =>
    intro a1 a2 a3 a4 S h
    rw [f_Ro_nextStop_10] at h
    refine z_iload C 4 rfl d_Ro_nextStop_10 ?_
    refine z_aload_n C 0 rfl d_Ro_nextStop_12 rfl ?_
    refine z_getI C 7 (by decide) 1 (by decide) rfl zo_60 zk_60 zfl_7_15 d_Ro_nextStop_13 ?_
    rcases zite h with ⟨c1, h⟩ | ⟨c1, h⟩
    · refine z_icmp_get C 49 c1 d_Ro_nextStop_16 (by decide) ?_
      refine z_iconst C (-1 : Int32) (by decide) d_Ro_nextStop_49 ?_
      cases h
      exact z_iret C .int hret rfl ⟨Nat.zero_le _, Nat.zero_le _⟩ d_Ro_nextStop_50
    · refine z_icmp_gef C 49 c1 d_Ro_nextStop_16 (by decide) ?_
      refine z_iload_n C 1 rfl d_Ro_nextStop_19 rfl ?_
      refine z_iload C 4 rfl d_Ro_nextStop_20 ?_
      refine z_ishr C d_Ro_nextStop_22 ?_
      refine z_iconst C (1 : Int32) (by decide) d_Ro_nextStop_23 ?_
      refine z_iand C d_Ro_nextStop_24 ?_
      rcases zite h with ⟨c2, h⟩ | ⟨c2, h⟩
      · refine z_if_nef C 43 c2 d_Ro_nextStop_25 (by decide) ?_
        refine z_aload_n C 0 rfl d_Ro_nextStop_28 rfl ?_
        refine z_iload_n C 1 rfl d_Ro_nextStop_29 rfl ?_
        refine z_iload_n C 2 rfl d_Ro_nextStop_30 rfl ?_
        refine z_iload C 4 rfl d_Ro_nextStop_31 ?_
        obtain ⟨r4, h3, h⟩ := zb1_some h
        refine z_cV C 7 (by decide) (m_Ro_daysBy l h3) mf_Ro_daysBy lk_7_45 in_Ro_daysBy se_Ro_daysBy rfl zo_60 zk_60 ⟨rfl, rfl⟩ ⟨by decide, by decide⟩ ⟨Nat.zero_le _, Nat.zero_le _⟩ rfl _ [] rfl (Nat.le_of_ble_eq_true rfl) d_Ro_nextStop_33 ?_
        refine z_iload_n C 3 rfl d_Ro_nextStop_36 rfl ?_
        rcases zite h with ⟨c5, h⟩ | ⟨c5, h⟩
        · refine z_icmp_nef C 43 c5 d_Ro_nextStop_37 (by decide) ?_
          refine z_iload C 4 rfl d_Ro_nextStop_40 ?_
          cases h
          exact z_iret C .int hret rfl ⟨Nat.zero_le _, Nat.zero_le _⟩ d_Ro_nextStop_42
        · refine z_icmp_net C 43 c5 d_Ro_nextStop_37 (by decide) ?_
          refine z_iinc C 4 (a4 + (1 : Int32)) [(4, zi (a4 + (1 : Int32))), (0, zr (some 60)), (1, zi a1), (2, zi a2), (3, zi a3)] rfl d_Ro_nextStop_43 (by first | rfl | decide) (by decide) rfl ?_
          refine z_goto C 10 d_Ro_nextStop_46 (by decide) ?_
          refine zq_lsub [1, 2, 3, 4, 0] [(0, zr (some 60)), (1, zi a1), (2, zi a2), (3, zi a3), (4, zi (a4 + (1 : Int32)))] rfl ?_
          exact ih a1 a2 a3 (a4 + (1 : Int32)) S h
      · refine z_if_net C 43 c2 d_Ro_nextStop_25 (by decide) ?_
        refine z_iinc C 4 (a4 + (1 : Int32)) [(4, zi (a4 + (1 : Int32))), (0, zr (some 60)), (1, zi a1), (2, zi a2), (3, zi a3)] rfl d_Ro_nextStop_43 (by first | rfl | decide) (by decide) rfl ?_
        refine z_goto C 10 d_Ro_nextStop_46 (by decide) ?_
        refine zq_lsub [1, 2, 3, 4, 0] [(0, zr (some 60)), (1, zi a1), (2, zi a2), (3, zi a3), (4, zi (a4 + (1 : Int32)))] rfl ?_
        exact ih a1 a2 a3 (a4 + (1 : Int32)) S h
set_option maxRecDepth 100000 in
set_option maxHeartbeats 4000000 in
theorem m_Ro_nextStop (l : Launch) {fu : Nat} {a1 : Int32} {a2 : Int32} {S : zSt} {r : Int32} (h : f_Ro_nextStop fu a1 a2 S = some r) : zPM l y_Ro_nextStop b_Ro_nextStop 5 (some .int) rm_Ro_nextStop true true [zr (some 60), zi a1, zi a2] S (some (zi r)) S := by
  refine zPM_of (by decide) (Nat.le_of_ble_eq_true rfl) (fun p e s m args below meth c G C hret hname => ?_)
  unfold f_Ro_nextStop at h
  refine (?_ : zJ p l e rm_Ro_nextStop s m args below meth c G true 5 0 0 (zQm below G args s rm_Ro_nextStop true (some (zi r)) S) S 0 [(0, zr (some 60)), (1, zi a1), (2, zi a2)] [])
  refine z_aload_n C 0 rfl d_Ro_nextStop_0 rfl ?_
  refine z_iload_n C 1 rfl d_Ro_nextStop_1 rfl ?_
  refine z_iload_n C 2 rfl d_Ro_nextStop_2 rfl ?_
  obtain ⟨r2, h1, h⟩ := zb1_some h
  refine z_cV C 7 (by decide) (m_Ro_fewestBehind l h1) mf_Ro_fewestBehind lk_7_37 in_Ro_fewestBehind se_Ro_fewestBehind rfl zo_60 zk_60 ⟨rfl, rfl⟩ ⟨by decide, by decide⟩ ⟨Nat.zero_le _, Nat.zero_le _⟩ rfl _ [] rfl (Nat.le_of_ble_eq_true rfl) d_Ro_nextStop_3 ?_
  refine z_istore_n C [(3, zi r2), (0, zr (some 60)), (1, zi a1), (2, zi a2)] d_Ro_nextStop_6 rfl (by decide) rfl ?_
  refine z_iconst C (0 : Int32) (by decide) d_Ro_nextStop_7 ?_
  refine z_istore C [(4, zi (0 : Int32)), (3, zi r2), (0, zr (some 60)), (1, zi a1), (2, zi a2)] d_Ro_nextStop_8 (by decide) rfl ?_
  refine zq_lsub [2, 3, 4, 1, 0] [(0, zr (some 60)), (1, zi a1), (2, zi a2), (3, zi r2), (4, zi (0 : Int32))] rfl ?_
  exact c_Ro_nextStop_10 C hret fu  a1 a2 r2 (0 : Int32) S h
def f_Ro_stop_61 (fu : Nat) (a3 : Int32) (S : zSt) : Option Int32 := if a3 = (-1 : Int32) then some (-1 : Int32) else zgd (0 ≤ a3 ∧ a3.toNatClampNeg < 8) (some (zI S 61 a3.toNatClampNeg))
def f_Ro_stop_29 (fu : Nat) : Nat → Int32 → Int32 → Int32 → Int32 → zSt → Option Int32
  | 0, _, _, _, _, _ => none
  | n + 1, a1, a2, a3, a4, S => if a1 < a4 then f_Ro_stop_61 fu a3 S else zb1 (f_Ro_nextStop fu a2 a3 S) (fun r3 => if r3 = (-1 : Int32) then some (-1 : Int32) else f_Ro_stop_29 fu n a1 (a2 ||| ((1 : Int32) <<< (r3 &&& 31))) r3 (a4 + (1 : Int32)) S)
def f_Ro_stop (fu : Nat) (a1 : Int32) (S : zSt) : Option Int32 := if a1 < 0 then some (-1 : Int32) else if (zI S 60 1) ≤ a1 then some (-1 : Int32) else zb1 (f_Ro_days fu S) (fun r4 => if r4 = (-1 : Int32) then some (-1 : Int32) else f_Ro_stop_29 fu fu a1 (0 : Int32) (-1 : Int32) (0 : Int32) S)
set_option maxRecDepth 100000 in
set_option maxHeartbeats 4000000 in
theorem c_Ro_stop_61 {p : Program} {l : Launch} {e : Env} {s : State} {m : MethodId} {args : Array Value} {below : List Frame} {meth : Method} {c : Code} {G : zG} (C : zC p s m args meth c G b_Ro_stop 5 y_Ro_stop.cls) (hret : meth.sig.returnType = (some .int)) {fu : Nat} {r : Int32} : ∀ (a3 : Int32) (S : zSt) , f_Ro_stop_61 fu a3 S = some r → zJ p l e rm_Ro_stop s m args below meth c G true 5 0 0 (zQm below G args s rm_Ro_stop true (some (zi r)) S) S 61 [(0, zr (some 60)), (3, zi a3)] [] := by
  intro a3 S h
  unfold f_Ro_stop_61 at h
  refine z_iload_n C 1 rfl d_Ro_stop_61 rfl ?_
  refine z_iconst C (-1 : Int32) (by decide) d_Ro_stop_62 ?_
  rcases zite h with ⟨c1, h⟩ | ⟨c1, h⟩
  · refine z_icmp_nef C 70 c1 d_Ro_stop_63 (by decide) ?_
    refine z_iconst C (-1 : Int32) (by decide) d_Ro_stop_66 ?_
    refine z_goto C 76 d_Ro_stop_67 (by decide) ?_
    cases h
    exact z_iret C .int hret rfl ⟨Nat.zero_le _, Nat.zero_le _⟩ d_Ro_stop_76
  · refine z_icmp_net C 70 c1 d_Ro_stop_63 (by decide) ?_
    refine z_aload_n C 0 rfl d_Ro_stop_70 rfl ?_
    refine z_getF2 C 7 (by decide) 0 (by decide) rfl 1 8 rfl (61) rfl zp_60 zk_60 zfl_7_11 d_Ro_stop_71 ?_
    refine z_iload_n C 1 rfl d_Ro_stop_74 rfl ?_
    refine z_fact (fun hSR => ?_)
    obtain ⟨g2, h⟩ := zgd_some h
    refine z_ialoadS C zo_61 zk_61 (za_61 hSR) g2 d_Ro_stop_75 ?_
    cases h
    exact z_iret C .int hret rfl ⟨Nat.zero_le _, Nat.zero_le _⟩ d_Ro_stop_76
set_option maxRecDepth 100000 in
set_option maxHeartbeats 4000000 in
theorem c_Ro_stop_29 {p : Program} {l : Launch} {e : Env} {s : State} {m : MethodId} {args : Array Value} {below : List Frame} {meth : Method} {c : Code} {G : zG} (C : zC p s m args meth c G b_Ro_stop 5 y_Ro_stop.cls) (hret : meth.sig.returnType = (some .int)) {fu : Nat} {r : Int32} : ∀ (n : Nat) (a1 : Int32) (a2 : Int32) (a3 : Int32) (a4 : Int32) (S : zSt) , f_Ro_stop_29 fu n a1 a2 a3 a4 S = some r → zJ p l e rm_Ro_stop s m args below meth c G true 5 0 0 (zQm below G args s rm_Ro_stop true (some (zi r)) S) S 29 [(0, zr (some 60)), (1, zi a1), (2, zi a2), (3, zi a3), (4, zi a4)] [] := by
  intro n
  induction n with
  | zero =>
    intro a1 a2 a3 a4 S h
    cases h
  | succ n ih =>
    intro a1 a2 a3 a4 S h
    rw [f_Ro_stop_29] at h
    refine z_iload C 4 rfl d_Ro_stop_29 ?_
    refine z_iload_n C 1 rfl d_Ro_stop_31 rfl ?_
    rcases zite h with ⟨c1, h⟩ | ⟨c1, h⟩
    · refine z_icmp_gtt C 61 c1 d_Ro_stop_32 (by decide) ?_
      refine zq_lsub [0, 3] [(0, zr (some 60)), (3, zi a3)] rfl ?_
      exact c_Ro_stop_61 C hret  a3 S h
    · refine z_icmp_gtf C 61 c1 d_Ro_stop_32 (by decide) ?_
      refine z_aload_n C 0 rfl d_Ro_stop_35 rfl ?_
      refine z_iload_n C 2 rfl d_Ro_stop_36 rfl ?_
      refine z_iload_n C 3 rfl d_Ro_stop_37 rfl ?_
      obtain ⟨r3, h2, h⟩ := zb1_some h
      refine z_cV C 7 (by decide) (m_Ro_nextStop l h2) mf_Ro_nextStop lk_7_53 in_Ro_nextStop se_Ro_nextStop rfl zo_60 zk_60 ⟨rfl, rfl⟩ ⟨by decide, by decide⟩ ⟨Nat.zero_le _, Nat.zero_le _⟩ rfl _ [] rfl (Nat.le_of_ble_eq_true rfl) d_Ro_stop_38 ?_
      refine z_istore_n C [(3, zi r3), (0, zr (some 60)), (1, zi a1), (2, zi a2), (4, zi a4)] d_Ro_stop_41 rfl (by decide) rfl ?_
      refine z_iload_n C 0 rfl d_Ro_stop_42 rfl ?_
      refine z_iconst C (-1 : Int32) (by decide) d_Ro_stop_43 ?_
      rcases zite h with ⟨c4, h⟩ | ⟨c4, h⟩
      · refine z_icmp_nef C 49 c4 d_Ro_stop_44 (by decide) ?_
        refine z_iconst C (-1 : Int32) (by decide) d_Ro_stop_47 ?_
        cases h
        exact z_iret C .int hret rfl ⟨Nat.zero_le _, Nat.zero_le _⟩ d_Ro_stop_48
      · refine z_icmp_net C 49 c4 d_Ro_stop_44 (by decide) ?_
        refine z_iload_n C 3 rfl d_Ro_stop_49 rfl ?_
        refine z_iconst C (1 : Int32) (by decide) d_Ro_stop_50 ?_
        refine z_iload_n C 0 rfl d_Ro_stop_51 rfl ?_
        refine z_ishl C d_Ro_stop_52 ?_
        refine z_ior C d_Ro_stop_53 ?_
        refine z_istore_n C [(2, zi (a2 ||| ((1 : Int32) <<< (r3 &&& 31)))), (3, zi r3), (0, zr (some 60)), (1, zi a1), (4, zi a4)] d_Ro_stop_54 rfl (by decide) rfl ?_
        refine z_iinc C 4 (a4 + (1 : Int32)) [(4, zi (a4 + (1 : Int32))), (2, zi (a2 ||| ((1 : Int32) <<< (r3 &&& 31)))), (3, zi r3), (0, zr (some 60)), (1, zi a1)] rfl d_Ro_stop_55 (by first | rfl | decide) (by decide) rfl ?_
        refine z_goto C 29 d_Ro_stop_58 (by decide) ?_
        refine zq_lsub [3, 4, 1, 2, 0] [(0, zr (some 60)), (1, zi a1), (2, zi (a2 ||| ((1 : Int32) <<< (r3 &&& 31)))), (3, zi r3), (4, zi (a4 + (1 : Int32)))] rfl ?_
        exact ih a1 (a2 ||| ((1 : Int32) <<< (r3 &&& 31))) r3 (a4 + (1 : Int32)) S h
set_option maxRecDepth 100000 in
set_option maxHeartbeats 4000000 in
theorem m_Ro_stop (l : Launch) {fu : Nat} {a1 : Int32} {S : zSt} {r : Int32} (h : f_Ro_stop fu a1 S = some r) : zPM l y_Ro_stop b_Ro_stop 5 (some .int) rm_Ro_stop true true [zr (some 60), zi a1] S (some (zi r)) S := by
  refine zPM_of (by decide) (Nat.le_of_ble_eq_true rfl) (fun p e s m args below meth c G C hret hname => ?_)
  unfold f_Ro_stop at h
  refine (?_ : zJ p l e rm_Ro_stop s m args below meth c G true 5 0 0 (zQm below G args s rm_Ro_stop true (some (zi r)) S) S 0 [(0, zr (some 60)), (1, zi a1)] [])
  refine z_iload_n C 1 rfl d_Ro_stop_0 rfl ?_
  rcases zite h with ⟨c1, h⟩ | ⟨c1, h⟩
  · refine z_if_ltt C 20 c1 d_Ro_stop_1 (by decide) ?_
    refine z_iconst C (-1 : Int32) (by decide) d_Ro_stop_20 ?_
    cases h
    exact z_iret C .int hret rfl ⟨Nat.zero_le _, Nat.zero_le _⟩ d_Ro_stop_21
  · refine z_if_ltf C 20 c1 d_Ro_stop_1 (by decide) ?_
    refine z_iload_n C 1 rfl d_Ro_stop_4 rfl ?_
    refine z_aload_n C 0 rfl d_Ro_stop_5 rfl ?_
    refine z_getI C 7 (by decide) 1 (by decide) rfl zo_60 zk_60 zfl_7_15 d_Ro_stop_6 ?_
    rcases zite h with ⟨c2, h⟩ | ⟨c2, h⟩
    · refine z_icmp_get C 20 c2 d_Ro_stop_9 (by decide) ?_
      refine z_iconst C (-1 : Int32) (by decide) d_Ro_stop_20 ?_
      cases h
      exact z_iret C .int hret rfl ⟨Nat.zero_le _, Nat.zero_le _⟩ d_Ro_stop_21
    · refine z_icmp_gef C 20 c2 d_Ro_stop_9 (by decide) ?_
      refine z_aload_n C 0 rfl d_Ro_stop_12 rfl ?_
      obtain ⟨r4, h3, h⟩ := zb1_some h
      refine z_cV C 7 (by decide) (m_Ro_days l h3) mf_Ro_days lk_7_49 in_Ro_days se_Ro_days rfl zo_60 zk_60 ⟨rfl, rfl⟩ ⟨by decide, by decide⟩ ⟨Nat.zero_le _, Nat.zero_le _⟩ rfl _ [] rfl (Nat.le_of_ble_eq_true rfl) d_Ro_stop_13 ?_
      refine z_iconst C (-1 : Int32) (by decide) d_Ro_stop_16 ?_
      rcases zite h with ⟨c5, h⟩ | ⟨c5, h⟩
      · refine z_icmp_nef C 22 c5 d_Ro_stop_17 (by decide) ?_
        refine z_iconst C (-1 : Int32) (by decide) d_Ro_stop_20 ?_
        cases h
        exact z_iret C .int hret rfl ⟨Nat.zero_le _, Nat.zero_le _⟩ d_Ro_stop_21
      · refine z_icmp_net C 22 c5 d_Ro_stop_17 (by decide) ?_
        refine z_iconst C (0 : Int32) (by decide) d_Ro_stop_22 ?_
        refine z_istore_n C [(2, zi (0 : Int32)), (0, zr (some 60)), (1, zi a1)] d_Ro_stop_23 rfl (by decide) rfl ?_
        refine z_iconst C (-1 : Int32) (by decide) d_Ro_stop_24 ?_
        refine z_istore_n C [(3, zi (-1 : Int32)), (2, zi (0 : Int32)), (0, zr (some 60)), (1, zi a1)] d_Ro_stop_25 rfl (by decide) rfl ?_
        refine z_iconst C (0 : Int32) (by decide) d_Ro_stop_26 ?_
        refine z_istore C [(4, zi (0 : Int32)), (3, zi (-1 : Int32)), (2, zi (0 : Int32)), (0, zr (some 60)), (1, zi a1)] d_Ro_stop_27 (by decide) rfl ?_
        refine zq_lsub [3, 4, 2, 1, 0] [(0, zr (some 60)), (1, zi a1), (2, zi (0 : Int32)), (3, zi (-1 : Int32)), (4, zi (0 : Int32))] rfl ?_
        exact c_Ro_stop_29 C hret fu  a1 (0 : Int32) (-1 : Int32) (0 : Int32) S h
def f_E_round (fu : Nat) (a1 : Int32) (a2 : Int32) (S : zSt) : Option (Int32 × zSt) := if (zI S 1 0) = 0 then some ((-1 : Int32), S) else if a2 < (-1 : Int32) then some ((-1 : Int32), S) else zb1 (f_Ps_hasAll 1 a1 S) (fun r4 => if r4 = 0 then some ((-1 : Int32), S) else zb1 (f_E_fillPaper fu S) (fun S7 => zb1 (f_Ro_plan fu (zI S7 1 5) a1 S7) (fun S9 => if a2 = (-1 : Int32) then zb1 (f_Ro_days fu S9) (fun r14 => some (r14, S9)) else zb1 (f_Ro_stop fu a2 S9) (fun r12 => some (r12, S9)))))
set_option maxRecDepth 100000 in
set_option maxHeartbeats 4000000 in
theorem m_E_round (l : Launch) {fu : Nat} {a1 : Int32} {a2 : Int32} {S : zSt} {r : Int32} {S1 : zSt} (h : f_E_round fu a1 a2 S = some (r, S1)) : zPM l y_E_round b_E_round 3 (some .int) rm_E_round true true [zr (some 0), zi a1, zi a2] S (some (zi r)) S1 := by
  refine zPM_of (by decide) (Nat.le_of_ble_eq_true rfl) (fun p e s m args below meth c G C hret hname => ?_)
  unfold f_E_round at h
  refine (?_ : zJ p l e rm_E_round s m args below meth c G true 3 0 0 (zQm below G args s rm_E_round true (some (zi r)) S1) S 0 [(0, zr (some 0)), (1, zi a1), (2, zi a2)] [])
  refine z_aload_n C 0 rfl d_E_round_0 rfl ?_
  refine z_getF2 C 0 (by decide) 0 (by decide) rfl 1 0 rfl (1) rfl zp_0 zk_0 zfl_0_12 d_E_round_1 ?_
  refine z_getI C 5 (by decide) 0 (by decide) rfl zo_1 zk_1 zfl_0_113 d_E_round_4 ?_
  rcases zite h with ⟨c1, h⟩ | ⟨c1, h⟩
  · refine z_if_eqt C 26 c1 d_E_round_7 (by decide) ?_
    refine z_iconst C (-1 : Int32) (by decide) d_E_round_26 ?_
    cases h
    exact z_iret C .int hret rfl ⟨Nat.zero_le _, Nat.zero_le _⟩ d_E_round_27
  · refine z_if_eqf C 26 c1 d_E_round_7 (by decide) ?_
    refine z_iload_n C 2 rfl d_E_round_10 rfl ?_
    refine z_iconst C (-1 : Int32) (by decide) d_E_round_11 ?_
    rcases zite h with ⟨c2, h⟩ | ⟨c2, h⟩
    · refine z_icmp_ltt C 26 c2 d_E_round_12 (by decide) ?_
      refine z_iconst C (-1 : Int32) (by decide) d_E_round_26 ?_
      cases h
      exact z_iret C .int hret rfl ⟨Nat.zero_le _, Nat.zero_le _⟩ d_E_round_27
    · refine z_icmp_ltf C 26 c2 d_E_round_12 (by decide) ?_
      refine z_aload_n C 0 rfl d_E_round_15 rfl ?_
      refine z_getF2 C 0 (by decide) 0 (by decide) rfl 1 0 rfl (1) rfl zp_0 zk_0 zfl_0_12 d_E_round_16 ?_
      refine z_iload_n C 1 rfl d_E_round_19 rfl ?_
      obtain ⟨r4, h3, h⟩ := zb1_some h
      refine z_cV C 5 (by decide) (m_Ps_hasAll l zk_1 (Nat.le_of_ble_eq_true rfl) h3) mf_Ps_hasAll lk_0_245 in_Ps_hasAll se_Ps_hasAll rfl zo_1 zk_1 ⟨rfl, rfl⟩ ⟨by decide, by decide⟩ ⟨Nat.zero_le _, Nat.zero_le _⟩ rfl _ [] rfl (Nat.le_of_ble_eq_true rfl) d_E_round_20 ?_
      rcases zite h with ⟨c5, h⟩ | ⟨c5, h⟩
      · refine z_if_nef C 28 c5 d_E_round_23 (by decide) ?_
        refine z_iconst C (-1 : Int32) (by decide) d_E_round_26 ?_
        cases h
        exact z_iret C .int hret rfl ⟨Nat.zero_le _, Nat.zero_le _⟩ d_E_round_27
      · refine z_if_net C 28 c5 d_E_round_23 (by decide) ?_
        refine z_aload_n C 0 rfl d_E_round_28 rfl ?_
        obtain ⟨S7, h6, h⟩ := zb1_some h
        refine z_cV C 0 (by decide) (m_E_fillPaper l h6) mf_E_fillPaper lk_0_226 in_E_fillPaper se_E_fillPaper rfl zo_0 zk_0 ⟨rfl, rfl⟩ ⟨by decide, by decide⟩ ⟨Nat.zero_le _, Nat.zero_le _⟩ rfl _ [] rfl (Nat.le_of_ble_eq_true rfl) d_E_round_29 ?_
        refine z_aload_n C 0 rfl d_E_round_32 rfl ?_
        refine z_getF2 C 0 (by decide) 10 (by decide) rfl 60 0 rfl (60) rfl zp_0 zk_0 zfl_0_67 d_E_round_33 ?_
        refine z_aload_n C 0 rfl d_E_round_36 rfl ?_
        refine z_getF2 C 0 (by decide) 9 (by decide) rfl 55 0 rfl (55) rfl zp_0 zk_0 zfl_0_60 d_E_round_37 ?_
        refine z_aload_n C 0 rfl d_E_round_40 rfl ?_
        refine z_getF2 C 0 (by decide) 0 (by decide) rfl 1 0 rfl (1) rfl zp_0 zk_0 zfl_0_12 d_E_round_41 ?_
        refine z_getI C 5 (by decide) 5 (by decide) rfl zo_1 zk_1 zfl_0_248 d_E_round_44 ?_
        refine z_iload_n C 1 rfl d_E_round_47 rfl ?_
        obtain ⟨S9, h8, h⟩ := zb1_some h
        refine z_cV C 7 (by decide) (m_Ro_plan l h8) mf_Ro_plan lk_0_251 in_Ro_plan se_Ro_plan rfl zo_60 zk_60 ⟨rfl, rfl⟩ ⟨by decide, by decide⟩ ⟨Nat.zero_le _, Nat.zero_le _⟩ rfl _ [] rfl (Nat.le_of_ble_eq_true rfl) d_E_round_48 ?_
        refine z_iload_n C 2 rfl d_E_round_51 rfl ?_
        refine z_iconst C (-1 : Int32) (by decide) d_E_round_52 ?_
        rcases zite h with ⟨c10, h⟩ | ⟨c10, h⟩
        · refine z_icmp_nef C 66 c10 d_E_round_53 (by decide) ?_
          refine z_aload_n C 0 rfl d_E_round_56 rfl ?_
          refine z_getF2 C 0 (by decide) 10 (by decide) rfl 60 0 rfl (60) rfl zp_0 zk_0 zfl_0_67 d_E_round_57 ?_
          obtain ⟨r14, h13, h⟩ := zb1_some h
          refine z_cV C 7 (by decide) (m_Ro_days l h13) mf_Ro_days lk_0_255 in_Ro_days se_Ro_days rfl zo_60 zk_60 ⟨rfl, rfl⟩ ⟨by decide, by decide⟩ ⟨Nat.zero_le _, Nat.zero_le _⟩ rfl _ [] rfl (Nat.le_of_ble_eq_true rfl) d_E_round_60 ?_
          refine z_goto C 74 d_E_round_63 (by decide) ?_
          cases h
          exact z_iret C .int hret rfl ⟨Nat.zero_le _, Nat.zero_le _⟩ d_E_round_74
        · refine z_icmp_net C 66 c10 d_E_round_53 (by decide) ?_
          refine z_aload_n C 0 rfl d_E_round_66 rfl ?_
          refine z_getF2 C 0 (by decide) 10 (by decide) rfl 60 0 rfl (60) rfl zp_0 zk_0 zfl_0_67 d_E_round_67 ?_
          refine z_iload_n C 2 rfl d_E_round_70 rfl ?_
          obtain ⟨r12, h11, h⟩ := zb1_some h
          refine z_cV C 7 (by decide) (m_Ro_stop l h11) mf_Ro_stop lk_0_258 in_Ro_stop se_Ro_stop rfl zo_60 zk_60 ⟨rfl, rfl⟩ ⟨by decide, by decide⟩ ⟨Nat.zero_le _, Nat.zero_le _⟩ rfl _ [] rfl (Nat.le_of_ble_eq_true rfl) d_E_round_71 ?_
          cases h
          exact z_iret C .int hret rfl ⟨Nat.zero_le _, Nat.zero_le _⟩ d_E_round_74
def f_Pa_fillCuts_67 (fu : Nat) (a1 : Nat) (k13 : Option Nat → Int32 → zSt → Option zSt) (k25 : Option Nat → Int32 → Int32 → zSt → Option zSt) (a3 : Option Nat) (a4 : Int32) (a5 : Int32) (k0 : Int32) (S : zSt) : Option zSt := zb1 (f_Pa_pair a4 a5) (fun r2 => if k0 = 0 then zb2 (f_As_told fu a1 a3 (1 : Int32) a4 a5 S) (fun r5 S6 => zgd (0 ≤ r2 ∧ r2.toNatClampNeg < 81) (k25 a3 a4 (a5 + (1 : Int32)) (zwI S6 59 r2.toNatClampNeg r5))) else zgd (0 ≤ r2 ∧ r2.toNatClampNeg < 81) (k25 a3 a4 (a5 + (1 : Int32)) (zwI S 59 r2.toNatClampNeg (0 : Int32))))
def f_Pa_fillCuts_25 (fu : Nat) (a1 : Nat) (k13 : Option Nat → Int32 → zSt → Option zSt) : Nat → Option Nat → Int32 → Int32 → zSt → Option zSt
  | 0, _, _, _, _ => none
  | n + 1, a3, a4, a5, S => if (zI S 55 0) ≤ a5 then k13 a3 (a4 + (1 : Int32)) S else zb1 (f_Ps_pairOf a1 a4 a5 S) (fun r3 => zb1 (f_Ps_farOf a1 r3 S) (fun r5 => if r5 = 0 then f_Pa_fillCuts_67 fu a1 k13 (f_Pa_fillCuts_25 fu a1 k13 n) a3 a4 a5 (1 : Int32) S else zb1 (f_Ps_isShut a1 r3 S) (fun r8 => if r8 = 0 then f_Pa_fillCuts_67 fu a1 k13 (f_Pa_fillCuts_25 fu a1 k13 n) a3 a4 a5 (0 : Int32) S else f_Pa_fillCuts_67 fu a1 k13 (f_Pa_fillCuts_25 fu a1 k13 n) a3 a4 a5 (1 : Int32) S)))
def f_Pa_fillCuts_13 (fu : Nat) (a1 : Nat) : Nat → Option Nat → Int32 → zSt → Option zSt
  | 0, _, _, _ => none
  | n + 1, a3, a4, S => if (zI S 55 0) ≤ a4 then some S else f_Pa_fillCuts_25 fu a1 (f_Pa_fillCuts_13 fu a1 n) fu a3 a4 (0 : Int32) S
def f_Pa_fillCuts (fu : Nat) (a1 : Nat) (S : zSt) : Option zSt := zb1 (f_Pa_take a1 S) (fun S2 => zb1 (f_Ps_lawInForce a1 S2) (fun r4 => f_Pa_fillCuts_13 fu a1 fu r4 (0 : Int32) S2))
set_option maxRecDepth 100000 in
set_option maxHeartbeats 4000000 in
theorem c_Pa_fillCuts_67 {p : Program} {l : Launch} {e : Env} {s : State} {m : MethodId} {args : Array Value} {below : List Frame} {meth : Method} {c : Code} {G : zG} (C : zC p s m args meth c G b_Pa_fillCuts 8 y_Pa_fillCuts.cls) (hret : meth.sig.returnType = none) {fu : Nat} {a1 : Nat} {S1 : zSt} (ha1 : zK a1 = 5) (ga1 : a1 < zN0) {k13 : Option Nat → Int32 → zSt → Option zSt} (hk13 : ∀ (a3 : Option Nat) (a4 : Int32) (S : zSt) , k13 a3 a4 S = some S1 → zJ p l e rm_Pa_fillCuts s m args below meth c G true 8 0 0 (zQm below G args s rm_Pa_fillCuts true none S1) S 13 [(0, zr (some 55)), (1, zr (some a1)), (2, zr (some 52)), (3, zr a3), (4, zi a4)] []) {k25 : Option Nat → Int32 → Int32 → zSt → Option zSt} (hk25 : ∀ (a3 : Option Nat) (a4 : Int32) (a5 : Int32) (S : zSt) , k25 a3 a4 a5 S = some S1 → zJ p l e rm_Pa_fillCuts s m args below meth c G true 8 0 0 (zQm below G args s rm_Pa_fillCuts true none S1) S 25 [(0, zr (some 55)), (1, zr (some a1)), (2, zr (some 52)), (3, zr a3), (4, zi a4), (5, zi a5)] []) : ∀ (a3 : Option Nat) (a4 : Int32) (a5 : Int32) (k0 : Int32) (S : zSt) , f_Pa_fillCuts_67 fu a1 k13 k25 a3 a4 a5 k0 S = some S1 → zJ p l e rm_Pa_fillCuts s m args below meth c G true 8 0 0 (zQm below G args s rm_Pa_fillCuts true none S1) S 67 [(0, zr (some 55)), (1, zr (some a1)), (2, zr (some 52)), (3, zr a3), (4, zi a4), (5, zi a5)] [zi k0] := by
  intro a3 a4 a5 k0 S h
  unfold f_Pa_fillCuts_67 at h
  refine z_istore C [(7, zi k0), (0, zr (some 55)), (1, zr (some a1)), (2, zr (some 52)), (3, zr a3), (4, zi a4), (5, zi a5)] d_Pa_fillCuts_67 (by decide) rfl ?_
  refine z_aload_n C 1 rfl d_Pa_fillCuts_69 rfl ?_
  refine z_getF2 C 4 (by decide) 4 (by decide) rfl 4 81 rfl (59) rfl zp_55 zk_55 zfl_4_25 d_Pa_fillCuts_70 ?_
  refine z_iload C 5 rfl d_Pa_fillCuts_73 ?_
  refine z_iload C 6 rfl d_Pa_fillCuts_75 ?_
  obtain ⟨r2, h1, h⟩ := zb1_some h
  refine z_cS C (m_Pa_pair l h1) mf_Pa_pair lk_4_50 st_Pa_pair ⟨rfl, rfl⟩ ⟨by decide, by decide⟩ ⟨Nat.zero_le _, Nat.zero_le _⟩ rfl _ [zr (some 59)] rfl (Nat.le_of_ble_eq_true rfl) d_Pa_fillCuts_77 ?_
  refine z_iload C 0 rfl d_Pa_fillCuts_80 ?_
  rcases zite h with ⟨c3, h⟩ | ⟨c3, h⟩
  · refine z_if_eqt C 89 c3 d_Pa_fillCuts_82 (by decide) ?_
    refine z_aload_n C 3 rfl d_Pa_fillCuts_89 rfl ?_
    refine z_aload_n C 2 rfl d_Pa_fillCuts_90 rfl ?_
    refine z_aload_n C 4 rfl d_Pa_fillCuts_91 rfl ?_
    refine z_iconst C (1 : Int32) (by decide) d_Pa_fillCuts_92 ?_
    refine z_iload C 5 rfl d_Pa_fillCuts_93 ?_
    refine z_iload C 6 rfl d_Pa_fillCuts_95 ?_
    obtain ⟨r5, S6, h4, h⟩ := zb2_some h
    refine z_cV C 1 (by decide) (m_As_told l ha1 ga1 h4) mf_As_told lk_4_43 in_As_told se_As_told rfl zo_52 zk_52 ⟨rfl, rfl⟩ ⟨by decide, by decide⟩ ⟨Nat.zero_le _, Nat.zero_le _⟩ rfl _ [zi r2, zr (some 59)] rfl (Nat.le_of_ble_eq_true rfl) d_Pa_fillCuts_97 ?_
    refine z_fact (fun hSR => ?_)
    obtain ⟨g7, h⟩ := zgd_some h
    refine z_iastoreS C zo_59 zk_59 (za_59 hSR) g7 d_Pa_fillCuts_100 ?_
    refine z_iinc C 6 (a5 + (1 : Int32)) [(5, zi (a5 + (1 : Int32))), (7, zi k0), (0, zr (some 55)), (1, zr (some a1)), (2, zr (some 52)), (3, zr a3), (4, zi a4)] rfl d_Pa_fillCuts_101 (by first | rfl | decide) (by decide) rfl ?_
    refine z_goto C 25 d_Pa_fillCuts_104 (by decide) ?_
    refine zq_lsub [2, 3, 4, 5, 6, 0] [(0, zr (some 55)), (1, zr (some a1)), (2, zr (some 52)), (3, zr a3), (4, zi a4), (5, zi (a5 + (1 : Int32)))] rfl ?_
    exact hk25 a3 a4 (a5 + (1 : Int32)) (zwI S6 59 r2.toNatClampNeg r5) h
  · refine z_if_eqf C 89 c3 d_Pa_fillCuts_82 (by decide) ?_
    refine z_iconst C (0 : Int32) (by decide) d_Pa_fillCuts_85 ?_
    refine z_goto C 100 d_Pa_fillCuts_86 (by decide) ?_
    refine z_fact (fun hSR => ?_)
    obtain ⟨g8, h⟩ := zgd_some h
    refine z_iastoreS C zo_59 zk_59 (za_59 hSR) g8 d_Pa_fillCuts_100 ?_
    refine z_iinc C 6 (a5 + (1 : Int32)) [(5, zi (a5 + (1 : Int32))), (7, zi k0), (0, zr (some 55)), (1, zr (some a1)), (2, zr (some 52)), (3, zr a3), (4, zi a4)] rfl d_Pa_fillCuts_101 (by first | rfl | decide) (by decide) rfl ?_
    refine z_goto C 25 d_Pa_fillCuts_104 (by decide) ?_
    refine zq_lsub [2, 3, 4, 5, 6, 0] [(0, zr (some 55)), (1, zr (some a1)), (2, zr (some 52)), (3, zr a3), (4, zi a4), (5, zi (a5 + (1 : Int32)))] rfl ?_
    exact hk25 a3 a4 (a5 + (1 : Int32)) (zwI S 59 r2.toNatClampNeg (0 : Int32)) h
set_option maxRecDepth 100000 in
set_option maxHeartbeats 4000000 in
theorem c_Pa_fillCuts_25 {p : Program} {l : Launch} {e : Env} {s : State} {m : MethodId} {args : Array Value} {below : List Frame} {meth : Method} {c : Code} {G : zG} (C : zC p s m args meth c G b_Pa_fillCuts 8 y_Pa_fillCuts.cls) (hret : meth.sig.returnType = none) {fu : Nat} {a1 : Nat} {S1 : zSt} (ha1 : zK a1 = 5) (ga1 : a1 < zN0) {k13 : Option Nat → Int32 → zSt → Option zSt} (hk13 : ∀ (a3 : Option Nat) (a4 : Int32) (S : zSt) , k13 a3 a4 S = some S1 → zJ p l e rm_Pa_fillCuts s m args below meth c G true 8 0 0 (zQm below G args s rm_Pa_fillCuts true none S1) S 13 [(0, zr (some 55)), (1, zr (some a1)), (2, zr (some 52)), (3, zr a3), (4, zi a4)] []) : ∀ (n : Nat) (a3 : Option Nat) (a4 : Int32) (a5 : Int32) (S : zSt) , f_Pa_fillCuts_25 fu a1 k13 n a3 a4 a5 S = some S1 → zJ p l e rm_Pa_fillCuts s m args below meth c G true 8 0 0 (zQm below G args s rm_Pa_fillCuts true none S1) S 25 [(0, zr (some 55)), (1, zr (some a1)), (2, zr (some 52)), (3, zr a3), (4, zi a4), (5, zi a5)] [] := by
  intro n
  induction n with
  | zero =>
    intro a3 a4 a5 S h
    cases h
  | succ n ih =>
    intro a3 a4 a5 S h
    rw [f_Pa_fillCuts_25] at h
    refine z_iload C 5 rfl d_Pa_fillCuts_25 ?_
    refine z_aload_n C 0 rfl d_Pa_fillCuts_27 rfl ?_
    refine z_getI C 4 (by decide) 0 (by decide) rfl zo_55 zk_55 zfl_4_9 d_Pa_fillCuts_28 ?_
    rcases zite h with ⟨c1, h⟩ | ⟨c1, h⟩
    · refine z_icmp_get C 107 c1 d_Pa_fillCuts_31 (by decide) ?_
      refine z_iinc C 4 (a4 + (1 : Int32)) [(4, zi (a4 + (1 : Int32))), (0, zr (some 55)), (1, zr (some a1)), (2, zr (some 52)), (3, zr a3), (5, zi a5)] rfl d_Pa_fillCuts_107 (by first | rfl | decide) (by decide) rfl ?_
      refine z_goto C 13 d_Pa_fillCuts_110 (by decide) ?_
      refine zq_lsub [1, 2, 3, 4, 0] [(0, zr (some 55)), (1, zr (some a1)), (2, zr (some 52)), (3, zr a3), (4, zi (a4 + (1 : Int32)))] rfl ?_
      exact hk13 a3 (a4 + (1 : Int32)) S h
    · refine z_icmp_gef C 107 c1 d_Pa_fillCuts_31 (by decide) ?_
      refine z_aload_n C 1 rfl d_Pa_fillCuts_34 rfl ?_
      refine z_iload C 4 rfl d_Pa_fillCuts_35 ?_
      refine z_iload C 5 rfl d_Pa_fillCuts_37 ?_
      obtain ⟨r3, h2, h⟩ := zb1_some h
      refine z_cV C 5 (by decide) (m_Ps_pairOf l ha1 ga1 h2) mf_Ps_pairOf lk_4_35 in_Ps_pairOf se_Ps_pairOf rfl (Or.inl ⟨rfl, ga1⟩) ha1 ⟨rfl, rfl⟩ ⟨by decide, by decide⟩ ⟨Nat.zero_le _, Nat.zero_le _⟩ rfl _ [] rfl (Nat.le_of_ble_eq_true rfl) d_Pa_fillCuts_39 ?_
      refine z_istore C [(6, zi r3), (0, zr (some 55)), (1, zr (some a1)), (2, zr (some 52)), (3, zr a3), (4, zi a4), (5, zi a5)] d_Pa_fillCuts_42 (by decide) rfl ?_
      refine z_aload_n C 2 rfl d_Pa_fillCuts_44 rfl ?_
      refine z_iload C 0 rfl d_Pa_fillCuts_45 ?_
      obtain ⟨r5, h4, h⟩ := zb1_some h
      refine z_cV C 5 (by decide) (m_Ps_farOf l ha1 ga1 h4) mf_Ps_farOf lk_4_39 in_Ps_farOf se_Ps_farOf rfl (Or.inl ⟨rfl, ga1⟩) ha1 ⟨rfl, rfl⟩ ⟨by decide, by decide⟩ ⟨Nat.zero_le _, Nat.zero_le _⟩ rfl _ [] rfl (Nat.le_of_ble_eq_true rfl) d_Pa_fillCuts_47 ?_
      rcases zite h with ⟨c6, h⟩ | ⟨c6, h⟩
      · refine z_if_eqt C 62 c6 d_Pa_fillCuts_50 (by decide) ?_
        refine z_iconst C (1 : Int32) (by decide) d_Pa_fillCuts_62 ?_
        refine z_goto C 67 d_Pa_fillCuts_63 (by decide) ?_
        refine zq_lsub [1, 2, 3, 4, 5, 6] [(0, zr (some 55)), (1, zr (some a1)), (2, zr (some 52)), (3, zr a3), (4, zi a4), (5, zi a5)] rfl ?_
        exact c_Pa_fillCuts_67 C hret ha1 ga1 hk13 (fun z0 z1 z2 zS zh => ih z0 z1 z2 zS zh)  a3 a4 a5 (1 : Int32) S h
      · refine z_if_eqf C 62 c6 d_Pa_fillCuts_50 (by decide) ?_
        refine z_aload_n C 2 rfl d_Pa_fillCuts_53 rfl ?_
        refine z_iload C 0 rfl d_Pa_fillCuts_54 ?_
        obtain ⟨r8, h7, h⟩ := zb1_some h
        refine z_cV C 5 (by decide) (m_Ps_isShut l ha1 ga1 h7) mf_Ps_isShut lk_4_53 in_Ps_isShut se_Ps_isShut rfl (Or.inl ⟨rfl, ga1⟩) ha1 ⟨rfl, rfl⟩ ⟨by decide, by decide⟩ ⟨Nat.zero_le _, Nat.zero_le _⟩ rfl _ [] rfl (Nat.le_of_ble_eq_true rfl) d_Pa_fillCuts_56 ?_
        rcases zite h with ⟨c9, h⟩ | ⟨c9, h⟩
        · refine z_if_eqt C 66 c9 d_Pa_fillCuts_59 (by decide) ?_
          refine z_iconst C (0 : Int32) (by decide) d_Pa_fillCuts_66 ?_
          refine zq_lsub [1, 2, 3, 4, 5, 6] [(0, zr (some 55)), (1, zr (some a1)), (2, zr (some 52)), (3, zr a3), (4, zi a4), (5, zi a5)] rfl ?_
          exact c_Pa_fillCuts_67 C hret ha1 ga1 hk13 (fun z0 z1 z2 zS zh => ih z0 z1 z2 zS zh)  a3 a4 a5 (0 : Int32) S h
        · refine z_if_eqf C 66 c9 d_Pa_fillCuts_59 (by decide) ?_
          refine z_iconst C (1 : Int32) (by decide) d_Pa_fillCuts_62 ?_
          refine z_goto C 67 d_Pa_fillCuts_63 (by decide) ?_
          refine zq_lsub [1, 2, 3, 4, 5, 6] [(0, zr (some 55)), (1, zr (some a1)), (2, zr (some 52)), (3, zr a3), (4, zi a4), (5, zi a5)] rfl ?_
          exact c_Pa_fillCuts_67 C hret ha1 ga1 hk13 (fun z0 z1 z2 zS zh => ih z0 z1 z2 zS zh)  a3 a4 a5 (1 : Int32) S h
set_option maxRecDepth 100000 in
set_option maxHeartbeats 4000000 in
theorem c_Pa_fillCuts_13 {p : Program} {l : Launch} {e : Env} {s : State} {m : MethodId} {args : Array Value} {below : List Frame} {meth : Method} {c : Code} {G : zG} (C : zC p s m args meth c G b_Pa_fillCuts 8 y_Pa_fillCuts.cls) (hret : meth.sig.returnType = none) {fu : Nat} {a1 : Nat} {S1 : zSt} (ha1 : zK a1 = 5) (ga1 : a1 < zN0) : ∀ (n : Nat) (a3 : Option Nat) (a4 : Int32) (S : zSt) , f_Pa_fillCuts_13 fu a1 n a3 a4 S = some S1 → zJ p l e rm_Pa_fillCuts s m args below meth c G true 8 0 0 (zQm below G args s rm_Pa_fillCuts true none S1) S 13 [(0, zr (some 55)), (1, zr (some a1)), (2, zr (some 52)), (3, zr a3), (4, zi a4)] [] := by
  intro n
  induction n with
  | zero =>
    intro a3 a4 S h
    cases h
  | succ n ih =>
    intro a3 a4 S h
    rw [f_Pa_fillCuts_13] at h
    refine z_iload C 4 rfl d_Pa_fillCuts_13 ?_
    refine z_aload_n C 0 rfl d_Pa_fillCuts_15 rfl ?_
    refine z_getI C 4 (by decide) 0 (by decide) rfl zo_55 zk_55 zfl_4_9 d_Pa_fillCuts_16 ?_
    rcases zite h with ⟨c1, h⟩ | ⟨c1, h⟩
    · refine z_icmp_get C 113 c1 d_Pa_fillCuts_19 (by decide) ?_
      cases h
      exact z_vret C hret ⟨Nat.zero_le _, Nat.zero_le _⟩ d_Pa_fillCuts_113
    · refine z_icmp_gef C 113 c1 d_Pa_fillCuts_19 (by decide) ?_
      refine z_iconst C (0 : Int32) (by decide) d_Pa_fillCuts_22 ?_
      refine z_istore C [(5, zi (0 : Int32)), (0, zr (some 55)), (1, zr (some a1)), (2, zr (some 52)), (3, zr a3), (4, zi a4)] d_Pa_fillCuts_23 (by decide) rfl ?_
      refine zq_lsub [1, 2, 3, 4, 5, 0] [(0, zr (some 55)), (1, zr (some a1)), (2, zr (some 52)), (3, zr a3), (4, zi a4), (5, zi (0 : Int32))] rfl ?_
      exact c_Pa_fillCuts_25 C hret ha1 ga1 (fun z0 z1 zS zh => ih z0 z1 zS zh) fu  a3 a4 (0 : Int32) S h
set_option maxRecDepth 100000 in
set_option maxHeartbeats 4000000 in
theorem m_Pa_fillCuts (l : Launch) {fu : Nat} {a1 : Nat} {S : zSt} {S1 : zSt} (ha1 : zK a1 = 5) (ga1 : a1 < zN0) (h : f_Pa_fillCuts fu a1  S = some S1) : zPM l y_Pa_fillCuts b_Pa_fillCuts 8 none rm_Pa_fillCuts true true [zr (some 55), zr (some a1), zr (some 52)] S none S1 := by
  refine zPM_of (by decide) (Nat.le_of_ble_eq_true rfl) (fun p e s m args below meth c G C hret hname => ?_)
  unfold f_Pa_fillCuts at h
  refine (?_ : zJ p l e rm_Pa_fillCuts s m args below meth c G true 8 0 0 (zQm below G args s rm_Pa_fillCuts true none S1) S 0 [(0, zr (some 55)), (1, zr (some a1)), (2, zr (some 52))] [])
  refine z_aload_n C 0 rfl d_Pa_fillCuts_0 rfl ?_
  refine z_aload_n C 1 rfl d_Pa_fillCuts_1 rfl ?_
  obtain ⟨S2, h1, h⟩ := zb1_some h
  refine z_cV C 4 (by decide) (m_Pa_take l ha1 ga1 h1) mf_Pa_take lk_4_31 in_Pa_take se_Pa_take rfl zo_55 zk_55 ⟨rfl, rfl⟩ ⟨by decide, by decide⟩ ⟨Nat.zero_le _, Nat.zero_le _⟩ rfl _ [] rfl (Nat.le_of_ble_eq_true rfl) d_Pa_fillCuts_2 ?_
  refine z_aload_n C 1 rfl d_Pa_fillCuts_5 rfl ?_
  obtain ⟨r4, h3, h⟩ := zb1_some h
  refine z_cV C 5 (by decide) (m_Ps_lawInForce l ha1 ga1 h3) mf_Ps_lawInForce lk_4_73 in_Ps_lawInForce se_Ps_lawInForce rfl (Or.inl ⟨rfl, ga1⟩) ha1 ⟨rfl, rfl⟩ ⟨by decide, by decide⟩ ⟨Nat.zero_le _, Nat.zero_le _⟩ rfl _ [] rfl (Nat.le_of_ble_eq_true rfl) d_Pa_fillCuts_6 ?_
  refine z_astore_n C [(3, zr r4), (0, zr (some 55)), (1, zr (some a1)), (2, zr (some 52))] d_Pa_fillCuts_9 rfl (by decide) rfl ?_
  refine z_iconst C (0 : Int32) (by decide) d_Pa_fillCuts_10 ?_
  refine z_istore C [(4, zi (0 : Int32)), (3, zr r4), (0, zr (some 55)), (1, zr (some a1)), (2, zr (some 52))] d_Pa_fillCuts_11 (by decide) rfl ?_
  refine zq_lsub [2, 3, 4, 1, 0] [(0, zr (some 55)), (1, zr (some a1)), (2, zr (some 52)), (3, zr r4), (4, zi (0 : Int32))] rfl ?_
  exact c_Pa_fillCuts_13 C hret ha1 ga1 fu  r4 (0 : Int32) S2 h
def f_Pa_cutOf_15 (fu : Nat) (k4 : Int32 → Int32 → Int32 → zSt → Option Int32) : Nat → Int32 → Int32 → Int32 → Int32 → zSt → Option Int32
  | 0, _, _, _, _, _ => none
  | n + 1, a1, a2, a3, a4, S => if (zI S 55 0) ≤ a4 then k4 a1 a2 (a3 + (1 : Int32)) S else if ((a1 >>> (a3 &&& 31)) &&& (1 : Int32)) = (1 : Int32) then if ((a1 >>> (a4 &&& 31)) &&& (1 : Int32)) = 0 then zb1 (f_Pa_pair a3 a4) (fun r5 => zgd (0 ≤ r5 ∧ r5.toNatClampNeg < 81) (f_Pa_cutOf_15 fu k4 n a1 (a2 + (zI S 59 r5.toNatClampNeg)) a3 (a4 + (1 : Int32)) S)) else f_Pa_cutOf_15 fu k4 n a1 a2 a3 (a4 + (1 : Int32)) S else f_Pa_cutOf_15 fu k4 n a1 a2 a3 (a4 + (1 : Int32)) S
def f_Pa_cutOf_4 (fu : Nat) : Nat → Int32 → Int32 → Int32 → zSt → Option Int32
  | 0, _, _, _, _ => none
  | n + 1, a1, a2, a3, S => if (zI S 55 0) ≤ a3 then some a2 else f_Pa_cutOf_15 fu (f_Pa_cutOf_4 fu n) fu a1 a2 a3 (0 : Int32) S
def f_Pa_cutOf (fu : Nat) (a1 : Int32) (S : zSt) : Option Int32 := f_Pa_cutOf_4 fu fu a1 (0 : Int32) (0 : Int32) S
set_option maxRecDepth 100000 in
set_option maxHeartbeats 4000000 in
theorem c_Pa_cutOf_15 {p : Program} {l : Launch} {e : Env} {s : State} {m : MethodId} {args : Array Value} {below : List Frame} {meth : Method} {c : Code} {G : zG} (C : zC p s m args meth c G b_Pa_cutOf 5 y_Pa_cutOf.cls) (hret : meth.sig.returnType = (some .int)) {fu : Nat} {r : Int32} {k4 : Int32 → Int32 → Int32 → zSt → Option Int32} (hk4 : ∀ (a1 : Int32) (a2 : Int32) (a3 : Int32) (S : zSt) , k4 a1 a2 a3 S = some r → zJ p l e rm_Pa_cutOf s m args below meth c G true 5 0 0 (zQm below G args s rm_Pa_cutOf true (some (zi r)) S) S 4 [(0, zr (some 55)), (1, zi a1), (2, zi a2), (3, zi a3)] []) : ∀ (n : Nat) (a1 : Int32) (a2 : Int32) (a3 : Int32) (a4 : Int32) (S : zSt) , f_Pa_cutOf_15 fu k4 n a1 a2 a3 a4 S = some r → zJ p l e rm_Pa_cutOf s m args below meth c G true 5 0 0 (zQm below G args s rm_Pa_cutOf true (some (zi r)) S) S 15 [(0, zr (some 55)), (1, zi a1), (2, zi a2), (3, zi a3), (4, zi a4)] [] := by
  intro n
  induction n with
  | zero =>
    intro a1 a2 a3 a4 S h
    cases h
  | succ n ih =>
    intro a1 a2 a3 a4 S h
    rw [f_Pa_cutOf_15] at h
    refine z_iload C 4 rfl d_Pa_cutOf_15 ?_
    refine z_aload_n C 0 rfl d_Pa_cutOf_17 rfl ?_
    refine z_getI C 4 (by decide) 0 (by decide) rfl zo_55 zk_55 zfl_4_9 d_Pa_cutOf_18 ?_
    rcases zite h with ⟨c1, h⟩ | ⟨c1, h⟩
    · refine z_icmp_get C 62 c1 d_Pa_cutOf_21 (by decide) ?_
      refine z_iinc C 3 (a3 + (1 : Int32)) [(3, zi (a3 + (1 : Int32))), (0, zr (some 55)), (1, zi a1), (2, zi a2), (4, zi a4)] rfl d_Pa_cutOf_62 (by first | rfl | decide) (by decide) rfl ?_
      refine z_goto C 4 d_Pa_cutOf_65 (by decide) ?_
      refine zq_lsub [1, 2, 3, 0] [(0, zr (some 55)), (1, zi a1), (2, zi a2), (3, zi (a3 + (1 : Int32)))] rfl ?_
      exact hk4 a1 a2 (a3 + (1 : Int32)) S h
    · refine z_icmp_gef C 62 c1 d_Pa_cutOf_21 (by decide) ?_
      refine z_iload_n C 1 rfl d_Pa_cutOf_24 rfl ?_
      refine z_iload_n C 3 rfl d_Pa_cutOf_25 rfl ?_
      refine z_ishr C d_Pa_cutOf_26 ?_
      refine z_iconst C (1 : Int32) (by decide) d_Pa_cutOf_27 ?_
      refine z_iand C d_Pa_cutOf_28 ?_
      refine z_iconst C (1 : Int32) (by decide) d_Pa_cutOf_29 ?_
      rcases zite h with ⟨c2, h⟩ | ⟨c2, h⟩
      · refine z_icmp_nef C 56 c2 d_Pa_cutOf_30 (by decide) ?_
        refine z_iload_n C 1 rfl d_Pa_cutOf_33 rfl ?_
        refine z_iload C 4 rfl d_Pa_cutOf_34 ?_
        refine z_ishr C d_Pa_cutOf_36 ?_
        refine z_iconst C (1 : Int32) (by decide) d_Pa_cutOf_37 ?_
        refine z_iand C d_Pa_cutOf_38 ?_
        rcases zite h with ⟨c3, h⟩ | ⟨c3, h⟩
        · refine z_if_nef C 56 c3 d_Pa_cutOf_39 (by decide) ?_
          refine z_iload_n C 2 rfl d_Pa_cutOf_42 rfl ?_
          refine z_aload_n C 0 rfl d_Pa_cutOf_43 rfl ?_
          refine z_getF2 C 4 (by decide) 4 (by decide) rfl 4 81 rfl (59) rfl zp_55 zk_55 zfl_4_25 d_Pa_cutOf_44 ?_
          refine z_iload_n C 3 rfl d_Pa_cutOf_47 rfl ?_
          refine z_iload C 4 rfl d_Pa_cutOf_48 ?_
          obtain ⟨r5, h4, h⟩ := zb1_some h
          refine z_cS C (m_Pa_pair l h4) mf_Pa_pair lk_4_50 st_Pa_pair ⟨rfl, rfl⟩ ⟨by decide, by decide⟩ ⟨Nat.zero_le _, Nat.zero_le _⟩ rfl _ [zr (some 59), zi a2] rfl (Nat.le_of_ble_eq_true rfl) d_Pa_cutOf_50 ?_
          refine z_fact (fun hSR => ?_)
          obtain ⟨g6, h⟩ := zgd_some h
          refine z_ialoadS C zo_59 zk_59 (za_59 hSR) g6 d_Pa_cutOf_53 ?_
          refine z_iadd C d_Pa_cutOf_54 ?_
          refine z_istore_n C [(2, zi (a2 + (zI S 59 r5.toNatClampNeg))), (0, zr (some 55)), (1, zi a1), (3, zi a3), (4, zi a4)] d_Pa_cutOf_55 rfl (by decide) rfl ?_
          refine z_iinc C 4 (a4 + (1 : Int32)) [(4, zi (a4 + (1 : Int32))), (2, zi (a2 + (zI S 59 r5.toNatClampNeg))), (0, zr (some 55)), (1, zi a1), (3, zi a3)] rfl d_Pa_cutOf_56 (by first | rfl | decide) (by decide) rfl ?_
          refine z_goto C 15 d_Pa_cutOf_59 (by decide) ?_
          refine zq_lsub [2, 3, 1, 4, 0] [(0, zr (some 55)), (1, zi a1), (2, zi (a2 + (zI S 59 r5.toNatClampNeg))), (3, zi a3), (4, zi (a4 + (1 : Int32)))] rfl ?_
          exact ih a1 (a2 + (zI S 59 r5.toNatClampNeg)) a3 (a4 + (1 : Int32)) S h
        · refine z_if_net C 56 c3 d_Pa_cutOf_39 (by decide) ?_
          refine z_iinc C 4 (a4 + (1 : Int32)) [(4, zi (a4 + (1 : Int32))), (0, zr (some 55)), (1, zi a1), (2, zi a2), (3, zi a3)] rfl d_Pa_cutOf_56 (by first | rfl | decide) (by decide) rfl ?_
          refine z_goto C 15 d_Pa_cutOf_59 (by decide) ?_
          refine zq_lsub [1, 2, 3, 4, 0] [(0, zr (some 55)), (1, zi a1), (2, zi a2), (3, zi a3), (4, zi (a4 + (1 : Int32)))] rfl ?_
          exact ih a1 a2 a3 (a4 + (1 : Int32)) S h
      · refine z_icmp_net C 56 c2 d_Pa_cutOf_30 (by decide) ?_
        refine z_iinc C 4 (a4 + (1 : Int32)) [(4, zi (a4 + (1 : Int32))), (0, zr (some 55)), (1, zi a1), (2, zi a2), (3, zi a3)] rfl d_Pa_cutOf_56 (by first | rfl | decide) (by decide) rfl ?_
        refine z_goto C 15 d_Pa_cutOf_59 (by decide) ?_
        refine zq_lsub [1, 2, 3, 4, 0] [(0, zr (some 55)), (1, zi a1), (2, zi a2), (3, zi a3), (4, zi (a4 + (1 : Int32)))] rfl ?_
        exact ih a1 a2 a3 (a4 + (1 : Int32)) S h
set_option maxRecDepth 100000 in
set_option maxHeartbeats 4000000 in
theorem c_Pa_cutOf_4 {p : Program} {l : Launch} {e : Env} {s : State} {m : MethodId} {args : Array Value} {below : List Frame} {meth : Method} {c : Code} {G : zG} (C : zC p s m args meth c G b_Pa_cutOf 5 y_Pa_cutOf.cls) (hret : meth.sig.returnType = (some .int)) {fu : Nat} {r : Int32} : ∀ (n : Nat) (a1 : Int32) (a2 : Int32) (a3 : Int32) (S : zSt) , f_Pa_cutOf_4 fu n a1 a2 a3 S = some r → zJ p l e rm_Pa_cutOf s m args below meth c G true 5 0 0 (zQm below G args s rm_Pa_cutOf true (some (zi r)) S) S 4 [(0, zr (some 55)), (1, zi a1), (2, zi a2), (3, zi a3)] [] := by
  intro n
  induction n with
  | zero =>
    intro a1 a2 a3 S h
    cases h
  | succ n ih =>
    intro a1 a2 a3 S h
    rw [f_Pa_cutOf_4] at h
    refine z_iload_n C 3 rfl d_Pa_cutOf_4 rfl ?_
    refine z_aload_n C 0 rfl d_Pa_cutOf_5 rfl ?_
    refine z_getI C 4 (by decide) 0 (by decide) rfl zo_55 zk_55 zfl_4_9 d_Pa_cutOf_6 ?_
    rcases zite h with ⟨c1, h⟩ | ⟨c1, h⟩
    · refine z_icmp_get C 68 c1 d_Pa_cutOf_9 (by decide) ?_
      refine z_iload_n C 2 rfl d_Pa_cutOf_68 rfl ?_
      cases h
      exact z_iret C .int hret rfl ⟨Nat.zero_le _, Nat.zero_le _⟩ d_Pa_cutOf_69
    · refine z_icmp_gef C 68 c1 d_Pa_cutOf_9 (by decide) ?_
      refine z_iconst C (0 : Int32) (by decide) d_Pa_cutOf_12 ?_
      refine z_istore C [(4, zi (0 : Int32)), (0, zr (some 55)), (1, zi a1), (2, zi a2), (3, zi a3)] d_Pa_cutOf_13 (by decide) rfl ?_
      refine zq_lsub [1, 2, 3, 4, 0] [(0, zr (some 55)), (1, zi a1), (2, zi a2), (3, zi a3), (4, zi (0 : Int32))] rfl ?_
      exact c_Pa_cutOf_15 C hret (fun z0 z1 z2 zS zh => ih z0 z1 z2 zS zh) fu  a1 a2 a3 (0 : Int32) S h
set_option maxRecDepth 100000 in
set_option maxHeartbeats 4000000 in
theorem m_Pa_cutOf (l : Launch) {fu : Nat} {a1 : Int32} {S : zSt} {r : Int32} (h : f_Pa_cutOf fu a1 S = some r) : zPM l y_Pa_cutOf b_Pa_cutOf 5 (some .int) rm_Pa_cutOf true true [zr (some 55), zi a1] S (some (zi r)) S := by
  refine zPM_of (by decide) (Nat.le_of_ble_eq_true rfl) (fun p e s m args below meth c G C hret hname => ?_)
  unfold f_Pa_cutOf at h
  refine (?_ : zJ p l e rm_Pa_cutOf s m args below meth c G true 5 0 0 (zQm below G args s rm_Pa_cutOf true (some (zi r)) S) S 0 [(0, zr (some 55)), (1, zi a1)] [])
  refine z_iconst C (0 : Int32) (by decide) d_Pa_cutOf_0 ?_
  refine z_istore_n C [(2, zi (0 : Int32)), (0, zr (some 55)), (1, zi a1)] d_Pa_cutOf_1 rfl (by decide) rfl ?_
  refine z_iconst C (0 : Int32) (by decide) d_Pa_cutOf_2 ?_
  refine z_istore_n C [(3, zi (0 : Int32)), (2, zi (0 : Int32)), (0, zr (some 55)), (1, zi a1)] d_Pa_cutOf_3 rfl (by decide) rfl ?_
  refine zq_lsub [2, 3, 1, 0] [(0, zr (some 55)), (1, zi a1), (2, zi (0 : Int32)), (3, zi (0 : Int32))] rfl ?_
  exact c_Pa_cutOf_4 C hret fu  a1 (0 : Int32) (0 : Int32) S h
def f_Pa_lightestSet_9 (fu : Nat) : Nat → Int32 → Int32 → Int32 → Int32 → Int32 → zSt → Option Int32
  | 0, _, _, _, _, _, _ => none
  | n + 1, a1, a2, a3, a4, a5, S => if ((1 : Int32) <<< ((zI S 55 0) &&& 31)) ≤ a5 then some a3 else if ((a5 >>> (a1 &&& 31)) &&& (1 : Int32)) = (1 : Int32) then if ((a5 >>> (a2 &&& 31)) &&& (1 : Int32)) = 0 then zb1 (f_Pa_cutOf fu a5 S) (fun r5 => if a4 ≤ r5 then f_Pa_lightestSet_9 fu n a1 a2 a3 a4 (a5 + (1 : Int32)) S else f_Pa_lightestSet_9 fu n a1 a2 a5 r5 (a5 + (1 : Int32)) S) else f_Pa_lightestSet_9 fu n a1 a2 a3 a4 (a5 + (1 : Int32)) S else f_Pa_lightestSet_9 fu n a1 a2 a3 a4 (a5 + (1 : Int32)) S
def f_Pa_lightestSet (fu : Nat) (a1 : Int32) (a2 : Int32) (S : zSt) : Option Int32 := f_Pa_lightestSet_9 fu fu a1 a2 (-1 : Int32) (1000000 : Int32) (0 : Int32) S
set_option maxRecDepth 100000 in
set_option maxHeartbeats 4000000 in
theorem c_Pa_lightestSet_9 {p : Program} {l : Launch} {e : Env} {s : State} {m : MethodId} {args : Array Value} {below : List Frame} {meth : Method} {c : Code} {G : zG} (C : zC p s m args meth c G b_Pa_lightestSet 7 y_Pa_lightestSet.cls) (hret : meth.sig.returnType = (some .int)) {fu : Nat} {r : Int32} : ∀ (n : Nat) (a1 : Int32) (a2 : Int32) (a3 : Int32) (a4 : Int32) (a5 : Int32) (S : zSt) , f_Pa_lightestSet_9 fu n a1 a2 a3 a4 a5 S = some r → zJ p l e rm_Pa_lightestSet s m args below meth c G true 7 0 0 (zQm below G args s rm_Pa_lightestSet true (some (zi r)) S) S 9 [(0, zr (some 55)), (1, zi a1), (2, zi a2), (3, zi a3), (4, zi a4), (5, zi a5)] [] := by
  intro n
  induction n with
  | zero =>
    intro a1 a2 a3 a4 a5 S h
    cases h
  | succ n ih =>
    intro a1 a2 a3 a4 a5 S h
    rw [f_Pa_lightestSet_9] at h
    refine z_iload C 5 rfl d_Pa_lightestSet_9 ?_
    refine z_iconst C (1 : Int32) (by decide) d_Pa_lightestSet_11 ?_
    refine z_aload_n C 0 rfl d_Pa_lightestSet_12 rfl ?_
    refine z_getI C 4 (by decide) 0 (by decide) rfl zo_55 zk_55 zfl_4_9 d_Pa_lightestSet_13 ?_
    refine z_ishl C d_Pa_lightestSet_16 ?_
    rcases zite h with ⟨c1, h⟩ | ⟨c1, h⟩
    · refine z_icmp_get C 67 c1 d_Pa_lightestSet_17 (by decide) ?_
      refine z_iload_n C 3 rfl d_Pa_lightestSet_67 rfl ?_
      cases h
      exact z_iret C .int hret rfl ⟨Nat.zero_le _, Nat.zero_le _⟩ d_Pa_lightestSet_68
    · refine z_icmp_gef C 67 c1 d_Pa_lightestSet_17 (by decide) ?_
      refine z_iload C 5 rfl d_Pa_lightestSet_20 ?_
      refine z_iload_n C 1 rfl d_Pa_lightestSet_22 rfl ?_
      refine z_ishr C d_Pa_lightestSet_23 ?_
      refine z_iconst C (1 : Int32) (by decide) d_Pa_lightestSet_24 ?_
      refine z_iand C d_Pa_lightestSet_25 ?_
      refine z_iconst C (1 : Int32) (by decide) d_Pa_lightestSet_26 ?_
      rcases zite h with ⟨c2, h⟩ | ⟨c2, h⟩
      · refine z_icmp_nef C 61 c2 d_Pa_lightestSet_27 (by decide) ?_
        refine z_iload C 5 rfl d_Pa_lightestSet_30 ?_
        refine z_iload_n C 2 rfl d_Pa_lightestSet_32 rfl ?_
        refine z_ishr C d_Pa_lightestSet_33 ?_
        refine z_iconst C (1 : Int32) (by decide) d_Pa_lightestSet_34 ?_
        refine z_iand C d_Pa_lightestSet_35 ?_
        rcases zite h with ⟨c3, h⟩ | ⟨c3, h⟩
        · refine z_if_nef C 61 c3 d_Pa_lightestSet_36 (by decide) ?_
          refine z_aload_n C 0 rfl d_Pa_lightestSet_39 rfl ?_
          refine z_iload C 5 rfl d_Pa_lightestSet_40 ?_
          obtain ⟨r5, h4, h⟩ := zb1_some h
          refine z_cV C 4 (by decide) (m_Pa_cutOf l h4) mf_Pa_cutOf lk_4_77 in_Pa_cutOf se_Pa_cutOf rfl zo_55 zk_55 ⟨rfl, rfl⟩ ⟨by decide, by decide⟩ ⟨Nat.zero_le _, Nat.zero_le _⟩ rfl _ [] rfl (Nat.le_of_ble_eq_true rfl) d_Pa_lightestSet_42 ?_
          refine z_istore C [(6, zi r5), (0, zr (some 55)), (1, zi a1), (2, zi a2), (3, zi a3), (4, zi a4), (5, zi a5)] d_Pa_lightestSet_45 (by decide) rfl ?_
          refine z_iload C 0 rfl d_Pa_lightestSet_47 ?_
          refine z_iload C 5 rfl d_Pa_lightestSet_49 ?_
          rcases zite h with ⟨c6, h⟩ | ⟨c6, h⟩
          · refine z_icmp_get C 61 c6 d_Pa_lightestSet_51 (by decide) ?_
            refine z_iinc C 6 (a5 + (1 : Int32)) [(5, zi (a5 + (1 : Int32))), (6, zi r5), (0, zr (some 55)), (1, zi a1), (2, zi a2), (3, zi a3), (4, zi a4)] rfl d_Pa_lightestSet_61 (by first | rfl | decide) (by decide) rfl ?_
            refine z_goto C 9 d_Pa_lightestSet_64 (by decide) ?_
            refine zq_lsub [2, 3, 4, 5, 6, 0] [(0, zr (some 55)), (1, zi a1), (2, zi a2), (3, zi a3), (4, zi a4), (5, zi (a5 + (1 : Int32)))] rfl ?_
            exact ih a1 a2 a3 a4 (a5 + (1 : Int32)) S h
          · refine z_icmp_gef C 61 c6 d_Pa_lightestSet_51 (by decide) ?_
            refine z_iload C 6 rfl d_Pa_lightestSet_54 ?_
            refine z_istore_n C [(3, zi a5), (6, zi r5), (0, zr (some 55)), (1, zi a1), (2, zi a2), (4, zi a4), (5, zi a5)] d_Pa_lightestSet_56 rfl (by decide) rfl ?_
            refine z_iload C 1 rfl d_Pa_lightestSet_57 ?_
            refine z_istore C [(4, zi r5), (3, zi a5), (6, zi r5), (0, zr (some 55)), (1, zi a1), (2, zi a2), (5, zi a5)] d_Pa_lightestSet_59 (by decide) rfl ?_
            refine z_iinc C 6 (a5 + (1 : Int32)) [(5, zi (a5 + (1 : Int32))), (4, zi r5), (3, zi a5), (6, zi r5), (0, zr (some 55)), (1, zi a1), (2, zi a2)] rfl d_Pa_lightestSet_61 (by first | rfl | decide) (by decide) rfl ?_
            refine z_goto C 9 d_Pa_lightestSet_64 (by decide) ?_
            refine zq_lsub [4, 5, 6, 2, 1, 0] [(0, zr (some 55)), (1, zi a1), (2, zi a2), (3, zi a5), (4, zi r5), (5, zi (a5 + (1 : Int32)))] rfl ?_
            exact ih a1 a2 a5 r5 (a5 + (1 : Int32)) S h
        · refine z_if_net C 61 c3 d_Pa_lightestSet_36 (by decide) ?_
          refine z_iinc C 5 (a5 + (1 : Int32)) [(5, zi (a5 + (1 : Int32))), (0, zr (some 55)), (1, zi a1), (2, zi a2), (3, zi a3), (4, zi a4)] rfl d_Pa_lightestSet_61 (by first | rfl | decide) (by decide) rfl ?_
          refine z_goto C 9 d_Pa_lightestSet_64 (by decide) ?_
          refine zq_lsub [1, 2, 3, 4, 5, 0] [(0, zr (some 55)), (1, zi a1), (2, zi a2), (3, zi a3), (4, zi a4), (5, zi (a5 + (1 : Int32)))] rfl ?_
          exact ih a1 a2 a3 a4 (a5 + (1 : Int32)) S h
      · refine z_icmp_net C 61 c2 d_Pa_lightestSet_27 (by decide) ?_
        refine z_iinc C 5 (a5 + (1 : Int32)) [(5, zi (a5 + (1 : Int32))), (0, zr (some 55)), (1, zi a1), (2, zi a2), (3, zi a3), (4, zi a4)] rfl d_Pa_lightestSet_61 (by first | rfl | decide) (by decide) rfl ?_
        refine z_goto C 9 d_Pa_lightestSet_64 (by decide) ?_
        refine zq_lsub [1, 2, 3, 4, 5, 0] [(0, zr (some 55)), (1, zi a1), (2, zi a2), (3, zi a3), (4, zi a4), (5, zi (a5 + (1 : Int32)))] rfl ?_
        exact ih a1 a2 a3 a4 (a5 + (1 : Int32)) S h
set_option maxRecDepth 100000 in
set_option maxHeartbeats 4000000 in
theorem m_Pa_lightestSet (l : Launch) {fu : Nat} {a1 : Int32} {a2 : Int32} {S : zSt} {r : Int32} (h : f_Pa_lightestSet fu a1 a2 S = some r) : zPM l y_Pa_lightestSet b_Pa_lightestSet 7 (some .int) rm_Pa_lightestSet true true [zr (some 55), zi a1, zi a2] S (some (zi r)) S := by
  refine zPM_of (by decide) (Nat.le_of_ble_eq_true rfl) (fun p e s m args below meth c G C hret hname => ?_)
  unfold f_Pa_lightestSet at h
  refine (?_ : zJ p l e rm_Pa_lightestSet s m args below meth c G true 7 0 0 (zQm below G args s rm_Pa_lightestSet true (some (zi r)) S) S 0 [(0, zr (some 55)), (1, zi a1), (2, zi a2)] [])
  refine z_iconst C (-1 : Int32) (by decide) d_Pa_lightestSet_0 ?_
  refine z_istore_n C [(3, zi (-1 : Int32)), (0, zr (some 55)), (1, zi a1), (2, zi a2)] d_Pa_lightestSet_1 rfl (by decide) rfl ?_
  refine z_ldc C zc_4_49 d_Pa_lightestSet_2 ?_
  refine z_istore C [(4, zi (1000000 : Int32)), (3, zi (-1 : Int32)), (0, zr (some 55)), (1, zi a1), (2, zi a2)] d_Pa_lightestSet_4 (by decide) rfl ?_
  refine z_iconst C (0 : Int32) (by decide) d_Pa_lightestSet_6 ?_
  refine z_istore C [(5, zi (0 : Int32)), (4, zi (1000000 : Int32)), (3, zi (-1 : Int32)), (0, zr (some 55)), (1, zi a1), (2, zi a2)] d_Pa_lightestSet_7 (by decide) rfl ?_
  refine zq_lsub [3, 4, 5, 2, 1, 0] [(0, zr (some 55)), (1, zi a1), (2, zi a2), (3, zi (-1 : Int32)), (4, zi (1000000 : Int32)), (5, zi (0 : Int32))] rfl ?_
  exact c_Pa_lightestSet_9 C hret fu  a1 a2 (-1 : Int32) (1000000 : Int32) (0 : Int32) S h
def f_E_bound (fu : Nat) (a1 : Int32) (a2 : Int32) (a3 : Int32) (S : zSt) : Option (Int32 × zSt) := if a1 = a2 then some ((-1 : Int32), S) else zb1 (f_Ps_has 1 a1 S) (fun r3 => if r3 = 0 then some ((-1 : Int32), S) else zb1 (f_Ps_has 1 a2 S) (fun r6 => if r6 = 0 then some ((-1 : Int32), S) else if a3 < 0 then some ((-1 : Int32), S) else if a3 ≤ (1 : Int32) then zb1 (f_Pa_fillCuts fu 1 S) (fun S11 => zb1 (f_Pa_lightestSet fu a1 a2 S11) (fun r13 => if a3 = 0 then zb1 (f_Pa_cutOf fu r13 S11) (fun r16 => some (r16, S11)) else some (r13, S11))) else some ((-1 : Int32), S)))
set_option maxRecDepth 100000 in
set_option maxHeartbeats 4000000 in
theorem m_E_bound (l : Launch) {fu : Nat} {a1 : Int32} {a2 : Int32} {a3 : Int32} {S : zSt} {r : Int32} {S1 : zSt} (h : f_E_bound fu a1 a2 a3 S = some (r, S1)) : zPM l y_E_bound b_E_bound 5 (some .int) rm_E_bound true true [zr (some 0), zi a1, zi a2, zi a3] S (some (zi r)) S1 := by
  refine zPM_of (by decide) (Nat.le_of_ble_eq_true rfl) (fun p e s m args below meth c G C hret hname => ?_)
  unfold f_E_bound at h
  refine (?_ : zJ p l e rm_E_bound s m args below meth c G true 5 0 0 (zQm below G args s rm_E_bound true (some (zi r)) S1) S 0 [(0, zr (some 0)), (1, zi a1), (2, zi a2), (3, zi a3)] [])
  refine z_iload_n C 1 rfl d_E_bound_0 rfl ?_
  refine z_iload_n C 2 rfl d_E_bound_1 rfl ?_
  rcases zite h with ⟨c1, h⟩ | ⟨c1, h⟩
  · refine z_icmp_eqt C 36 c1 d_E_bound_2 (by decide) ?_
    refine z_iconst C (-1 : Int32) (by decide) d_E_bound_36 ?_
    cases h
    exact z_iret C .int hret rfl ⟨Nat.zero_le _, Nat.zero_le _⟩ d_E_bound_37
  · refine z_icmp_eqf C 36 c1 d_E_bound_2 (by decide) ?_
    refine z_aload_n C 0 rfl d_E_bound_5 rfl ?_
    refine z_getF2 C 0 (by decide) 0 (by decide) rfl 1 0 rfl (1) rfl zp_0 zk_0 zfl_0_12 d_E_bound_6 ?_
    refine z_iload_n C 1 rfl d_E_bound_9 rfl ?_
    obtain ⟨r3, h2, h⟩ := zb1_some h
    refine z_cV C 5 (by decide) (m_Ps_has l zk_1 (Nat.le_of_ble_eq_true rfl) h2) mf_Ps_has lk_0_126 in_Ps_has se_Ps_has rfl zo_1 zk_1 ⟨rfl, rfl⟩ ⟨by decide, by decide⟩ ⟨Nat.zero_le _, Nat.zero_le _⟩ rfl _ [] rfl (Nat.le_of_ble_eq_true rfl) d_E_bound_10 ?_
    rcases zite h with ⟨c4, h⟩ | ⟨c4, h⟩
    · refine z_if_eqt C 36 c4 d_E_bound_13 (by decide) ?_
      refine z_iconst C (-1 : Int32) (by decide) d_E_bound_36 ?_
      cases h
      exact z_iret C .int hret rfl ⟨Nat.zero_le _, Nat.zero_le _⟩ d_E_bound_37
    · refine z_if_eqf C 36 c4 d_E_bound_13 (by decide) ?_
      refine z_aload_n C 0 rfl d_E_bound_16 rfl ?_
      refine z_getF2 C 0 (by decide) 0 (by decide) rfl 1 0 rfl (1) rfl zp_0 zk_0 zfl_0_12 d_E_bound_17 ?_
      refine z_iload_n C 2 rfl d_E_bound_20 rfl ?_
      obtain ⟨r6, h5, h⟩ := zb1_some h
      refine z_cV C 5 (by decide) (m_Ps_has l zk_1 (Nat.le_of_ble_eq_true rfl) h5) mf_Ps_has lk_0_126 in_Ps_has se_Ps_has rfl zo_1 zk_1 ⟨rfl, rfl⟩ ⟨by decide, by decide⟩ ⟨Nat.zero_le _, Nat.zero_le _⟩ rfl _ [] rfl (Nat.le_of_ble_eq_true rfl) d_E_bound_21 ?_
      rcases zite h with ⟨c7, h⟩ | ⟨c7, h⟩
      · refine z_if_eqt C 36 c7 d_E_bound_24 (by decide) ?_
        refine z_iconst C (-1 : Int32) (by decide) d_E_bound_36 ?_
        cases h
        exact z_iret C .int hret rfl ⟨Nat.zero_le _, Nat.zero_le _⟩ d_E_bound_37
      · refine z_if_eqf C 36 c7 d_E_bound_24 (by decide) ?_
        refine z_iload_n C 3 rfl d_E_bound_27 rfl ?_
        rcases zite h with ⟨c8, h⟩ | ⟨c8, h⟩
        · refine z_if_ltt C 36 c8 d_E_bound_28 (by decide) ?_
          refine z_iconst C (-1 : Int32) (by decide) d_E_bound_36 ?_
          cases h
          exact z_iret C .int hret rfl ⟨Nat.zero_le _, Nat.zero_le _⟩ d_E_bound_37
        · refine z_if_ltf C 36 c8 d_E_bound_28 (by decide) ?_
          refine z_iload_n C 3 rfl d_E_bound_31 rfl ?_
          refine z_iconst C (1 : Int32) (by decide) d_E_bound_32 ?_
          rcases zite h with ⟨c9, h⟩ | ⟨c9, h⟩
          · refine z_icmp_let C 38 c9 d_E_bound_33 (by decide) ?_
            refine z_aload_n C 0 rfl d_E_bound_38 rfl ?_
            refine z_getF2 C 0 (by decide) 9 (by decide) rfl 55 0 rfl (55) rfl zp_0 zk_0 zfl_0_60 d_E_bound_39 ?_
            refine z_aload_n C 0 rfl d_E_bound_42 rfl ?_
            refine z_getF2 C 0 (by decide) 0 (by decide) rfl 1 0 rfl (1) rfl zp_0 zk_0 zfl_0_12 d_E_bound_43 ?_
            refine z_aload_n C 0 rfl d_E_bound_46 rfl ?_
            refine z_getF2 C 0 (by decide) 8 (by decide) rfl 52 0 rfl (52) rfl zp_0 zk_0 zfl_0_53 d_E_bound_47 ?_
            obtain ⟨S11, h10, h⟩ := zb1_some h
            refine z_cV C 4 (by decide) (m_Pa_fillCuts l zk_1 (Nat.le_of_ble_eq_true rfl) h10) mf_Pa_fillCuts lk_0_261 in_Pa_fillCuts se_Pa_fillCuts rfl zo_55 zk_55 ⟨rfl, rfl⟩ ⟨by decide, by decide⟩ ⟨Nat.zero_le _, Nat.zero_le _⟩ rfl _ [] rfl (Nat.le_of_ble_eq_true rfl) d_E_bound_50 ?_
            refine z_aload_n C 0 rfl d_E_bound_53 rfl ?_
            refine z_getF2 C 0 (by decide) 9 (by decide) rfl 55 0 rfl (55) rfl zp_0 zk_0 zfl_0_60 d_E_bound_54 ?_
            refine z_iload_n C 1 rfl d_E_bound_57 rfl ?_
            refine z_iload_n C 2 rfl d_E_bound_58 rfl ?_
            obtain ⟨r13, h12, h⟩ := zb1_some h
            refine z_cV C 4 (by decide) (m_Pa_lightestSet l h12) mf_Pa_lightestSet lk_0_265 in_Pa_lightestSet se_Pa_lightestSet rfl zo_55 zk_55 ⟨rfl, rfl⟩ ⟨by decide, by decide⟩ ⟨Nat.zero_le _, Nat.zero_le _⟩ rfl _ [] rfl (Nat.le_of_ble_eq_true rfl) d_E_bound_59 ?_
            refine z_istore C [(4, zi r13), (0, zr (some 0)), (1, zi a1), (2, zi a2), (3, zi a3)] d_E_bound_62 (by decide) rfl ?_
            refine z_iload_n C 4 rfl d_E_bound_64 rfl ?_
            rcases zite h with ⟨c14, h⟩ | ⟨c14, h⟩
            · refine z_if_nef C 80 c14 d_E_bound_65 (by decide) ?_
              refine z_aload_n C 1 rfl d_E_bound_68 rfl ?_
              refine z_getF2 C 0 (by decide) 9 (by decide) rfl 55 0 rfl (55) rfl zp_0 zk_0 zfl_0_60 d_E_bound_69 ?_
              refine z_iload C 0 rfl d_E_bound_72 ?_
              obtain ⟨r16, h15, h⟩ := zb1_some h
              refine z_cV C 4 (by decide) (m_Pa_cutOf l h15) mf_Pa_cutOf lk_0_268 in_Pa_cutOf se_Pa_cutOf rfl zo_55 zk_55 ⟨rfl, rfl⟩ ⟨by decide, by decide⟩ ⟨Nat.zero_le _, Nat.zero_le _⟩ rfl _ [] rfl (Nat.le_of_ble_eq_true rfl) d_E_bound_74 ?_
              refine z_goto C 82 d_E_bound_77 (by decide) ?_
              cases h
              exact z_iret C .int hret rfl ⟨Nat.zero_le _, Nat.zero_le _⟩ d_E_bound_82
            · refine z_if_net C 80 c14 d_E_bound_65 (by decide) ?_
              refine z_iload C 0 rfl d_E_bound_80 ?_
              cases h
              exact z_iret C .int hret rfl ⟨Nat.zero_le _, Nat.zero_le _⟩ d_E_bound_82
          · refine z_icmp_lef C 38 c9 d_E_bound_33 (by decide) ?_
            refine z_iconst C (-1 : Int32) (by decide) d_E_bound_36 ?_
            cases h
            exact z_iret C .int hret rfl ⟨Nat.zero_le _, Nat.zero_le _⟩ d_E_bound_37
def f_Pa_nearestOf_9 (fu : Nat) : Nat → Int32 → Int32 → Int32 → Int32 → Int32 → zSt → Option Int32
  | 0, _, _, _, _, _, _ => none
  | n + 1, a1, a2, a3, a4, a5, S => zb1 (f_Pa_has a2 S) (fun r2 => if r2 = 0 then some a3 else if (zI S 55 0) ≤ a5 then some a3 else zb1 (f_Pa_pair a5 a2) (fun r6 => zgd (0 ≤ r6 ∧ r6.toNatClampNeg < 81) (if ((a1 >>> (a5 &&& 31)) &&& (1 : Int32)) = (1 : Int32) then if a4 ≤ (zI S 58 r6.toNatClampNeg) then f_Pa_nearestOf_9 fu n a1 a2 a3 a4 (a5 + (1 : Int32)) S else f_Pa_nearestOf_9 fu n a1 a2 a5 (zI S 58 r6.toNatClampNeg) (a5 + (1 : Int32)) S else f_Pa_nearestOf_9 fu n a1 a2 a3 a4 (a5 + (1 : Int32)) S)))
def f_Pa_nearestOf (fu : Nat) (a1 : Int32) (a2 : Int32) (S : zSt) : Option Int32 := f_Pa_nearestOf_9 fu fu a1 a2 (-1 : Int32) (1000000 : Int32) (0 : Int32) S
set_option maxRecDepth 100000 in
set_option maxHeartbeats 4000000 in
theorem c_Pa_nearestOf_9 {p : Program} {l : Launch} {e : Env} {s : State} {m : MethodId} {args : Array Value} {below : List Frame} {meth : Method} {c : Code} {G : zG} (C : zC p s m args meth c G b_Pa_nearestOf 7 y_Pa_nearestOf.cls) (hret : meth.sig.returnType = (some .int)) {fu : Nat} {r : Int32} : ∀ (n : Nat) (a1 : Int32) (a2 : Int32) (a3 : Int32) (a4 : Int32) (a5 : Int32) (S : zSt) , f_Pa_nearestOf_9 fu n a1 a2 a3 a4 a5 S = some r → zJ p l e rm_Pa_nearestOf s m args below meth c G true 7 0 0 (zQm below G args s rm_Pa_nearestOf true (some (zi r)) S) S 9 [(0, zr (some 55)), (1, zi a1), (2, zi a2), (3, zi a3), (4, zi a4), (5, zi a5)] [] := by
  intro n
  induction n with
  | zero =>
    intro a1 a2 a3 a4 a5 S h
    cases h
  | succ n ih =>
    intro a1 a2 a3 a4 a5 S h
    rw [f_Pa_nearestOf_9] at h
    refine z_aload_n C 0 rfl d_Pa_nearestOf_9 rfl ?_
    refine z_iload_n C 2 rfl d_Pa_nearestOf_10 rfl ?_
    obtain ⟨r2, h1, h⟩ := zb1_some h
    refine z_cV C 4 (by decide) (m_Pa_has l h1) mf_Pa_has lk_4_61 in_Pa_has se_Pa_has rfl zo_55 zk_55 ⟨rfl, rfl⟩ ⟨by decide, by decide⟩ ⟨Nat.zero_le _, Nat.zero_le _⟩ rfl _ [] rfl (Nat.le_of_ble_eq_true rfl) d_Pa_nearestOf_11 ?_
    rcases zite h with ⟨c3, h⟩ | ⟨c3, h⟩
    · refine z_if_eqt C 69 c3 d_Pa_nearestOf_14 (by decide) ?_
      refine z_iload_n C 3 rfl d_Pa_nearestOf_69 rfl ?_
      cases h
      exact z_iret C .int hret rfl ⟨Nat.zero_le _, Nat.zero_le _⟩ d_Pa_nearestOf_70
    · refine z_if_eqf C 69 c3 d_Pa_nearestOf_14 (by decide) ?_
      refine z_iload C 5 rfl d_Pa_nearestOf_17 ?_
      refine z_aload_n C 0 rfl d_Pa_nearestOf_19 rfl ?_
      refine z_getI C 4 (by decide) 0 (by decide) rfl zo_55 zk_55 zfl_4_9 d_Pa_nearestOf_20 ?_
      rcases zite h with ⟨c4, h⟩ | ⟨c4, h⟩
      · refine z_icmp_get C 69 c4 d_Pa_nearestOf_23 (by decide) ?_
        refine z_iload_n C 3 rfl d_Pa_nearestOf_69 rfl ?_
        cases h
        exact z_iret C .int hret rfl ⟨Nat.zero_le _, Nat.zero_le _⟩ d_Pa_nearestOf_70
      · refine z_icmp_gef C 69 c4 d_Pa_nearestOf_23 (by decide) ?_
        refine z_aload_n C 0 rfl d_Pa_nearestOf_26 rfl ?_
        refine z_getF2 C 4 (by decide) 3 (by decide) rfl 3 81 rfl (58) rfl zp_55 zk_55 zfl_4_22 d_Pa_nearestOf_27 ?_
        refine z_iload C 5 rfl d_Pa_nearestOf_30 ?_
        refine z_iload_n C 2 rfl d_Pa_nearestOf_32 rfl ?_
        obtain ⟨r6, h5, h⟩ := zb1_some h
        refine z_cS C (m_Pa_pair l h5) mf_Pa_pair lk_4_50 st_Pa_pair ⟨rfl, rfl⟩ ⟨by decide, by decide⟩ ⟨Nat.zero_le _, Nat.zero_le _⟩ rfl _ [zr (some 58)] rfl (Nat.le_of_ble_eq_true rfl) d_Pa_nearestOf_33 ?_
        refine z_fact (fun hSR => ?_)
        obtain ⟨g7, h⟩ := zgd_some h
        refine z_ialoadS C zo_58 zk_58 (za_58 hSR) g7 d_Pa_nearestOf_36 ?_
        refine z_istore C [(6, zi (zI S 58 r6.toNatClampNeg)), (0, zr (some 55)), (1, zi a1), (2, zi a2), (3, zi a3), (4, zi a4), (5, zi a5)] d_Pa_nearestOf_37 (by decide) rfl ?_
        refine z_iload_n C 2 rfl d_Pa_nearestOf_39 rfl ?_
        refine z_iload C 6 rfl d_Pa_nearestOf_40 ?_
        refine z_ishr C d_Pa_nearestOf_42 ?_
        refine z_iconst C (1 : Int32) (by decide) d_Pa_nearestOf_43 ?_
        refine z_iand C d_Pa_nearestOf_44 ?_
        refine z_iconst C (1 : Int32) (by decide) d_Pa_nearestOf_45 ?_
        rcases zite h with ⟨c8, h⟩ | ⟨c8, h⟩
        · refine z_icmp_nef C 63 c8 d_Pa_nearestOf_46 (by decide) ?_
          refine z_iload C 0 rfl d_Pa_nearestOf_49 ?_
          refine z_iload C 5 rfl d_Pa_nearestOf_51 ?_
          rcases zite h with ⟨c9, h⟩ | ⟨c9, h⟩
          · refine z_icmp_get C 63 c9 d_Pa_nearestOf_53 (by decide) ?_
            refine z_iinc C 6 (a5 + (1 : Int32)) [(5, zi (a5 + (1 : Int32))), (6, zi (zI S 58 r6.toNatClampNeg)), (0, zr (some 55)), (1, zi a1), (2, zi a2), (3, zi a3), (4, zi a4)] rfl d_Pa_nearestOf_63 (by first | rfl | decide) (by decide) rfl ?_
            refine z_goto C 9 d_Pa_nearestOf_66 (by decide) ?_
            refine zq_lsub [2, 3, 4, 5, 6, 0] [(0, zr (some 55)), (1, zi a1), (2, zi a2), (3, zi a3), (4, zi a4), (5, zi (a5 + (1 : Int32)))] rfl ?_
            exact ih a1 a2 a3 a4 (a5 + (1 : Int32)) S h
          · refine z_icmp_gef C 63 c9 d_Pa_nearestOf_53 (by decide) ?_
            refine z_iload C 6 rfl d_Pa_nearestOf_56 ?_
            refine z_istore_n C [(3, zi a5), (6, zi (zI S 58 r6.toNatClampNeg)), (0, zr (some 55)), (1, zi a1), (2, zi a2), (4, zi a4), (5, zi a5)] d_Pa_nearestOf_58 rfl (by decide) rfl ?_
            refine z_iload C 1 rfl d_Pa_nearestOf_59 ?_
            refine z_istore C [(4, zi (zI S 58 r6.toNatClampNeg)), (3, zi a5), (6, zi (zI S 58 r6.toNatClampNeg)), (0, zr (some 55)), (1, zi a1), (2, zi a2), (5, zi a5)] d_Pa_nearestOf_61 (by decide) rfl ?_
            refine z_iinc C 6 (a5 + (1 : Int32)) [(5, zi (a5 + (1 : Int32))), (4, zi (zI S 58 r6.toNatClampNeg)), (3, zi a5), (6, zi (zI S 58 r6.toNatClampNeg)), (0, zr (some 55)), (1, zi a1), (2, zi a2)] rfl d_Pa_nearestOf_63 (by first | rfl | decide) (by decide) rfl ?_
            refine z_goto C 9 d_Pa_nearestOf_66 (by decide) ?_
            refine zq_lsub [4, 5, 6, 2, 1, 0] [(0, zr (some 55)), (1, zi a1), (2, zi a2), (3, zi a5), (4, zi (zI S 58 r6.toNatClampNeg)), (5, zi (a5 + (1 : Int32)))] rfl ?_
            exact ih a1 a2 a5 (zI S 58 r6.toNatClampNeg) (a5 + (1 : Int32)) S h
        · refine z_icmp_net C 63 c8 d_Pa_nearestOf_46 (by decide) ?_
          refine z_iinc C 6 (a5 + (1 : Int32)) [(5, zi (a5 + (1 : Int32))), (6, zi (zI S 58 r6.toNatClampNeg)), (0, zr (some 55)), (1, zi a1), (2, zi a2), (3, zi a3), (4, zi a4)] rfl d_Pa_nearestOf_63 (by first | rfl | decide) (by decide) rfl ?_
          refine z_goto C 9 d_Pa_nearestOf_66 (by decide) ?_
          refine zq_lsub [2, 3, 4, 5, 6, 0] [(0, zr (some 55)), (1, zi a1), (2, zi a2), (3, zi a3), (4, zi a4), (5, zi (a5 + (1 : Int32)))] rfl ?_
          exact ih a1 a2 a3 a4 (a5 + (1 : Int32)) S h
set_option maxRecDepth 100000 in
set_option maxHeartbeats 4000000 in
theorem m_Pa_nearestOf (l : Launch) {fu : Nat} {a1 : Int32} {a2 : Int32} {S : zSt} {r : Int32} (h : f_Pa_nearestOf fu a1 a2 S = some r) : zPM l y_Pa_nearestOf b_Pa_nearestOf 7 (some .int) rm_Pa_nearestOf true true [zr (some 55), zi a1, zi a2] S (some (zi r)) S := by
  refine zPM_of (by decide) (Nat.le_of_ble_eq_true rfl) (fun p e s m args below meth c G C hret hname => ?_)
  unfold f_Pa_nearestOf at h
  refine (?_ : zJ p l e rm_Pa_nearestOf s m args below meth c G true 7 0 0 (zQm below G args s rm_Pa_nearestOf true (some (zi r)) S) S 0 [(0, zr (some 55)), (1, zi a1), (2, zi a2)] [])
  refine z_iconst C (-1 : Int32) (by decide) d_Pa_nearestOf_0 ?_
  refine z_istore_n C [(3, zi (-1 : Int32)), (0, zr (some 55)), (1, zi a1), (2, zi a2)] d_Pa_nearestOf_1 rfl (by decide) rfl ?_
  refine z_ldc C zc_4_49 d_Pa_nearestOf_2 ?_
  refine z_istore C [(4, zi (1000000 : Int32)), (3, zi (-1 : Int32)), (0, zr (some 55)), (1, zi a1), (2, zi a2)] d_Pa_nearestOf_4 (by decide) rfl ?_
  refine z_iconst C (0 : Int32) (by decide) d_Pa_nearestOf_6 ?_
  refine z_istore C [(5, zi (0 : Int32)), (4, zi (1000000 : Int32)), (3, zi (-1 : Int32)), (0, zr (some 55)), (1, zi a1), (2, zi a2)] d_Pa_nearestOf_7 (by decide) rfl ?_
  refine zq_lsub [3, 4, 5, 2, 1, 0] [(0, zr (some 55)), (1, zi a1), (2, zi a2), (3, zi (-1 : Int32)), (4, zi (1000000 : Int32)), (5, zi (0 : Int32))] rfl ?_
  exact c_Pa_nearestOf_9 C hret fu  a1 a2 (-1 : Int32) (1000000 : Int32) (0 : Int32) S h
def f_E_share (fu : Nat) (a1 : Int32) (a2 : Int32) (S : zSt) : Option (Int32 × zSt) := zb1 (f_Ps_has 1 a2 S) (fun r2 => if r2 = 0 then some ((-1 : Int32), S) else zb1 (f_Ps_hasAll 1 a1 S) (fun r5 => if r5 = 0 then some ((-1 : Int32), S) else zb1 (f_E_fillPaper fu S) (fun S8 => zb1 (f_Pa_nearestOf fu a1 a2 S8) (fun r10 => some (r10, S8)))))
set_option maxRecDepth 100000 in
set_option maxHeartbeats 4000000 in
theorem m_E_share (l : Launch) {fu : Nat} {a1 : Int32} {a2 : Int32} {S : zSt} {r : Int32} {S1 : zSt} (h : f_E_share fu a1 a2 S = some (r, S1)) : zPM l y_E_share b_E_share 3 (some .int) rm_E_share true true [zr (some 0), zi a1, zi a2] S (some (zi r)) S1 := by
  refine zPM_of (by decide) (Nat.le_of_ble_eq_true rfl) (fun p e s m args below meth c G C hret hname => ?_)
  unfold f_E_share at h
  refine (?_ : zJ p l e rm_E_share s m args below meth c G true 3 0 0 (zQm below G args s rm_E_share true (some (zi r)) S1) S 0 [(0, zr (some 0)), (1, zi a1), (2, zi a2)] [])
  refine z_aload_n C 0 rfl d_E_share_0 rfl ?_
  refine z_getF2 C 0 (by decide) 0 (by decide) rfl 1 0 rfl (1) rfl zp_0 zk_0 zfl_0_12 d_E_share_1 ?_
  refine z_iload_n C 2 rfl d_E_share_4 rfl ?_
  obtain ⟨r2, h1, h⟩ := zb1_some h
  refine z_cV C 5 (by decide) (m_Ps_has l zk_1 (Nat.le_of_ble_eq_true rfl) h1) mf_Ps_has lk_0_126 in_Ps_has se_Ps_has rfl zo_1 zk_1 ⟨rfl, rfl⟩ ⟨by decide, by decide⟩ ⟨Nat.zero_le _, Nat.zero_le _⟩ rfl _ [] rfl (Nat.le_of_ble_eq_true rfl) d_E_share_5 ?_
  rcases zite h with ⟨c3, h⟩ | ⟨c3, h⟩
  · refine z_if_eqt C 22 c3 d_E_share_8 (by decide) ?_
    refine z_iconst C (-1 : Int32) (by decide) d_E_share_22 ?_
    cases h
    exact z_iret C .int hret rfl ⟨Nat.zero_le _, Nat.zero_le _⟩ d_E_share_23
  · refine z_if_eqf C 22 c3 d_E_share_8 (by decide) ?_
    refine z_aload_n C 0 rfl d_E_share_11 rfl ?_
    refine z_getF2 C 0 (by decide) 0 (by decide) rfl 1 0 rfl (1) rfl zp_0 zk_0 zfl_0_12 d_E_share_12 ?_
    refine z_iload_n C 1 rfl d_E_share_15 rfl ?_
    obtain ⟨r5, h4, h⟩ := zb1_some h
    refine z_cV C 5 (by decide) (m_Ps_hasAll l zk_1 (Nat.le_of_ble_eq_true rfl) h4) mf_Ps_hasAll lk_0_245 in_Ps_hasAll se_Ps_hasAll rfl zo_1 zk_1 ⟨rfl, rfl⟩ ⟨by decide, by decide⟩ ⟨Nat.zero_le _, Nat.zero_le _⟩ rfl _ [] rfl (Nat.le_of_ble_eq_true rfl) d_E_share_16 ?_
    rcases zite h with ⟨c6, h⟩ | ⟨c6, h⟩
    · refine z_if_nef C 24 c6 d_E_share_19 (by decide) ?_
      refine z_iconst C (-1 : Int32) (by decide) d_E_share_22 ?_
      cases h
      exact z_iret C .int hret rfl ⟨Nat.zero_le _, Nat.zero_le _⟩ d_E_share_23
    · refine z_if_net C 24 c6 d_E_share_19 (by decide) ?_
      refine z_aload_n C 0 rfl d_E_share_24 rfl ?_
      obtain ⟨S8, h7, h⟩ := zb1_some h
      refine z_cV C 0 (by decide) (m_E_fillPaper l h7) mf_E_fillPaper lk_0_226 in_E_fillPaper se_E_fillPaper rfl zo_0 zk_0 ⟨rfl, rfl⟩ ⟨by decide, by decide⟩ ⟨Nat.zero_le _, Nat.zero_le _⟩ rfl _ [] rfl (Nat.le_of_ble_eq_true rfl) d_E_share_25 ?_
      refine z_aload_n C 0 rfl d_E_share_28 rfl ?_
      refine z_getF2 C 0 (by decide) 9 (by decide) rfl 55 0 rfl (55) rfl zp_0 zk_0 zfl_0_60 d_E_share_29 ?_
      refine z_iload_n C 1 rfl d_E_share_32 rfl ?_
      refine z_iload_n C 2 rfl d_E_share_33 rfl ?_
      obtain ⟨r10, h9, h⟩ := zb1_some h
      refine z_cV C 4 (by decide) (m_Pa_nearestOf l h9) mf_Pa_nearestOf lk_0_271 in_Pa_nearestOf se_Pa_nearestOf rfl zo_55 zk_55 ⟨rfl, rfl⟩ ⟨by decide, by decide⟩ ⟨Nat.zero_le _, Nat.zero_le _⟩ rfl _ [] rfl (Nat.le_of_ble_eq_true rfl) d_E_share_34 ?_
      cases h
      exact z_iret C .int hret rfl ⟨Nat.zero_le _, Nat.zero_le _⟩ d_E_share_37
def f_Pa_isShut (a1 : Int32) (a2 : Int32) (S : zSt) : Option Int32 := zb1 (f_Pa_has a1 S) (fun r2 => if r2 = 0 then some (0 : Int32) else zb1 (f_Pa_has a2 S) (fun r5 => if r5 = 0 then some (0 : Int32) else zb1 (f_Pa_pair a1 a2) (fun r8 => zgd (0 ≤ r8 ∧ r8.toNatClampNeg < 81) (zb1 (f_Pa_pair a1 a2) (fun r11 => zgd (0 ≤ r11 ∧ r11.toNatClampNeg < 81) (if (zI S 56 r8.toNatClampNeg) = (zI S 57 r11.toNatClampNeg) then some (0 : Int32) else some (1 : Int32)))))))
set_option maxRecDepth 100000 in
set_option maxHeartbeats 4000000 in
theorem m_Pa_isShut (l : Launch) {a1 : Int32} {a2 : Int32} {S : zSt} {r : Int32} (h : f_Pa_isShut a1 a2 S = some r) : zPM l y_Pa_isShut b_Pa_isShut 3 (some .boolean) rm_Pa_isShut true true [zr (some 55), zi a1, zi a2] S (some (zi r)) S := by
  refine zPM_of (by decide) (Nat.le_of_ble_eq_true rfl) (fun p e s m args below meth c G C hret hname => ?_)
  unfold f_Pa_isShut at h
  refine (?_ : zJ p l e rm_Pa_isShut s m args below meth c G true 3 0 0 (zQm below G args s rm_Pa_isShut true (some (zi r)) S) S 0 [(0, zr (some 55)), (1, zi a1), (2, zi a2)] [])
  refine z_aload_n C 0 rfl d_Pa_isShut_0 rfl ?_
  refine z_iload_n C 1 rfl d_Pa_isShut_1 rfl ?_
  obtain ⟨r2, h1, h⟩ := zb1_some h
  refine z_cV C 4 (by decide) (m_Pa_has l h1) mf_Pa_has lk_4_61 in_Pa_has se_Pa_has rfl zo_55 zk_55 ⟨rfl, rfl⟩ ⟨by decide, by decide⟩ ⟨Nat.zero_le _, Nat.zero_le _⟩ rfl _ [] rfl (Nat.le_of_ble_eq_true rfl) d_Pa_isShut_2 ?_
  rcases zite h with ⟨c3, h⟩ | ⟨c3, h⟩
  · refine z_if_eqt C 43 c3 d_Pa_isShut_5 (by decide) ?_
    refine z_iconst C (0 : Int32) (by decide) d_Pa_isShut_43 ?_
    cases h
    exact z_iret C .boolean hret rfl ⟨Nat.zero_le _, Nat.zero_le _⟩ d_Pa_isShut_44
  · refine z_if_eqf C 43 c3 d_Pa_isShut_5 (by decide) ?_
    refine z_aload_n C 0 rfl d_Pa_isShut_8 rfl ?_
    refine z_iload_n C 2 rfl d_Pa_isShut_9 rfl ?_
    obtain ⟨r5, h4, h⟩ := zb1_some h
    refine z_cV C 4 (by decide) (m_Pa_has l h4) mf_Pa_has lk_4_61 in_Pa_has se_Pa_has rfl zo_55 zk_55 ⟨rfl, rfl⟩ ⟨by decide, by decide⟩ ⟨Nat.zero_le _, Nat.zero_le _⟩ rfl _ [] rfl (Nat.le_of_ble_eq_true rfl) d_Pa_isShut_10 ?_
    rcases zite h with ⟨c6, h⟩ | ⟨c6, h⟩
    · refine z_if_eqt C 43 c6 d_Pa_isShut_13 (by decide) ?_
      refine z_iconst C (0 : Int32) (by decide) d_Pa_isShut_43 ?_
      cases h
      exact z_iret C .boolean hret rfl ⟨Nat.zero_le _, Nat.zero_le _⟩ d_Pa_isShut_44
    · refine z_if_eqf C 43 c6 d_Pa_isShut_13 (by decide) ?_
      refine z_aload_n C 0 rfl d_Pa_isShut_16 rfl ?_
      refine z_getF2 C 4 (by decide) 1 (by decide) rfl 1 81 rfl (56) rfl zp_55 zk_55 zfl_4_15 d_Pa_isShut_17 ?_
      refine z_iload_n C 1 rfl d_Pa_isShut_20 rfl ?_
      refine z_iload_n C 2 rfl d_Pa_isShut_21 rfl ?_
      obtain ⟨r8, h7, h⟩ := zb1_some h
      refine z_cS C (m_Pa_pair l h7) mf_Pa_pair lk_4_50 st_Pa_pair ⟨rfl, rfl⟩ ⟨by decide, by decide⟩ ⟨Nat.zero_le _, Nat.zero_le _⟩ rfl _ [zr (some 56)] rfl (Nat.le_of_ble_eq_true rfl) d_Pa_isShut_22 ?_
      refine z_fact (fun hSR => ?_)
      obtain ⟨g9, h⟩ := zgd_some h
      refine z_ialoadS C zo_56 zk_56 (za_56 hSR) g9 d_Pa_isShut_25 ?_
      refine z_aload_n C 0 rfl d_Pa_isShut_26 rfl ?_
      refine z_getF2 C 4 (by decide) 2 (by decide) rfl 2 81 rfl (57) rfl zp_55 zk_55 zfl_4_19 d_Pa_isShut_27 ?_
      refine z_iload_n C 1 rfl d_Pa_isShut_30 rfl ?_
      refine z_iload_n C 2 rfl d_Pa_isShut_31 rfl ?_
      obtain ⟨r11, h10, h⟩ := zb1_some h
      refine z_cS C (m_Pa_pair l h10) mf_Pa_pair lk_4_50 st_Pa_pair ⟨rfl, rfl⟩ ⟨by decide, by decide⟩ ⟨Nat.zero_le _, Nat.zero_le _⟩ rfl _ [zr (some 57), zi (zI S 56 r8.toNatClampNeg)] rfl (Nat.le_of_ble_eq_true rfl) d_Pa_isShut_32 ?_
      refine z_fact (fun hSR => ?_)
      obtain ⟨g12, h⟩ := zgd_some h
      refine z_ialoadS C zo_57 zk_57 (za_57 hSR) g12 d_Pa_isShut_35 ?_
      rcases zite h with ⟨c13, h⟩ | ⟨c13, h⟩
      · refine z_icmp_eqt C 43 c13 d_Pa_isShut_36 (by decide) ?_
        refine z_iconst C (0 : Int32) (by decide) d_Pa_isShut_43 ?_
        cases h
        exact z_iret C .boolean hret rfl ⟨Nat.zero_le _, Nat.zero_le _⟩ d_Pa_isShut_44
      · refine z_icmp_eqf C 43 c13 d_Pa_isShut_36 (by decide) ?_
        refine z_iconst C (1 : Int32) (by decide) d_Pa_isShut_39 ?_
        refine z_goto C 44 d_Pa_isShut_40 (by decide) ?_
        cases h
        exact z_iret C .boolean hret rfl ⟨Nat.zero_le _, Nat.zero_le _⟩ d_Pa_isShut_44
def f_Pa_daysThrough (a1 : Int32) (a2 : Int32) (S : zSt) : Option Int32 := zb1 (f_Pa_has a1 S) (fun r2 => if r2 = 0 then some (1000000 : Int32) else zb1 (f_Pa_has a2 S) (fun r5 => if r5 = 0 then some (1000000 : Int32) else zb1 (f_Pa_pair a1 a2) (fun r8 => zgd (0 ≤ r8 ∧ r8.toNatClampNeg < 81) (some (zI S 56 r8.toNatClampNeg)))))
set_option maxRecDepth 100000 in
set_option maxHeartbeats 4000000 in
theorem m_Pa_daysThrough (l : Launch) {a1 : Int32} {a2 : Int32} {S : zSt} {r : Int32} (h : f_Pa_daysThrough a1 a2 S = some r) : zPM l y_Pa_daysThrough b_Pa_daysThrough 3 (some .int) rm_Pa_daysThrough true true [zr (some 55), zi a1, zi a2] S (some (zi r)) S := by
  refine zPM_of (by decide) (Nat.le_of_ble_eq_true rfl) (fun p e s m args below meth c G C hret hname => ?_)
  unfold f_Pa_daysThrough at h
  refine (?_ : zJ p l e rm_Pa_daysThrough s m args below meth c G true 3 0 0 (zQm below G args s rm_Pa_daysThrough true (some (zi r)) S) S 0 [(0, zr (some 55)), (1, zi a1), (2, zi a2)] [])
  refine z_aload_n C 0 rfl d_Pa_daysThrough_0 rfl ?_
  refine z_iload_n C 1 rfl d_Pa_daysThrough_1 rfl ?_
  obtain ⟨r2, h1, h⟩ := zb1_some h
  refine z_cV C 4 (by decide) (m_Pa_has l h1) mf_Pa_has lk_4_61 in_Pa_has se_Pa_has rfl zo_55 zk_55 ⟨rfl, rfl⟩ ⟨by decide, by decide⟩ ⟨Nat.zero_le _, Nat.zero_le _⟩ rfl _ [] rfl (Nat.le_of_ble_eq_true rfl) d_Pa_daysThrough_2 ?_
  rcases zite h with ⟨c3, h⟩ | ⟨c3, h⟩
  · refine z_if_eqt C 29 c3 d_Pa_daysThrough_5 (by decide) ?_
    refine z_ldc C zc_4_49 d_Pa_daysThrough_29 ?_
    cases h
    exact z_iret C .int hret rfl ⟨Nat.zero_le _, Nat.zero_le _⟩ d_Pa_daysThrough_31
  · refine z_if_eqf C 29 c3 d_Pa_daysThrough_5 (by decide) ?_
    refine z_aload_n C 0 rfl d_Pa_daysThrough_8 rfl ?_
    refine z_iload_n C 2 rfl d_Pa_daysThrough_9 rfl ?_
    obtain ⟨r5, h4, h⟩ := zb1_some h
    refine z_cV C 4 (by decide) (m_Pa_has l h4) mf_Pa_has lk_4_61 in_Pa_has se_Pa_has rfl zo_55 zk_55 ⟨rfl, rfl⟩ ⟨by decide, by decide⟩ ⟨Nat.zero_le _, Nat.zero_le _⟩ rfl _ [] rfl (Nat.le_of_ble_eq_true rfl) d_Pa_daysThrough_10 ?_
    rcases zite h with ⟨c6, h⟩ | ⟨c6, h⟩
    · refine z_if_eqt C 29 c6 d_Pa_daysThrough_13 (by decide) ?_
      refine z_ldc C zc_4_49 d_Pa_daysThrough_29 ?_
      cases h
      exact z_iret C .int hret rfl ⟨Nat.zero_le _, Nat.zero_le _⟩ d_Pa_daysThrough_31
    · refine z_if_eqf C 29 c6 d_Pa_daysThrough_13 (by decide) ?_
      refine z_aload_n C 0 rfl d_Pa_daysThrough_16 rfl ?_
      refine z_getF2 C 4 (by decide) 1 (by decide) rfl 1 81 rfl (56) rfl zp_55 zk_55 zfl_4_15 d_Pa_daysThrough_17 ?_
      refine z_iload_n C 1 rfl d_Pa_daysThrough_20 rfl ?_
      refine z_iload_n C 2 rfl d_Pa_daysThrough_21 rfl ?_
      obtain ⟨r8, h7, h⟩ := zb1_some h
      refine z_cS C (m_Pa_pair l h7) mf_Pa_pair lk_4_50 st_Pa_pair ⟨rfl, rfl⟩ ⟨by decide, by decide⟩ ⟨Nat.zero_le _, Nat.zero_le _⟩ rfl _ [zr (some 56)] rfl (Nat.le_of_ble_eq_true rfl) d_Pa_daysThrough_22 ?_
      refine z_fact (fun hSR => ?_)
      obtain ⟨g9, h⟩ := zgd_some h
      refine z_ialoadS C zo_56 zk_56 (za_56 hSR) g9 d_Pa_daysThrough_25 ?_
      refine z_goto C 31 d_Pa_daysThrough_26 (by decide) ?_
      cases h
      exact z_iret C .int hret rfl ⟨Nat.zero_le _, Nat.zero_le _⟩ d_Pa_daysThrough_31
def f_Ou_leftFrom (a1 : Int32) (a2 : Int32) (S : zSt) : Option Int32 := if a2 < 0 then some (1000000 : Int32) else if ((a2 * (9 : Int32)) + a1) < 0 then some (1000000 : Int32) else if (90 : Int32) ≤ ((a2 * (9 : Int32)) + a1) then some (1000000 : Int32) else zgd (0 ≤ ((a2 * (9 : Int32)) + a1) ∧ ((a2 * (9 : Int32)) + a1).toNatClampNeg < 90) (some (zI S 66 ((a2 * (9 : Int32)) + a1).toNatClampNeg))
set_option maxRecDepth 100000 in
set_option maxHeartbeats 4000000 in
theorem m_Ou_leftFrom (l : Launch) {a1 : Int32} {a2 : Int32} {S : zSt} {r : Int32} (h : f_Ou_leftFrom a1 a2 S = some r) : zPM l y_Ou_leftFrom b_Ou_leftFrom 4 (some .int) rm_Ou_leftFrom true true [zr (some 65), zi a1, zi a2] S (some (zi r)) S := by
  refine zPM_of (by decide) (Nat.le_of_ble_eq_true rfl) (fun p e s m args below meth c G C hret hname => ?_)
  unfold f_Ou_leftFrom at h
  refine (?_ : zJ p l e rm_Ou_leftFrom s m args below meth c G true 4 0 0 (zQm below G args s rm_Ou_leftFrom true (some (zi r)) S) S 0 [(0, zr (some 65)), (1, zi a1), (2, zi a2)] [])
  refine z_iload_n C 2 rfl d_Ou_leftFrom_0 rfl ?_
  refine z_bipush C (9 : Int32) (by decide) d_Ou_leftFrom_1 ?_
  refine z_imul C d_Ou_leftFrom_3 ?_
  refine z_iload_n C 1 rfl d_Ou_leftFrom_4 rfl ?_
  refine z_iadd C d_Ou_leftFrom_5 ?_
  refine z_istore_n C [(3, zi ((a2 * (9 : Int32)) + a1)), (0, zr (some 65)), (1, zi a1), (2, zi a2)] d_Ou_leftFrom_6 rfl (by decide) rfl ?_
  refine z_iload_n C 3 rfl d_Ou_leftFrom_7 rfl ?_
  rcases zite h with ⟨c1, h⟩ | ⟨c1, h⟩
  · refine z_if_ltt C 33 c1 d_Ou_leftFrom_8 (by decide) ?_
    refine z_ldc C zc_3_19 d_Ou_leftFrom_33 ?_
    cases h
    exact z_iret C .int hret rfl ⟨Nat.zero_le _, Nat.zero_le _⟩ d_Ou_leftFrom_35
  · refine z_if_ltf C 33 c1 d_Ou_leftFrom_8 (by decide) ?_
    refine z_iload_n C 0 rfl d_Ou_leftFrom_11 rfl ?_
    rcases zite h with ⟨c2, h⟩ | ⟨c2, h⟩
    · refine z_if_ltt C 33 c2 d_Ou_leftFrom_12 (by decide) ?_
      refine z_ldc C zc_3_19 d_Ou_leftFrom_33 ?_
      cases h
      exact z_iret C .int hret rfl ⟨Nat.zero_le _, Nat.zero_le _⟩ d_Ou_leftFrom_35
    · refine z_if_ltf C 33 c2 d_Ou_leftFrom_12 (by decide) ?_
      refine z_iload_n C 0 rfl d_Ou_leftFrom_15 rfl ?_
      refine z_aload_n C 1 rfl d_Ou_leftFrom_16 rfl ?_
      refine z_getF2 C 3 (by decide) 0 (by decide) rfl 1 90 rfl (66) rfl zp_65 zk_65 zfl_3_9 d_Ou_leftFrom_17 ?_
      refine z_fact (fun hSR => ?_)
      refine z_alen50S C (90 : Int32) (by decide) zo_66 zk_66 (za_66 hSR) d_Ou_leftFrom_20 ?_
      rcases zite h with ⟨c3, h⟩ | ⟨c3, h⟩
      · refine z_icmp_get C 33 c3 d_Ou_leftFrom_21 (by decide) ?_
        refine z_ldc C zc_3_19 d_Ou_leftFrom_33 ?_
        cases h
        exact z_iret C .int hret rfl ⟨Nat.zero_le _, Nat.zero_le _⟩ d_Ou_leftFrom_35
      · refine z_icmp_gef C 33 c3 d_Ou_leftFrom_21 (by decide) ?_
        refine z_aload_n C 1 rfl d_Ou_leftFrom_24 rfl ?_
        refine z_getF2 C 3 (by decide) 0 (by decide) rfl 1 90 rfl (66) rfl zp_65 zk_65 zfl_3_9 d_Ou_leftFrom_25 ?_
        refine z_iload_n C 0 rfl d_Ou_leftFrom_28 rfl ?_
        refine z_fact (fun hSR => ?_)
        obtain ⟨g4, h⟩ := zgd_some h
        refine z_ialoadS C zo_66 zk_66 (za_66 hSR) g4 d_Ou_leftFrom_29 ?_
        refine z_goto C 35 d_Ou_leftFrom_30 (by decide) ?_
        cases h
        exact z_iret C .int hret rfl ⟨Nat.zero_le _, Nat.zero_le _⟩ d_Ou_leftFrom_35
def f_Ou_daysBy (a2 : Int32) (a3 : Int32) (a4 : Int32) (S : zSt) : Option Int32 := zb1 (f_Pa_isShut a2 a3 S) (fun r2 => if r2 = 0 then zb1 (f_Pa_daysThrough a2 a3 S) (fun r5 => zb1 (f_Ou_leftFrom a3 a4 S) (fun r7 => some (r5 + r7))) else zb1 (f_Pa_daysThrough a2 a3 S) (fun r9 => zb1 (f_Ou_leftFrom a3 (a4 - (1 : Int32)) S) (fun r11 => some (r9 + r11))))
set_option maxRecDepth 100000 in
set_option maxHeartbeats 4000000 in
theorem m_Ou_daysBy (l : Launch) {a2 : Int32} {a3 : Int32} {a4 : Int32} {S : zSt} {r : Int32} (h : f_Ou_daysBy a2 a3 a4 S = some r) : zPM l y_Ou_daysBy b_Ou_daysBy 6 (some .int) rm_Ou_daysBy true true [zr (some 65), zr (some 55), zi a2, zi a3, zi a4] S (some (zi r)) S := by
  refine zPM_of (by decide) (Nat.le_of_ble_eq_true rfl) (fun p e s m args below meth c G C hret hname => ?_)
  unfold f_Ou_daysBy at h
  refine (?_ : zJ p l e rm_Ou_daysBy s m args below meth c G true 6 0 0 (zQm below G args s rm_Ou_daysBy true (some (zi r)) S) S 0 [(0, zr (some 65)), (1, zr (some 55)), (2, zi a2), (3, zi a3), (4, zi a4)] [])
  refine z_aload_n C 1 rfl d_Ou_daysBy_0 rfl ?_
  refine z_iload_n C 2 rfl d_Ou_daysBy_1 rfl ?_
  refine z_iload_n C 3 rfl d_Ou_daysBy_2 rfl ?_
  obtain ⟨r2, h1, h⟩ := zb1_some h
  refine z_cV C 4 (by decide) (m_Pa_isShut l h1) mf_Pa_isShut lk_3_34 in_Pa_isShut se_Pa_isShut rfl zo_55 zk_55 ⟨rfl, rfl⟩ ⟨by decide, by decide⟩ ⟨Nat.zero_le _, Nat.zero_le _⟩ rfl _ [] rfl (Nat.le_of_ble_eq_true rfl) d_Ou_daysBy_3 ?_
  rcases zite h with ⟨c3, h⟩ | ⟨c3, h⟩
  · refine z_if_eqt C 16 c3 d_Ou_daysBy_6 (by decide) ?_
    refine z_iload C 4 rfl d_Ou_daysBy_16 ?_
    refine z_istore C [(5, zi a4), (0, zr (some 65)), (1, zr (some 55)), (2, zi a2), (3, zi a3), (4, zi a4)] d_Ou_daysBy_18 (by decide) rfl ?_
    refine z_aload_n C 2 rfl d_Ou_daysBy_20 rfl ?_
    refine z_iload_n C 3 rfl d_Ou_daysBy_21 rfl ?_
    refine z_iload_n C 4 rfl d_Ou_daysBy_22 rfl ?_
    obtain ⟨r5, h4, h⟩ := zb1_some h
    refine z_cV C 4 (by decide) (m_Pa_daysThrough l h4) mf_Pa_daysThrough lk_3_40 in_Pa_daysThrough se_Pa_daysThrough rfl zo_55 zk_55 ⟨rfl, rfl⟩ ⟨by decide, by decide⟩ ⟨Nat.zero_le _, Nat.zero_le _⟩ rfl _ [] rfl (Nat.le_of_ble_eq_true rfl) d_Ou_daysBy_23 ?_
    refine z_aload_n C 1 rfl d_Ou_daysBy_26 rfl ?_
    refine z_iload_n C 4 rfl d_Ou_daysBy_27 rfl ?_
    refine z_iload C 0 rfl d_Ou_daysBy_28 ?_
    obtain ⟨r7, h6, h⟩ := zb1_some h
    refine z_cV C 3 (by decide) (m_Ou_leftFrom l h6) mf_Ou_leftFrom lk_3_44 in_Ou_leftFrom se_Ou_leftFrom rfl zo_65 zk_65 ⟨rfl, rfl⟩ ⟨by decide, by decide⟩ ⟨Nat.zero_le _, Nat.zero_le _⟩ rfl _ [zi r5] rfl (Nat.le_of_ble_eq_true rfl) d_Ou_daysBy_30 ?_
    refine z_iadd C d_Ou_daysBy_33 ?_
    cases h
    exact z_iret C .int hret rfl ⟨Nat.zero_le _, Nat.zero_le _⟩ d_Ou_daysBy_34
  · refine z_if_eqf C 16 c3 d_Ou_daysBy_6 (by decide) ?_
    refine z_iload C 4 rfl d_Ou_daysBy_9 ?_
    refine z_iconst C (1 : Int32) (by decide) d_Ou_daysBy_11 ?_
    refine z_isub C d_Ou_daysBy_12 ?_
    refine z_goto C 18 d_Ou_daysBy_13 (by decide) ?_
    refine z_istore C [(5, zi (a4 - (1 : Int32))), (0, zr (some 65)), (1, zr (some 55)), (2, zi a2), (3, zi a3), (4, zi a4)] d_Ou_daysBy_18 (by decide) rfl ?_
    refine z_aload_n C 2 rfl d_Ou_daysBy_20 rfl ?_
    refine z_iload_n C 3 rfl d_Ou_daysBy_21 rfl ?_
    refine z_iload_n C 4 rfl d_Ou_daysBy_22 rfl ?_
    obtain ⟨r9, h8, h⟩ := zb1_some h
    refine z_cV C 4 (by decide) (m_Pa_daysThrough l h8) mf_Pa_daysThrough lk_3_40 in_Pa_daysThrough se_Pa_daysThrough rfl zo_55 zk_55 ⟨rfl, rfl⟩ ⟨by decide, by decide⟩ ⟨Nat.zero_le _, Nat.zero_le _⟩ rfl _ [] rfl (Nat.le_of_ble_eq_true rfl) d_Ou_daysBy_23 ?_
    refine z_aload_n C 1 rfl d_Ou_daysBy_26 rfl ?_
    refine z_iload_n C 4 rfl d_Ou_daysBy_27 rfl ?_
    refine z_iload C 0 rfl d_Ou_daysBy_28 ?_
    obtain ⟨r11, h10, h⟩ := zb1_some h
    refine z_cV C 3 (by decide) (m_Ou_leftFrom l h10) mf_Ou_leftFrom lk_3_44 in_Ou_leftFrom se_Ou_leftFrom rfl zo_65 zk_65 ⟨rfl, rfl⟩ ⟨by decide, by decide⟩ ⟨Nat.zero_le _, Nat.zero_le _⟩ rfl _ [zi r9] rfl (Nat.le_of_ble_eq_true rfl) d_Ou_daysBy_30 ?_
    refine z_iadd C d_Ou_daysBy_33 ?_
    cases h
    exact z_iret C .int hret rfl ⟨Nat.zero_le _, Nat.zero_le _⟩ d_Ou_daysBy_34
def f_Ou_shorten_11 (fu : Nat) (k2 : Int32 → Int32 → zSt → Option zSt) : Nat → Int32 → Int32 → Int32 → zSt → Option zSt
  | 0, _, _, _, _ => none
  | n + 1, a2, a3, a4, S => if (9 : Int32) ≤ a4 then k2 a2 (a3 + (1 : Int32)) S else zb1 (f_Ou_daysBy a3 a4 a2 S) (fun r3 => zgd (0 ≤ ((a2 * (9 : Int32)) + a3) ∧ ((a2 * (9 : Int32)) + a3).toNatClampNeg < 90) (if (zI S 66 ((a2 * (9 : Int32)) + a3).toNatClampNeg) ≤ r3 then f_Ou_shorten_11 fu k2 n a2 a3 (a4 + (1 : Int32)) S else zgd (0 ≤ ((a2 * (9 : Int32)) + a3) ∧ ((a2 * (9 : Int32)) + a3).toNatClampNeg < 90) (f_Ou_shorten_11 fu k2 n a2 a3 (a4 + (1 : Int32)) (zwI S 66 ((a2 * (9 : Int32)) + a3).toNatClampNeg r3))))
def f_Ou_shorten_2 (fu : Nat) : Nat → Int32 → Int32 → zSt → Option zSt
  | 0, _, _, _ => none
  | n + 1, a2, a3, S => if (9 : Int32) ≤ a3 then some S else f_Ou_shorten_11 fu (f_Ou_shorten_2 fu n) fu a2 a3 (0 : Int32) S
def f_Ou_shorten (fu : Nat) (a2 : Int32) (S : zSt) : Option zSt := f_Ou_shorten_2 fu fu a2 (0 : Int32) S
set_option maxRecDepth 100000 in
set_option maxHeartbeats 4000000 in
theorem c_Ou_shorten_11 {p : Program} {l : Launch} {e : Env} {s : State} {m : MethodId} {args : Array Value} {below : List Frame} {meth : Method} {c : Code} {G : zG} (C : zC p s m args meth c G b_Ou_shorten 6 y_Ou_shorten.cls) (hret : meth.sig.returnType = none) {fu : Nat} {S1 : zSt} {k2 : Int32 → Int32 → zSt → Option zSt} (hk2 : ∀ (a2 : Int32) (a3 : Int32) (S : zSt) , k2 a2 a3 S = some S1 → zJ p l e rm_Ou_shorten s m args below meth c G true 6 0 0 (zQm below G args s rm_Ou_shorten true none S1) S 2 [(0, zr (some 65)), (1, zr (some 55)), (2, zi a2), (3, zi a3)] []) : ∀ (n : Nat) (a2 : Int32) (a3 : Int32) (a4 : Int32) (S : zSt) , f_Ou_shorten_11 fu k2 n a2 a3 a4 S = some S1 → zJ p l e rm_Ou_shorten s m args below meth c G true 6 0 0 (zQm below G args s rm_Ou_shorten true none S1) S 11 [(0, zr (some 65)), (1, zr (some 55)), (2, zi a2), (3, zi a3), (4, zi a4)] [] := by
  intro n
  induction n with
  | zero =>
    intro a2 a3 a4 S h
    cases h
  | succ n ih =>
    intro a2 a3 a4 S h
    rw [f_Ou_shorten_11] at h
    refine z_iload C 4 rfl d_Ou_shorten_11 ?_
    refine z_bipush C (9 : Int32) (by decide) d_Ou_shorten_13 ?_
    rcases zite h with ⟨c1, h⟩ | ⟨c1, h⟩
    · refine z_icmp_get C 64 c1 d_Ou_shorten_15 (by decide) ?_
      refine z_iinc C 3 (a3 + (1 : Int32)) [(3, zi (a3 + (1 : Int32))), (0, zr (some 65)), (1, zr (some 55)), (2, zi a2), (4, zi a4)] rfl d_Ou_shorten_64 (by first | rfl | decide) (by decide) rfl ?_
      refine z_goto C 2 d_Ou_shorten_67 (by decide) ?_
      refine zq_lsub [1, 2, 3, 0] [(0, zr (some 65)), (1, zr (some 55)), (2, zi a2), (3, zi (a3 + (1 : Int32)))] rfl ?_
      exact hk2 a2 (a3 + (1 : Int32)) S h
    · refine z_icmp_gef C 64 c1 d_Ou_shorten_15 (by decide) ?_
      refine z_aload_n C 0 rfl d_Ou_shorten_18 rfl ?_
      refine z_aload_n C 1 rfl d_Ou_shorten_19 rfl ?_
      refine z_iload_n C 3 rfl d_Ou_shorten_20 rfl ?_
      refine z_iload C 4 rfl d_Ou_shorten_21 ?_
      refine z_iload_n C 2 rfl d_Ou_shorten_23 rfl ?_
      obtain ⟨r3, h2, h⟩ := zb1_some h
      refine z_cV C 3 (by decide) (m_Ou_daysBy l h2) mf_Ou_daysBy lk_3_30 in_Ou_daysBy se_Ou_daysBy rfl zo_65 zk_65 ⟨rfl, rfl⟩ ⟨by decide, by decide⟩ ⟨Nat.zero_le _, Nat.zero_le _⟩ rfl _ [] rfl (Nat.le_of_ble_eq_true rfl) d_Ou_shorten_24 ?_
      refine z_istore C [(5, zi r3), (0, zr (some 65)), (1, zr (some 55)), (2, zi a2), (3, zi a3), (4, zi a4)] d_Ou_shorten_27 (by decide) rfl ?_
      refine z_iload C 0 rfl d_Ou_shorten_29 ?_
      refine z_aload_n C 1 rfl d_Ou_shorten_31 rfl ?_
      refine z_getF2 C 3 (by decide) 0 (by decide) rfl 1 90 rfl (66) rfl zp_65 zk_65 zfl_3_9 d_Ou_shorten_32 ?_
      refine z_iload_n C 3 rfl d_Ou_shorten_35 rfl ?_
      refine z_bipush C (9 : Int32) (by decide) d_Ou_shorten_36 ?_
      refine z_imul C d_Ou_shorten_38 ?_
      refine z_iload_n C 4 rfl d_Ou_shorten_39 rfl ?_
      refine z_iadd C d_Ou_shorten_40 ?_
      refine z_fact (fun hSR => ?_)
      obtain ⟨g4, h⟩ := zgd_some h
      refine z_ialoadS C zo_66 zk_66 (za_66 hSR) g4 d_Ou_shorten_41 ?_
      rcases zite h with ⟨c5, h⟩ | ⟨c5, h⟩
      · refine z_icmp_get C 58 c5 d_Ou_shorten_42 (by decide) ?_
        refine z_iinc C 5 (a4 + (1 : Int32)) [(4, zi (a4 + (1 : Int32))), (5, zi r3), (0, zr (some 65)), (1, zr (some 55)), (2, zi a2), (3, zi a3)] rfl d_Ou_shorten_58 (by first | rfl | decide) (by decide) rfl ?_
        refine z_goto C 11 d_Ou_shorten_61 (by decide) ?_
        refine zq_lsub [2, 3, 4, 5, 0] [(0, zr (some 65)), (1, zr (some 55)), (2, zi a2), (3, zi a3), (4, zi (a4 + (1 : Int32)))] rfl ?_
        exact ih a2 a3 (a4 + (1 : Int32)) S h
      · refine z_icmp_gef C 58 c5 d_Ou_shorten_42 (by decide) ?_
        refine z_aload_n C 1 rfl d_Ou_shorten_45 rfl ?_
        refine z_getF2 C 3 (by decide) 0 (by decide) rfl 1 90 rfl (66) rfl zp_65 zk_65 zfl_3_9 d_Ou_shorten_46 ?_
        refine z_iload_n C 3 rfl d_Ou_shorten_49 rfl ?_
        refine z_bipush C (9 : Int32) (by decide) d_Ou_shorten_50 ?_
        refine z_imul C d_Ou_shorten_52 ?_
        refine z_iload_n C 4 rfl d_Ou_shorten_53 rfl ?_
        refine z_iadd C d_Ou_shorten_54 ?_
        refine z_iload C 0 rfl d_Ou_shorten_55 ?_
        refine z_fact (fun hSR => ?_)
        obtain ⟨g6, h⟩ := zgd_some h
        refine z_iastoreS C zo_66 zk_66 (za_66 hSR) g6 d_Ou_shorten_57 ?_
        refine z_iinc C 5 (a4 + (1 : Int32)) [(4, zi (a4 + (1 : Int32))), (5, zi r3), (0, zr (some 65)), (1, zr (some 55)), (2, zi a2), (3, zi a3)] rfl d_Ou_shorten_58 (by first | rfl | decide) (by decide) rfl ?_
        refine z_goto C 11 d_Ou_shorten_61 (by decide) ?_
        refine zq_lsub [2, 3, 4, 5, 0] [(0, zr (some 65)), (1, zr (some 55)), (2, zi a2), (3, zi a3), (4, zi (a4 + (1 : Int32)))] rfl ?_
        exact ih a2 a3 (a4 + (1 : Int32)) (zwI S 66 ((a2 * (9 : Int32)) + a3).toNatClampNeg r3) h
set_option maxRecDepth 100000 in
set_option maxHeartbeats 4000000 in
theorem c_Ou_shorten_2 {p : Program} {l : Launch} {e : Env} {s : State} {m : MethodId} {args : Array Value} {below : List Frame} {meth : Method} {c : Code} {G : zG} (C : zC p s m args meth c G b_Ou_shorten 6 y_Ou_shorten.cls) (hret : meth.sig.returnType = none) {fu : Nat} {S1 : zSt} : ∀ (n : Nat) (a2 : Int32) (a3 : Int32) (S : zSt) , f_Ou_shorten_2 fu n a2 a3 S = some S1 → zJ p l e rm_Ou_shorten s m args below meth c G true 6 0 0 (zQm below G args s rm_Ou_shorten true none S1) S 2 [(0, zr (some 65)), (1, zr (some 55)), (2, zi a2), (3, zi a3)] [] := by
  intro n
  induction n with
  | zero =>
    intro a2 a3 S h
    cases h
  | succ n ih =>
    intro a2 a3 S h
    rw [f_Ou_shorten_2] at h
    refine z_iload_n C 3 rfl d_Ou_shorten_2 rfl ?_
    refine z_bipush C (9 : Int32) (by decide) d_Ou_shorten_3 ?_
    rcases zite h with ⟨c1, h⟩ | ⟨c1, h⟩
    · refine z_icmp_get C 70 c1 d_Ou_shorten_5 (by decide) ?_
      cases h
      exact z_vret C hret ⟨Nat.zero_le _, Nat.zero_le _⟩ d_Ou_shorten_70
    · refine z_icmp_gef C 70 c1 d_Ou_shorten_5 (by decide) ?_
      refine z_iconst C (0 : Int32) (by decide) d_Ou_shorten_8 ?_
      refine z_istore C [(4, zi (0 : Int32)), (0, zr (some 65)), (1, zr (some 55)), (2, zi a2), (3, zi a3)] d_Ou_shorten_9 (by decide) rfl ?_
      refine zq_lsub [1, 2, 3, 4, 0] [(0, zr (some 65)), (1, zr (some 55)), (2, zi a2), (3, zi a3), (4, zi (0 : Int32))] rfl ?_
      exact c_Ou_shorten_11 C hret (fun z0 z1 zS zh => ih z0 z1 zS zh) fu  a2 a3 (0 : Int32) S h
set_option maxRecDepth 100000 in
set_option maxHeartbeats 4000000 in
theorem m_Ou_shorten (l : Launch) {fu : Nat} {a2 : Int32} {S : zSt} {S1 : zSt} (h : f_Ou_shorten fu a2 S = some S1) : zPM l y_Ou_shorten b_Ou_shorten 6 none rm_Ou_shorten true true [zr (some 65), zr (some 55), zi a2] S none S1 := by
  refine zPM_of (by decide) (Nat.le_of_ble_eq_true rfl) (fun p e s m args below meth c G C hret hname => ?_)
  unfold f_Ou_shorten at h
  refine (?_ : zJ p l e rm_Ou_shorten s m args below meth c G true 6 0 0 (zQm below G args s rm_Ou_shorten true none S1) S 0 [(0, zr (some 65)), (1, zr (some 55)), (2, zi a2)] [])
  refine z_iconst C (0 : Int32) (by decide) d_Ou_shorten_0 ?_
  refine z_istore_n C [(3, zi (0 : Int32)), (0, zr (some 65)), (1, zr (some 55)), (2, zi a2)] d_Ou_shorten_1 rfl (by decide) rfl ?_
  refine zq_lsub [1, 2, 3, 0] [(0, zr (some 65)), (1, zr (some 55)), (2, zi a2), (3, zi (0 : Int32))] rfl ?_
  exact c_Ou_shorten_2 C hret fu  a2 (0 : Int32) S h
def f_Ou_fill_48 (fu : Nat) (k27 : Int32 → zSt → Option zSt) : Nat → Int32 → Int32 → zSt → Option zSt
  | 0, _, _, _ => none
  | n + 1, a3, a4, S => if (9 : Int32) ≤ a4 then k27 (a3 + (1 : Int32)) S else zb1 (f_Ou_shorten fu a3 S) (fun S3 => f_Ou_fill_48 fu k27 n a3 (a4 + (1 : Int32)) S3)
def f_Ou_fill_27 (fu : Nat) : Nat → Int32 → zSt → Option zSt
  | 0, _, _ => none
  | n + 1, a3, S => if (zI S 65 1) < a3 then some S else zgd (0 ≤ (a3 * (9 : Int32)) ∧ (a3 * (9 : Int32)).toNatClampNeg < 90) (f_Ou_fill_48 fu (f_Ou_fill_27 fu n) fu a3 (0 : Int32) (zwI S 66 (a3 * (9 : Int32)).toNatClampNeg (0 : Int32)))
def f_Ou_fill (fu : Nat) (a2 : Int32) (S : zSt) : Option zSt := if (9 : Int32) ≤ a2 then zb1 (f_Ar_fillI fu 66 (1000000 : Int32) (zwI S 65 1 (9 : Int32))) (fun S3 => f_Ou_fill_27 fu fu (0 : Int32) S3) else zb1 (f_Ar_fillI fu 66 (1000000 : Int32) (zwI S 65 1 a2)) (fun S5 => f_Ou_fill_27 fu fu (0 : Int32) S5)
set_option maxRecDepth 100000 in
set_option maxHeartbeats 4000000 in
theorem c_Ou_fill_48 {p : Program} {l : Launch} {e : Env} {s : State} {m : MethodId} {args : Array Value} {below : List Frame} {meth : Method} {c : Code} {G : zG} (C : zC p s m args meth c G b_Ou_fill 5 y_Ou_fill.cls) (hret : meth.sig.returnType = none) {fu : Nat} {S1 : zSt} {k27 : Int32 → zSt → Option zSt} (hk27 : ∀ (a3 : Int32) (S : zSt) , k27 a3 S = some S1 → zJ p l e rm_Ou_fill s m args below meth c G true 5 0 0 (zQm below G args s rm_Ou_fill true none S1) S 27 [(0, zr (some 65)), (1, zr (some 55)), (3, zi a3)] []) : ∀ (n : Nat) (a3 : Int32) (a4 : Int32) (S : zSt) , f_Ou_fill_48 fu k27 n a3 a4 S = some S1 → zJ p l e rm_Ou_fill s m args below meth c G true 5 0 0 (zQm below G args s rm_Ou_fill true none S1) S 48 [(0, zr (some 65)), (1, zr (some 55)), (3, zi a3), (4, zi a4)] [] := by
  intro n
  induction n with
  | zero =>
    intro a3 a4 S h
    cases h
  | succ n ih =>
    intro a3 a4 S h
    rw [f_Ou_fill_48] at h
    refine z_iload C 3 rfl d_Ou_fill_48 ?_
    refine z_bipush C (9 : Int32) (by decide) d_Ou_fill_50 ?_
    rcases zite h with ⟨c1, h⟩ | ⟨c1, h⟩
    · refine z_icmp_get C 67 c1 d_Ou_fill_52 (by decide) ?_
      refine z_iinc C 2 (a3 + (1 : Int32)) [(3, zi (a3 + (1 : Int32))), (0, zr (some 65)), (1, zr (some 55)), (4, zi a4)] rfl d_Ou_fill_67 (by first | rfl | decide) (by decide) rfl ?_
      refine z_goto C 27 d_Ou_fill_70 (by decide) ?_
      refine zq_lsub [1, 2, 0] [(0, zr (some 65)), (1, zr (some 55)), (3, zi (a3 + (1 : Int32)))] rfl ?_
      exact hk27 (a3 + (1 : Int32)) S h
    · refine z_icmp_gef C 67 c1 d_Ou_fill_52 (by decide) ?_
      refine z_aload_n C 0 rfl d_Ou_fill_55 rfl ?_
      refine z_aload_n C 1 rfl d_Ou_fill_56 rfl ?_
      refine z_iload_n C 2 rfl d_Ou_fill_57 rfl ?_
      obtain ⟨S3, h2, h⟩ := zb1_some h
      refine z_cV C 3 (by decide) (m_Ou_shorten l h2) mf_Ou_shorten lk_3_26 in_Ou_shorten se_Ou_shorten rfl zo_65 zk_65 ⟨rfl, rfl⟩ ⟨by decide, by decide⟩ ⟨Nat.zero_le _, Nat.zero_le _⟩ rfl _ [] rfl (Nat.le_of_ble_eq_true rfl) d_Ou_fill_58 ?_
      refine z_iinc C 3 (a4 + (1 : Int32)) [(4, zi (a4 + (1 : Int32))), (0, zr (some 65)), (1, zr (some 55)), (3, zi a3)] rfl d_Ou_fill_61 (by first | rfl | decide) (by decide) rfl ?_
      refine z_goto C 48 d_Ou_fill_64 (by decide) ?_
      refine zq_lsub [1, 2, 3, 0] [(0, zr (some 65)), (1, zr (some 55)), (3, zi a3), (4, zi (a4 + (1 : Int32)))] rfl ?_
      exact ih a3 (a4 + (1 : Int32)) S3 h
set_option maxRecDepth 100000 in
set_option maxHeartbeats 4000000 in
theorem c_Ou_fill_27 {p : Program} {l : Launch} {e : Env} {s : State} {m : MethodId} {args : Array Value} {below : List Frame} {meth : Method} {c : Code} {G : zG} (C : zC p s m args meth c G b_Ou_fill 5 y_Ou_fill.cls) (hret : meth.sig.returnType = none) {fu : Nat} {S1 : zSt} : ∀ (n : Nat) (a3 : Int32) (S : zSt) , f_Ou_fill_27 fu n a3 S = some S1 → zJ p l e rm_Ou_fill s m args below meth c G true 5 0 0 (zQm below G args s rm_Ou_fill true none S1) S 27 [(0, zr (some 65)), (1, zr (some 55)), (3, zi a3)] [] := by
  intro n
  induction n with
  | zero =>
    intro a3 S h
    cases h
  | succ n ih =>
    intro a3 S h
    rw [f_Ou_fill_27] at h
    refine z_iload_n C 2 rfl d_Ou_fill_27 rfl ?_
    refine z_aload_n C 0 rfl d_Ou_fill_28 rfl ?_
    refine z_getI C 3 (by decide) 1 (by decide) rfl zo_65 zk_65 zfl_3_15 d_Ou_fill_29 ?_
    rcases zite h with ⟨c1, h⟩ | ⟨c1, h⟩
    · refine z_icmp_gtt C 73 c1 d_Ou_fill_32 (by decide) ?_
      cases h
      exact z_vret C hret ⟨Nat.zero_le _, Nat.zero_le _⟩ d_Ou_fill_73
    · refine z_icmp_gtf C 73 c1 d_Ou_fill_32 (by decide) ?_
      refine z_aload_n C 0 rfl d_Ou_fill_35 rfl ?_
      refine z_getF2 C 3 (by decide) 0 (by decide) rfl 1 90 rfl (66) rfl zp_65 zk_65 zfl_3_9 d_Ou_fill_36 ?_
      refine z_iload_n C 2 rfl d_Ou_fill_39 rfl ?_
      refine z_bipush C (9 : Int32) (by decide) d_Ou_fill_40 ?_
      refine z_imul C d_Ou_fill_42 ?_
      refine z_iconst C (0 : Int32) (by decide) d_Ou_fill_43 ?_
      refine z_fact (fun hSR => ?_)
      obtain ⟨g2, h⟩ := zgd_some h
      refine z_iastoreS C zo_66 zk_66 (za_66 hSR) g2 d_Ou_fill_44 ?_
      refine z_iconst C (0 : Int32) (by decide) d_Ou_fill_45 ?_
      refine z_istore C [(4, zi (0 : Int32)), (0, zr (some 65)), (1, zr (some 55)), (3, zi a3)] d_Ou_fill_46 (by decide) rfl ?_
      refine zq_lsub [1, 2, 3, 0] [(0, zr (some 65)), (1, zr (some 55)), (3, zi a3), (4, zi (0 : Int32))] rfl ?_
      exact c_Ou_fill_48 C hret (fun z0 zS zh => ih z0 zS zh) fu  a3 (0 : Int32) (zwI S 66 (a3 * (9 : Int32)).toNatClampNeg (0 : Int32)) h
set_option maxRecDepth 100000 in
set_option maxHeartbeats 4000000 in
theorem m_Ou_fill (l : Launch) {fu : Nat} {a2 : Int32} {S : zSt} {S1 : zSt} (h : f_Ou_fill fu a2 S = some S1) : zPM l y_Ou_fill b_Ou_fill 5 none rm_Ou_fill true true [zr (some 65), zr (some 55), zi a2] S none S1 := by
  refine zPM_of (by decide) (Nat.le_of_ble_eq_true rfl) (fun p e s m args below meth c G C hret hname => ?_)
  unfold f_Ou_fill at h
  refine (?_ : zJ p l e rm_Ou_fill s m args below meth c G true 5 0 0 (zQm below G args s rm_Ou_fill true none S1) S 0 [(0, zr (some 65)), (1, zr (some 55)), (2, zi a2)] [])
  refine z_aload_n C 0 rfl d_Ou_fill_0 rfl ?_
  refine z_iload_n C 2 rfl d_Ou_fill_1 rfl ?_
  refine z_bipush C (9 : Int32) (by decide) d_Ou_fill_2 ?_
  rcases zite h with ⟨c1, h⟩ | ⟨c1, h⟩
  · refine z_icmp_get C 11 c1 d_Ou_fill_4 (by decide) ?_
    refine z_bipush C (9 : Int32) (by decide) d_Ou_fill_11 ?_
    refine z_putI C 3 (by decide) 1 (by decide) rfl (Or.inl rfl) zo_65 zk_65 zfl_3_15 (Or.inl rfl) d_Ou_fill_13 ?_
    refine z_aload_n C 0 rfl d_Ou_fill_16 rfl ?_
    refine z_getF2 C 3 (by decide) 0 (by decide) rfl 1 90 rfl (66) rfl zp_65 zk_65 zfl_3_9 d_Ou_fill_17 ?_
    refine z_ldc C zc_3_19 d_Ou_fill_20 ?_
    obtain ⟨S3, h2, h⟩ := zb1_some h
    refine z_cS C (m_Ar_fillI l zk_66 zp_66 h2) mf_Ar_fillI lk_3_20 st_Ar_fillI ⟨rfl, rfl⟩ ⟨by decide, by decide⟩ ⟨Nat.zero_le _, Nat.zero_le _⟩ rfl _ [] rfl (Nat.le_of_ble_eq_true rfl) d_Ou_fill_22 ?_
    refine z_iconst C (0 : Int32) (by decide) d_Ou_fill_25 ?_
    refine z_istore_n C [(3, zi (0 : Int32)), (0, zr (some 65)), (1, zr (some 55)), (2, zi a2)] d_Ou_fill_26 rfl (by decide) rfl ?_
    refine zq_lsub [1, 2, 0] [(0, zr (some 65)), (1, zr (some 55)), (3, zi (0 : Int32))] rfl ?_
    exact c_Ou_fill_27 C hret fu  (0 : Int32) S3 h
  · refine z_icmp_gef C 11 c1 d_Ou_fill_4 (by decide) ?_
    refine z_iload_n C 2 rfl d_Ou_fill_7 rfl ?_
    refine z_goto C 13 d_Ou_fill_8 (by decide) ?_
    refine z_putI C 3 (by decide) 1 (by decide) rfl (Or.inl rfl) zo_65 zk_65 zfl_3_15 (Or.inl rfl) d_Ou_fill_13 ?_
    refine z_aload_n C 0 rfl d_Ou_fill_16 rfl ?_
    refine z_getF2 C 3 (by decide) 0 (by decide) rfl 1 90 rfl (66) rfl zp_65 zk_65 zfl_3_9 d_Ou_fill_17 ?_
    refine z_ldc C zc_3_19 d_Ou_fill_20 ?_
    obtain ⟨S5, h4, h⟩ := zb1_some h
    refine z_cS C (m_Ar_fillI l zk_66 zp_66 h4) mf_Ar_fillI lk_3_20 st_Ar_fillI ⟨rfl, rfl⟩ ⟨by decide, by decide⟩ ⟨Nat.zero_le _, Nat.zero_le _⟩ rfl _ [] rfl (Nat.le_of_ble_eq_true rfl) d_Ou_fill_22 ?_
    refine z_iconst C (0 : Int32) (by decide) d_Ou_fill_25 ?_
    refine z_istore_n C [(3, zi (0 : Int32)), (0, zr (some 65)), (1, zr (some 55)), (2, zi a2)] d_Ou_fill_26 rfl (by decide) rfl ?_
    refine zq_lsub [1, 2, 0] [(0, zr (some 65)), (1, zr (some 55)), (3, zi (0 : Int32))] rfl ?_
    exact c_Ou_fill_27 C hret fu  (0 : Int32) S5 h
def f_Ou_days (a1 : Int32) (S : zSt) : Option Int32 := zb1 (f_Ou_leftFrom a1 (zI S 65 1) S) (fun r2 => if (1000000 : Int32) ≤ r2 then some (-1 : Int32) else some r2)
set_option maxRecDepth 100000 in
set_option maxHeartbeats 4000000 in
theorem m_Ou_days (l : Launch) {a1 : Int32} {S : zSt} {r : Int32} (h : f_Ou_days a1 S = some r) : zPM l y_Ou_days b_Ou_days 3 (some .int) rm_Ou_days true true [zr (some 65), zi a1] S (some (zi r)) S := by
  refine zPM_of (by decide) (Nat.le_of_ble_eq_true rfl) (fun p e s m args below meth c G C hret hname => ?_)
  unfold f_Ou_days at h
  refine (?_ : zJ p l e rm_Ou_days s m args below meth c G true 3 0 0 (zQm below G args s rm_Ou_days true (some (zi r)) S) S 0 [(0, zr (some 65)), (1, zi a1)] [])
  refine z_aload_n C 0 rfl d_Ou_days_0 rfl ?_
  refine z_iload_n C 1 rfl d_Ou_days_1 rfl ?_
  refine z_aload_n C 0 rfl d_Ou_days_2 rfl ?_
  refine z_getI C 3 (by decide) 1 (by decide) rfl zo_65 zk_65 zfl_3_15 d_Ou_days_3 ?_
  obtain ⟨r2, h1, h⟩ := zb1_some h
  refine z_cV C 3 (by decide) (m_Ou_leftFrom l h1) mf_Ou_leftFrom lk_3_44 in_Ou_leftFrom se_Ou_leftFrom rfl zo_65 zk_65 ⟨rfl, rfl⟩ ⟨by decide, by decide⟩ ⟨Nat.zero_le _, Nat.zero_le _⟩ rfl _ [] rfl (Nat.le_of_ble_eq_true rfl) d_Ou_days_6 ?_
  refine z_istore_n C [(2, zi r2), (0, zr (some 65)), (1, zi a1)] d_Ou_days_9 rfl (by decide) rfl ?_
  refine z_iload_n C 0 rfl d_Ou_days_10 rfl ?_
  refine z_ldc C zc_3_19 d_Ou_days_11 ?_
  rcases zite h with ⟨c3, h⟩ | ⟨c3, h⟩
  · refine z_icmp_get C 20 c3 d_Ou_days_13 (by decide) ?_
    refine z_iconst C (-1 : Int32) (by decide) d_Ou_days_20 ?_
    cases h
    exact z_iret C .int hret rfl ⟨Nat.zero_le _, Nat.zero_le _⟩ d_Ou_days_21
  · refine z_icmp_gef C 20 c3 d_Ou_days_13 (by decide) ?_
    refine z_iload_n C 0 rfl d_Ou_days_16 rfl ?_
    refine z_goto C 21 d_Ou_days_17 (by decide) ?_
    cases h
    exact z_iret C .int hret rfl ⟨Nat.zero_le _, Nat.zero_le _⟩ d_Ou_days_21
def f_Ou_nextOnWay_9 (fu : Nat) : Nat → Int32 → Int32 → Int32 → zSt → Option Int32
  | 0, _, _, _, _ => none
  | n + 1, a2, a3, a4, S => if (9 : Int32) ≤ a4 then some (-1 : Int32) else zb1 (f_Ou_daysBy a2 a4 a3 S) (fun r3 => zb1 (f_Ou_leftFrom a2 a3 S) (fun r5 => if r3 = r5 then some a4 else f_Ou_nextOnWay_9 fu n a2 a3 (a4 + (1 : Int32)) S))
def f_Ou_nextOnWay (fu : Nat) (a2 : Int32) (a3 : Int32) (S : zSt) : Option Int32 := if a2 = 0 then some (-1 : Int32) else f_Ou_nextOnWay_9 fu fu a2 a3 (0 : Int32) S
set_option maxRecDepth 100000 in
set_option maxHeartbeats 4000000 in
theorem c_Ou_nextOnWay_9 {p : Program} {l : Launch} {e : Env} {s : State} {m : MethodId} {args : Array Value} {below : List Frame} {meth : Method} {c : Code} {G : zG} (C : zC p s m args meth c G b_Ou_nextOnWay 5 y_Ou_nextOnWay.cls) (hret : meth.sig.returnType = (some .int)) {fu : Nat} {r : Int32} : ∀ (n : Nat) (a2 : Int32) (a3 : Int32) (a4 : Int32) (S : zSt) , f_Ou_nextOnWay_9 fu n a2 a3 a4 S = some r → zJ p l e rm_Ou_nextOnWay s m args below meth c G true 5 0 0 (zQm below G args s rm_Ou_nextOnWay true (some (zi r)) S) S 9 [(0, zr (some 65)), (1, zr (some 55)), (2, zi a2), (3, zi a3), (4, zi a4)] [] := by
  intro n
  induction n with
  | zero =>
    intro a2 a3 a4 S h
    cases h
  | succ n ih =>
    intro a2 a3 a4 S h
    rw [f_Ou_nextOnWay_9] at h
    refine z_iload C 4 rfl d_Ou_nextOnWay_9 ?_
    refine z_bipush C (9 : Int32) (by decide) d_Ou_nextOnWay_11 ?_
    rcases zite h with ⟨c1, h⟩ | ⟨c1, h⟩
    · refine z_icmp_get C 43 c1 d_Ou_nextOnWay_13 (by decide) ?_
      refine z_iconst C (-1 : Int32) (by decide) d_Ou_nextOnWay_43 ?_
      cases h
      exact z_iret C .int hret rfl ⟨Nat.zero_le _, Nat.zero_le _⟩ d_Ou_nextOnWay_44
    · refine z_icmp_gef C 43 c1 d_Ou_nextOnWay_13 (by decide) ?_
      refine z_aload_n C 0 rfl d_Ou_nextOnWay_16 rfl ?_
      refine z_aload_n C 1 rfl d_Ou_nextOnWay_17 rfl ?_
      refine z_iload_n C 2 rfl d_Ou_nextOnWay_18 rfl ?_
      refine z_iload C 4 rfl d_Ou_nextOnWay_19 ?_
      refine z_iload_n C 3 rfl d_Ou_nextOnWay_21 rfl ?_
      obtain ⟨r3, h2, h⟩ := zb1_some h
      refine z_cV C 3 (by decide) (m_Ou_daysBy l h2) mf_Ou_daysBy lk_3_30 in_Ou_daysBy se_Ou_daysBy rfl zo_65 zk_65 ⟨rfl, rfl⟩ ⟨by decide, by decide⟩ ⟨Nat.zero_le _, Nat.zero_le _⟩ rfl _ [] rfl (Nat.le_of_ble_eq_true rfl) d_Ou_nextOnWay_22 ?_
      refine z_aload_n C 0 rfl d_Ou_nextOnWay_25 rfl ?_
      refine z_iload_n C 2 rfl d_Ou_nextOnWay_26 rfl ?_
      refine z_iload_n C 3 rfl d_Ou_nextOnWay_27 rfl ?_
      obtain ⟨r5, h4, h⟩ := zb1_some h
      refine z_cV C 3 (by decide) (m_Ou_leftFrom l h4) mf_Ou_leftFrom lk_3_44 in_Ou_leftFrom se_Ou_leftFrom rfl zo_65 zk_65 ⟨rfl, rfl⟩ ⟨by decide, by decide⟩ ⟨Nat.zero_le _, Nat.zero_le _⟩ rfl _ [zi r3] rfl (Nat.le_of_ble_eq_true rfl) d_Ou_nextOnWay_28 ?_
      rcases zite h with ⟨c6, h⟩ | ⟨c6, h⟩
      · refine z_icmp_nef C 37 c6 d_Ou_nextOnWay_31 (by decide) ?_
        refine z_iload C 4 rfl d_Ou_nextOnWay_34 ?_
        cases h
        exact z_iret C .int hret rfl ⟨Nat.zero_le _, Nat.zero_le _⟩ d_Ou_nextOnWay_36
      · refine z_icmp_net C 37 c6 d_Ou_nextOnWay_31 (by decide) ?_
        refine z_iinc C 4 (a4 + (1 : Int32)) [(4, zi (a4 + (1 : Int32))), (0, zr (some 65)), (1, zr (some 55)), (2, zi a2), (3, zi a3)] rfl d_Ou_nextOnWay_37 (by first | rfl | decide) (by decide) rfl ?_
        refine z_goto C 9 d_Ou_nextOnWay_40 (by decide) ?_
        refine zq_lsub [1, 2, 3, 4, 0] [(0, zr (some 65)), (1, zr (some 55)), (2, zi a2), (3, zi a3), (4, zi (a4 + (1 : Int32)))] rfl ?_
        exact ih a2 a3 (a4 + (1 : Int32)) S h
set_option maxRecDepth 100000 in
set_option maxHeartbeats 4000000 in
theorem m_Ou_nextOnWay (l : Launch) {fu : Nat} {a2 : Int32} {a3 : Int32} {S : zSt} {r : Int32} (h : f_Ou_nextOnWay fu a2 a3 S = some r) : zPM l y_Ou_nextOnWay b_Ou_nextOnWay 5 (some .int) rm_Ou_nextOnWay true true [zr (some 65), zr (some 55), zi a2, zi a3] S (some (zi r)) S := by
  refine zPM_of (by decide) (Nat.le_of_ble_eq_true rfl) (fun p e s m args below meth c G C hret hname => ?_)
  unfold f_Ou_nextOnWay at h
  refine (?_ : zJ p l e rm_Ou_nextOnWay s m args below meth c G true 5 0 0 (zQm below G args s rm_Ou_nextOnWay true (some (zi r)) S) S 0 [(0, zr (some 65)), (1, zr (some 55)), (2, zi a2), (3, zi a3)] [])
  refine z_iload_n C 2 rfl d_Ou_nextOnWay_0 rfl ?_
  rcases zite h with ⟨c1, h⟩ | ⟨c1, h⟩
  · refine z_if_nef C 6 c1 d_Ou_nextOnWay_1 (by decide) ?_
    refine z_iconst C (-1 : Int32) (by decide) d_Ou_nextOnWay_4 ?_
    cases h
    exact z_iret C .int hret rfl ⟨Nat.zero_le _, Nat.zero_le _⟩ d_Ou_nextOnWay_5
  · refine z_if_net C 6 c1 d_Ou_nextOnWay_1 (by decide) ?_
    refine z_iconst C (0 : Int32) (by decide) d_Ou_nextOnWay_6 ?_
    refine z_istore C [(4, zi (0 : Int32)), (0, zr (some 65)), (1, zr (some 55)), (2, zi a2), (3, zi a3)] d_Ou_nextOnWay_7 (by decide) rfl ?_
    refine zq_lsub [1, 2, 3, 4, 0] [(0, zr (some 65)), (1, zr (some 55)), (2, zi a2), (3, zi a3), (4, zi (0 : Int32))] rfl ?_
    exact c_Ou_nextOnWay_9 C hret fu  a2 a3 (0 : Int32) S h
def f_Ou_onWay_33 (fu : Nat) : Nat → Int32 → Int32 → Int32 → Int32 → zSt → Option Int32
  | 0, _, _, _, _, _ => none
  | n + 1, a3, a4, a5, a6, S => if a3 ≤ a6 then some a4 else zb1 (f_Ou_nextOnWay fu a4 a5 S) (fun r3 => if r3 = (-1 : Int32) then some (-1 : Int32) else zb1 (f_Pa_isShut a4 r3 S) (fun r6 => if r6 = 0 then f_Ou_onWay_33 fu n a3 r3 a5 (a6 + (1 : Int32)) S else f_Ou_onWay_33 fu n a3 r3 (a5 - (1 : Int32)) (a6 + (1 : Int32)) S))
def f_Ou_onWay (fu : Nat) (a2 : Int32) (a3 : Int32) (S : zSt) : Option Int32 := if a3 < 0 then some (-1 : Int32) else if (9 : Int32) ≤ a3 then some (-1 : Int32) else zb1 (f_Ou_days a2 S) (fun r4 => if r4 = (-1 : Int32) then some (-1 : Int32) else f_Ou_onWay_33 fu fu a3 a2 (zI S 65 1) (0 : Int32) S)
set_option maxRecDepth 100000 in
set_option maxHeartbeats 4000000 in
theorem c_Ou_onWay_33 {p : Program} {l : Launch} {e : Env} {s : State} {m : MethodId} {args : Array Value} {below : List Frame} {meth : Method} {c : Code} {G : zG} (C : zC p s m args meth c G b_Ou_onWay 8 y_Ou_onWay.cls) (hret : meth.sig.returnType = (some .int)) {fu : Nat} {r : Int32} : ∀ (n : Nat) (a3 : Int32) (a4 : Int32) (a5 : Int32) (a6 : Int32) (S : zSt) , f_Ou_onWay_33 fu n a3 a4 a5 a6 S = some r → zJ p l e rm_Ou_onWay s m args below meth c G true 8 0 0 (zQm below G args s rm_Ou_onWay true (some (zi r)) S) S 33 [(0, zr (some 65)), (1, zr (some 55)), (3, zi a3), (4, zi a4), (5, zi a5), (6, zi a6)] [] := by
  intro n
  induction n with
  | zero =>
    intro a3 a4 a5 a6 S h
    cases h
  | succ n ih =>
    intro a3 a4 a5 a6 S h
    rw [f_Ou_onWay_33] at h
    refine z_iload C 5 rfl d_Ou_onWay_33 ?_
    refine z_iload_n C 2 rfl d_Ou_onWay_35 rfl ?_
    rcases zite h with ⟨c1, h⟩ | ⟨c1, h⟩
    · refine z_icmp_get C 90 c1 d_Ou_onWay_36 (by decide) ?_
      refine z_iload C 3 rfl d_Ou_onWay_90 ?_
      cases h
      exact z_iret C .int hret rfl ⟨Nat.zero_le _, Nat.zero_le _⟩ d_Ou_onWay_92
    · refine z_icmp_gef C 90 c1 d_Ou_onWay_36 (by decide) ?_
      refine z_aload_n C 0 rfl d_Ou_onWay_39 rfl ?_
      refine z_aload_n C 1 rfl d_Ou_onWay_40 rfl ?_
      refine z_iload C 3 rfl d_Ou_onWay_41 ?_
      refine z_iload C 4 rfl d_Ou_onWay_43 ?_
      obtain ⟨r3, h2, h⟩ := zb1_some h
      refine z_cV C 3 (by decide) (m_Ou_nextOnWay l h2) mf_Ou_nextOnWay lk_3_51 in_Ou_nextOnWay se_Ou_nextOnWay rfl zo_65 zk_65 ⟨rfl, rfl⟩ ⟨by decide, by decide⟩ ⟨Nat.zero_le _, Nat.zero_le _⟩ rfl _ [] rfl (Nat.le_of_ble_eq_true rfl) d_Ou_onWay_45 ?_
      refine z_istore C [(7, zi r3), (0, zr (some 65)), (1, zr (some 55)), (3, zi a3), (4, zi a4), (5, zi a5), (6, zi a6)] d_Ou_onWay_48 (by decide) rfl ?_
      refine z_iload C 0 rfl d_Ou_onWay_50 ?_
      refine z_iconst C (-1 : Int32) (by decide) d_Ou_onWay_52 ?_
      rcases zite h with ⟨c4, h⟩ | ⟨c4, h⟩
      · refine z_icmp_nef C 58 c4 d_Ou_onWay_53 (by decide) ?_
        refine z_iconst C (-1 : Int32) (by decide) d_Ou_onWay_56 ?_
        cases h
        exact z_iret C .int hret rfl ⟨Nat.zero_le _, Nat.zero_le _⟩ d_Ou_onWay_57
      · refine z_icmp_net C 58 c4 d_Ou_onWay_53 (by decide) ?_
        refine z_aload_n C 2 rfl d_Ou_onWay_58 rfl ?_
        refine z_iload C 4 rfl d_Ou_onWay_59 ?_
        refine z_iload C 0 rfl d_Ou_onWay_61 ?_
        obtain ⟨r6, h5, h⟩ := zb1_some h
        refine z_cV C 4 (by decide) (m_Pa_isShut l h5) mf_Pa_isShut lk_3_34 in_Pa_isShut se_Pa_isShut rfl zo_55 zk_55 ⟨rfl, rfl⟩ ⟨by decide, by decide⟩ ⟨Nat.zero_le _, Nat.zero_le _⟩ rfl _ [] rfl (Nat.le_of_ble_eq_true rfl) d_Ou_onWay_63 ?_
        rcases zite h with ⟨c7, h⟩ | ⟨c7, h⟩
        · refine z_if_eqt C 76 c7 d_Ou_onWay_66 (by decide) ?_
          refine z_iload C 5 rfl d_Ou_onWay_76 ?_
          refine z_istore C [(5, zi a5), (7, zi r3), (0, zr (some 65)), (1, zr (some 55)), (3, zi a3), (4, zi a4), (6, zi a6)] d_Ou_onWay_78 (by decide) rfl ?_
          refine z_iload C 1 rfl d_Ou_onWay_80 ?_
          refine z_istore C [(4, zi r3), (5, zi a5), (7, zi r3), (0, zr (some 65)), (1, zr (some 55)), (3, zi a3), (6, zi a6)] d_Ou_onWay_82 (by decide) rfl ?_
          refine z_iinc C 6 (a6 + (1 : Int32)) [(6, zi (a6 + (1 : Int32))), (4, zi r3), (5, zi a5), (7, zi r3), (0, zr (some 65)), (1, zr (some 55)), (3, zi a3)] rfl d_Ou_onWay_84 (by first | rfl | decide) (by decide) rfl ?_
          refine z_goto C 33 d_Ou_onWay_87 (by decide) ?_
          refine zq_lsub [4, 5, 6, 1, 2, 0] [(0, zr (some 65)), (1, zr (some 55)), (3, zi a3), (4, zi r3), (5, zi a5), (6, zi (a6 + (1 : Int32)))] rfl ?_
          exact ih a3 r3 a5 (a6 + (1 : Int32)) S h
        · refine z_if_eqf C 76 c7 d_Ou_onWay_66 (by decide) ?_
          refine z_iload C 5 rfl d_Ou_onWay_69 ?_
          refine z_iconst C (1 : Int32) (by decide) d_Ou_onWay_71 ?_
          refine z_isub C d_Ou_onWay_72 ?_
          refine z_goto C 78 d_Ou_onWay_73 (by decide) ?_
          refine z_istore C [(5, zi (a5 - (1 : Int32))), (7, zi r3), (0, zr (some 65)), (1, zr (some 55)), (3, zi a3), (4, zi a4), (6, zi a6)] d_Ou_onWay_78 (by decide) rfl ?_
          refine z_iload C 1 rfl d_Ou_onWay_80 ?_
          refine z_istore C [(4, zi r3), (5, zi (a5 - (1 : Int32))), (7, zi r3), (0, zr (some 65)), (1, zr (some 55)), (3, zi a3), (6, zi a6)] d_Ou_onWay_82 (by decide) rfl ?_
          refine z_iinc C 6 (a6 + (1 : Int32)) [(6, zi (a6 + (1 : Int32))), (4, zi r3), (5, zi (a5 - (1 : Int32))), (7, zi r3), (0, zr (some 65)), (1, zr (some 55)), (3, zi a3)] rfl d_Ou_onWay_84 (by first | rfl | decide) (by decide) rfl ?_
          refine z_goto C 33 d_Ou_onWay_87 (by decide) ?_
          refine zq_lsub [4, 5, 6, 1, 2, 0] [(0, zr (some 65)), (1, zr (some 55)), (3, zi a3), (4, zi r3), (5, zi (a5 - (1 : Int32))), (6, zi (a6 + (1 : Int32)))] rfl ?_
          exact ih a3 r3 (a5 - (1 : Int32)) (a6 + (1 : Int32)) S h
set_option maxRecDepth 100000 in
set_option maxHeartbeats 4000000 in
theorem m_Ou_onWay (l : Launch) {fu : Nat} {a2 : Int32} {a3 : Int32} {S : zSt} {r : Int32} (h : f_Ou_onWay fu a2 a3 S = some r) : zPM l y_Ou_onWay b_Ou_onWay 8 (some .int) rm_Ou_onWay true true [zr (some 65), zr (some 55), zi a2, zi a3] S (some (zi r)) S := by
  refine zPM_of (by decide) (Nat.le_of_ble_eq_true rfl) (fun p e s m args below meth c G C hret hname => ?_)
  unfold f_Ou_onWay at h
  refine (?_ : zJ p l e rm_Ou_onWay s m args below meth c G true 8 0 0 (zQm below G args s rm_Ou_onWay true (some (zi r)) S) S 0 [(0, zr (some 65)), (1, zr (some 55)), (2, zi a2), (3, zi a3)] [])
  refine z_iload_n C 3 rfl d_Ou_onWay_0 rfl ?_
  rcases zite h with ⟨c1, h⟩ | ⟨c1, h⟩
  · refine z_if_ltt C 19 c1 d_Ou_onWay_1 (by decide) ?_
    refine z_iconst C (-1 : Int32) (by decide) d_Ou_onWay_19 ?_
    cases h
    exact z_iret C .int hret rfl ⟨Nat.zero_le _, Nat.zero_le _⟩ d_Ou_onWay_20
  · refine z_if_ltf C 19 c1 d_Ou_onWay_1 (by decide) ?_
    refine z_iload_n C 3 rfl d_Ou_onWay_4 rfl ?_
    refine z_bipush C (9 : Int32) (by decide) d_Ou_onWay_5 ?_
    rcases zite h with ⟨c2, h⟩ | ⟨c2, h⟩
    · refine z_icmp_get C 19 c2 d_Ou_onWay_7 (by decide) ?_
      refine z_iconst C (-1 : Int32) (by decide) d_Ou_onWay_19 ?_
      cases h
      exact z_iret C .int hret rfl ⟨Nat.zero_le _, Nat.zero_le _⟩ d_Ou_onWay_20
    · refine z_icmp_gef C 19 c2 d_Ou_onWay_7 (by decide) ?_
      refine z_aload_n C 0 rfl d_Ou_onWay_10 rfl ?_
      refine z_iload_n C 2 rfl d_Ou_onWay_11 rfl ?_
      obtain ⟨r4, h3, h⟩ := zb1_some h
      refine z_cV C 3 (by decide) (m_Ou_days l h3) mf_Ou_days lk_3_47 in_Ou_days se_Ou_days rfl zo_65 zk_65 ⟨rfl, rfl⟩ ⟨by decide, by decide⟩ ⟨Nat.zero_le _, Nat.zero_le _⟩ rfl _ [] rfl (Nat.le_of_ble_eq_true rfl) d_Ou_onWay_12 ?_
      refine z_iconst C (-1 : Int32) (by decide) d_Ou_onWay_15 ?_
      rcases zite h with ⟨c5, h⟩ | ⟨c5, h⟩
      · refine z_icmp_nef C 21 c5 d_Ou_onWay_16 (by decide) ?_
        refine z_iconst C (-1 : Int32) (by decide) d_Ou_onWay_19 ?_
        cases h
        exact z_iret C .int hret rfl ⟨Nat.zero_le _, Nat.zero_le _⟩ d_Ou_onWay_20
      · refine z_icmp_net C 21 c5 d_Ou_onWay_16 (by decide) ?_
        refine z_iload_n C 2 rfl d_Ou_onWay_21 rfl ?_
        refine z_istore C [(4, zi a2), (0, zr (some 65)), (1, zr (some 55)), (2, zi a2), (3, zi a3)] d_Ou_onWay_22 (by decide) rfl ?_
        refine z_aload_n C 1 rfl d_Ou_onWay_24 rfl ?_
        refine z_getI C 3 (by decide) 1 (by decide) rfl zo_65 zk_65 zfl_3_15 d_Ou_onWay_25 ?_
        refine z_istore C [(5, zi (zI S 65 1)), (4, zi a2), (0, zr (some 65)), (1, zr (some 55)), (2, zi a2), (3, zi a3)] d_Ou_onWay_28 (by decide) rfl ?_
        refine z_iconst C (0 : Int32) (by decide) d_Ou_onWay_30 ?_
        refine z_istore C [(6, zi (0 : Int32)), (5, zi (zI S 65 1)), (4, zi a2), (0, zr (some 65)), (1, zr (some 55)), (2, zi a2), (3, zi a3)] d_Ou_onWay_31 (by decide) rfl ?_
        refine zq_lsub [3, 4, 6, 2, 1, 0] [(0, zr (some 65)), (1, zr (some 55)), (3, zi a3), (4, zi a2), (5, zi (zI S 65 1)), (6, zi (0 : Int32))] rfl ?_
        exact c_Ou_onWay_33 C hret fu  a3 a2 (zI S 65 1) (0 : Int32) S h
def f_E_sea (fu : Nat) (a1 : Int32) (a2 : Int32) (S : zSt) : Option (Int32 × zSt) := if (zI S 1 0) = 0 then some ((-1 : Int32), S) else if a1 < 0 then some ((-1 : Int32), S) else if (9 : Int32) < a1 then some ((-1 : Int32), S) else if (-1 : Int32) ≤ a2 then zb1 (f_E_fillPaper fu S) (fun S6 => zb1 (f_Ou_fill fu a1 S6) (fun S8 => if a2 = (-1 : Int32) then zb1 (f_Ou_days (zI S8 1 5) S8) (fun r13 => some (r13, S8)) else zb1 (f_Ou_onWay fu (zI S8 1 5) a2 S8) (fun r11 => some (r11, S8)))) else some ((-1 : Int32), S)
set_option maxRecDepth 100000 in
set_option maxHeartbeats 4000000 in
theorem m_E_sea (l : Launch) {fu : Nat} {a1 : Int32} {a2 : Int32} {S : zSt} {r : Int32} {S1 : zSt} (h : f_E_sea fu a1 a2 S = some (r, S1)) : zPM l y_E_sea b_E_sea 3 (some .int) rm_E_sea true true [zr (some 0), zi a1, zi a2] S (some (zi r)) S1 := by
  refine zPM_of (by decide) (Nat.le_of_ble_eq_true rfl) (fun p e s m args below meth c G C hret hname => ?_)
  unfold f_E_sea at h
  refine (?_ : zJ p l e rm_E_sea s m args below meth c G true 3 0 0 (zQm below G args s rm_E_sea true (some (zi r)) S1) S 0 [(0, zr (some 0)), (1, zi a1), (2, zi a2)] [])
  refine z_aload_n C 0 rfl d_E_sea_0 rfl ?_
  refine z_getF2 C 0 (by decide) 0 (by decide) rfl 1 0 rfl (1) rfl zp_0 zk_0 zfl_0_12 d_E_sea_1 ?_
  refine z_getI C 5 (by decide) 0 (by decide) rfl zo_1 zk_1 zfl_0_113 d_E_sea_4 ?_
  rcases zite h with ⟨c1, h⟩ | ⟨c1, h⟩
  · refine z_if_eqt C 25 c1 d_E_sea_7 (by decide) ?_
    refine z_iconst C (-1 : Int32) (by decide) d_E_sea_25 ?_
    cases h
    exact z_iret C .int hret rfl ⟨Nat.zero_le _, Nat.zero_le _⟩ d_E_sea_26
  · refine z_if_eqf C 25 c1 d_E_sea_7 (by decide) ?_
    refine z_iload_n C 1 rfl d_E_sea_10 rfl ?_
    rcases zite h with ⟨c2, h⟩ | ⟨c2, h⟩
    · refine z_if_ltt C 25 c2 d_E_sea_11 (by decide) ?_
      refine z_iconst C (-1 : Int32) (by decide) d_E_sea_25 ?_
      cases h
      exact z_iret C .int hret rfl ⟨Nat.zero_le _, Nat.zero_le _⟩ d_E_sea_26
    · refine z_if_ltf C 25 c2 d_E_sea_11 (by decide) ?_
      refine z_iload_n C 1 rfl d_E_sea_14 rfl ?_
      refine z_bipush C (9 : Int32) (by decide) d_E_sea_15 ?_
      rcases zite h with ⟨c3, h⟩ | ⟨c3, h⟩
      · refine z_icmp_gtt C 25 c3 d_E_sea_17 (by decide) ?_
        refine z_iconst C (-1 : Int32) (by decide) d_E_sea_25 ?_
        cases h
        exact z_iret C .int hret rfl ⟨Nat.zero_le _, Nat.zero_le _⟩ d_E_sea_26
      · refine z_icmp_gtf C 25 c3 d_E_sea_17 (by decide) ?_
        refine z_iload_n C 2 rfl d_E_sea_20 rfl ?_
        refine z_iconst C (-1 : Int32) (by decide) d_E_sea_21 ?_
        rcases zite h with ⟨c4, h⟩ | ⟨c4, h⟩
        · refine z_icmp_get C 27 c4 d_E_sea_22 (by decide) ?_
          refine z_aload_n C 0 rfl d_E_sea_27 rfl ?_
          obtain ⟨S6, h5, h⟩ := zb1_some h
          refine z_cV C 0 (by decide) (m_E_fillPaper l h5) mf_E_fillPaper lk_0_226 in_E_fillPaper se_E_fillPaper rfl zo_0 zk_0 ⟨rfl, rfl⟩ ⟨by decide, by decide⟩ ⟨Nat.zero_le _, Nat.zero_le _⟩ rfl _ [] rfl (Nat.le_of_ble_eq_true rfl) d_E_sea_28 ?_
          refine z_aload_n C 0 rfl d_E_sea_31 rfl ?_
          refine z_getF2 C 0 (by decide) 11 (by decide) rfl 65 0 rfl (65) rfl zp_0 zk_0 zfl_0_74 d_E_sea_32 ?_
          refine z_aload_n C 0 rfl d_E_sea_35 rfl ?_
          refine z_getF2 C 0 (by decide) 9 (by decide) rfl 55 0 rfl (55) rfl zp_0 zk_0 zfl_0_60 d_E_sea_36 ?_
          refine z_iload_n C 1 rfl d_E_sea_39 rfl ?_
          obtain ⟨S8, h7, h⟩ := zb1_some h
          refine z_cV C 3 (by decide) (m_Ou_fill l h7) mf_Ou_fill lk_0_274 in_Ou_fill se_Ou_fill rfl zo_65 zk_65 ⟨rfl, rfl⟩ ⟨by decide, by decide⟩ ⟨Nat.zero_le _, Nat.zero_le _⟩ rfl _ [] rfl (Nat.le_of_ble_eq_true rfl) d_E_sea_40 ?_
          refine z_iload_n C 2 rfl d_E_sea_43 rfl ?_
          refine z_iconst C (-1 : Int32) (by decide) d_E_sea_44 ?_
          rcases zite h with ⟨c9, h⟩ | ⟨c9, h⟩
          · refine z_icmp_nef C 65 c9 d_E_sea_45 (by decide) ?_
            refine z_aload_n C 0 rfl d_E_sea_48 rfl ?_
            refine z_getF2 C 0 (by decide) 11 (by decide) rfl 65 0 rfl (65) rfl zp_0 zk_0 zfl_0_74 d_E_sea_49 ?_
            refine z_aload_n C 0 rfl d_E_sea_52 rfl ?_
            refine z_getF2 C 0 (by decide) 0 (by decide) rfl 1 0 rfl (1) rfl zp_0 zk_0 zfl_0_12 d_E_sea_53 ?_
            refine z_getI C 5 (by decide) 5 (by decide) rfl zo_1 zk_1 zfl_0_248 d_E_sea_56 ?_
            obtain ⟨r13, h12, h⟩ := zb1_some h
            refine z_cV C 3 (by decide) (m_Ou_days l h12) mf_Ou_days lk_0_278 in_Ou_days se_Ou_days rfl zo_65 zk_65 ⟨rfl, rfl⟩ ⟨by decide, by decide⟩ ⟨Nat.zero_le _, Nat.zero_le _⟩ rfl _ [] rfl (Nat.le_of_ble_eq_true rfl) d_E_sea_59 ?_
            refine z_goto C 84 d_E_sea_62 (by decide) ?_
            cases h
            exact z_iret C .int hret rfl ⟨Nat.zero_le _, Nat.zero_le _⟩ d_E_sea_84
          · refine z_icmp_net C 65 c9 d_E_sea_45 (by decide) ?_
            refine z_aload_n C 0 rfl d_E_sea_65 rfl ?_
            refine z_getF2 C 0 (by decide) 11 (by decide) rfl 65 0 rfl (65) rfl zp_0 zk_0 zfl_0_74 d_E_sea_66 ?_
            refine z_aload_n C 0 rfl d_E_sea_69 rfl ?_
            refine z_getF2 C 0 (by decide) 9 (by decide) rfl 55 0 rfl (55) rfl zp_0 zk_0 zfl_0_60 d_E_sea_70 ?_
            refine z_aload_n C 0 rfl d_E_sea_73 rfl ?_
            refine z_getF2 C 0 (by decide) 0 (by decide) rfl 1 0 rfl (1) rfl zp_0 zk_0 zfl_0_12 d_E_sea_74 ?_
            refine z_getI C 5 (by decide) 5 (by decide) rfl zo_1 zk_1 zfl_0_248 d_E_sea_77 ?_
            refine z_iload_n C 2 rfl d_E_sea_80 rfl ?_
            obtain ⟨r11, h10, h⟩ := zb1_some h
            refine z_cV C 3 (by decide) (m_Ou_onWay l h10) mf_Ou_onWay lk_0_280 in_Ou_onWay se_Ou_onWay rfl zo_65 zk_65 ⟨rfl, rfl⟩ ⟨by decide, by decide⟩ ⟨Nat.zero_le _, Nat.zero_le _⟩ rfl _ [] rfl (Nat.le_of_ble_eq_true rfl) d_E_sea_81 ?_
            cases h
            exact z_iret C .int hret rfl ⟨Nat.zero_le _, Nat.zero_le _⟩ d_E_sea_84
        · refine z_icmp_gef C 27 c4 d_E_sea_22 (by decide) ?_
          refine z_iconst C (-1 : Int32) (by decide) d_E_sea_25 ?_
          cases h
          exact z_iret C .int hret rfl ⟨Nat.zero_le _, Nat.zero_le _⟩ d_E_sea_26
def f_Ps_hear (a0 : Nat) (a1 : Int32) (a2 : Int32) (S : zSt) : Option (Int32 × zSt) := if (zI S a0 9) < 0 then some (zI S a0 9, S) else if (6 : Int32) ≤ (zI S a0 9) then some (zI S a0 9, S) else zgd (0 ≤ (zI S a0 9) ∧ (zI S a0 9).toNatClampNeg < 6) (zgd (0 ≤ (zI (zwI S (a0 + 3) (zI S a0 9).toNatClampNeg a1) a0 9) ∧ (zI (zwI S (a0 + 3) (zI S a0 9).toNatClampNeg a1) a0 9).toNatClampNeg < 6) (some (zI (zwI (zwI (zwI S (a0 + 3) (zI S a0 9).toNatClampNeg a1) (a0 + 4) (zI (zwI S (a0 + 3) (zI S a0 9).toNatClampNeg a1) a0 9).toNatClampNeg a2) a0 9 ((zI (zwI (zwI S (a0 + 3) (zI S a0 9).toNatClampNeg a1) (a0 + 4) (zI (zwI S (a0 + 3) (zI S a0 9).toNatClampNeg a1) a0 9).toNatClampNeg a2) a0 9) + (1 : Int32))) a0 9, zwI (zwI (zwI S (a0 + 3) (zI S a0 9).toNatClampNeg a1) (a0 + 4) (zI (zwI S (a0 + 3) (zI S a0 9).toNatClampNeg a1) a0 9).toNatClampNeg a2) a0 9 ((zI (zwI (zwI S (a0 + 3) (zI S a0 9).toNatClampNeg a1) (a0 + 4) (zI (zwI S (a0 + 3) (zI S a0 9).toNatClampNeg a1) a0 9).toNatClampNeg a2) a0 9) + (1 : Int32)))))
set_option maxRecDepth 100000 in
set_option maxHeartbeats 4000000 in
theorem m_Ps_hear (l : Launch) {a0 : Nat} {a1 : Int32} {a2 : Int32} {S : zSt} {r : Int32} {S1 : zSt} (ha0 : zK a0 = 5) (ga0 : a0 < zN0) (h : f_Ps_hear a0 a1 a2 S = some (r, S1)) : zPM l y_Ps_hear b_Ps_hear 3 (some .int) rm_Ps_hear true true [zr (some a0), zi a1, zi a2] S (some (zi r)) S1 := by
  refine zPM_of (by decide) (Nat.le_of_ble_eq_true rfl) (fun p e s m args below meth c G C hret hname => ?_)
  unfold f_Ps_hear at h
  refine (?_ : zJ p l e rm_Ps_hear s m args below meth c G true 3 0 0 (zQm below G args s rm_Ps_hear true (some (zi r)) S1) S 0 [(0, zr (some a0)), (1, zi a1), (2, zi a2)] [])
  refine z_aload_n C 0 rfl d_Ps_hear_0 rfl ?_
  refine z_getI C 5 (by decide) 9 (by decide) rfl (Or.inl ⟨rfl, ga0⟩) ha0 zfl_5_41 d_Ps_hear_1 ?_
  rcases zite h with ⟨c1, h⟩ | ⟨c1, h⟩
  · refine z_if_ltt C 46 c1 d_Ps_hear_4 (by decide) ?_
    refine z_aload_n C 0 rfl d_Ps_hear_46 rfl ?_
    refine z_getI C 5 (by decide) 9 (by decide) rfl (Or.inl ⟨rfl, ga0⟩) ha0 zfl_5_41 d_Ps_hear_47 ?_
    cases h
    exact z_iret C .int hret rfl ⟨Nat.zero_le _, Nat.zero_le _⟩ d_Ps_hear_50
  · refine z_if_ltf C 46 c1 d_Ps_hear_4 (by decide) ?_
    refine z_aload_n C 0 rfl d_Ps_hear_7 rfl ?_
    refine z_getI C 5 (by decide) 9 (by decide) rfl (Or.inl ⟨rfl, ga0⟩) ha0 zfl_5_41 d_Ps_hear_8 ?_
    refine z_bipush C (6 : Int32) (by decide) d_Ps_hear_11 ?_
    rcases zite h with ⟨c2, h⟩ | ⟨c2, h⟩
    · refine z_icmp_get C 46 c2 d_Ps_hear_13 (by decide) ?_
      refine z_aload_n C 0 rfl d_Ps_hear_46 rfl ?_
      refine z_getI C 5 (by decide) 9 (by decide) rfl (Or.inl ⟨rfl, ga0⟩) ha0 zfl_5_41 d_Ps_hear_47 ?_
      cases h
      exact z_iret C .int hret rfl ⟨Nat.zero_le _, Nat.zero_le _⟩ d_Ps_hear_50
    · refine z_icmp_gef C 46 c2 d_Ps_hear_13 (by decide) ?_
      refine z_aload_n C 0 rfl d_Ps_hear_16 rfl ?_
      refine z_getF2 C 5 (by decide) 10 (by decide) rfl 3 6 rfl (a0 + 3) rfl (Or.inl ga0) ha0 zfl_5_44 d_Ps_hear_17 ?_
      refine z_aload_n C 0 rfl d_Ps_hear_20 rfl ?_
      refine z_getI C 5 (by decide) 9 (by decide) rfl (Or.inl ⟨rfl, ga0⟩) ha0 zfl_5_41 d_Ps_hear_21 ?_
      refine z_iload_n C 1 rfl d_Ps_hear_24 rfl ?_
      refine z_fact (fun hSR => ?_)
      obtain ⟨g3, h⟩ := zgd_some h
      refine z_iastoreS C (Or.inl ⟨rfl, (zko_5_3 ha0 ga0).1⟩) (zko_5_3 ha0 ga0).2 (zsa_5_3 hSR ha0 ga0) g3 d_Ps_hear_25 ?_
      refine z_aload_n C 0 rfl d_Ps_hear_26 rfl ?_
      refine z_getF2 C 5 (by decide) 11 (by decide) rfl 4 6 rfl (a0 + 4) rfl (Or.inl ga0) ha0 zfl_5_47 d_Ps_hear_27 ?_
      refine z_aload_n C 0 rfl d_Ps_hear_30 rfl ?_
      refine z_getI C 5 (by decide) 9 (by decide) rfl (Or.inl ⟨rfl, ga0⟩) ha0 zfl_5_41 d_Ps_hear_31 ?_
      refine z_iload_n C 2 rfl d_Ps_hear_34 rfl ?_
      refine z_fact (fun hSR => ?_)
      obtain ⟨g4, h⟩ := zgd_some h
      refine z_iastoreS C (Or.inl ⟨rfl, (zko_5_4 ha0 ga0).1⟩) (zko_5_4 ha0 ga0).2 (zsa_5_4 hSR ha0 ga0) g4 d_Ps_hear_35 ?_
      refine z_aload_n C 0 rfl d_Ps_hear_36 rfl ?_
      refine z_dup C rfl d_Ps_hear_37 ?_
      refine z_getI C 5 (by decide) 9 (by decide) rfl (Or.inl ⟨rfl, ga0⟩) ha0 zfl_5_41 d_Ps_hear_38 ?_
      refine z_iconst C (1 : Int32) (by decide) d_Ps_hear_41 ?_
      refine z_iadd C d_Ps_hear_42 ?_
      refine z_putI C 5 (by decide) 9 (by decide) rfl (Or.inl rfl) (Or.inl ⟨rfl, ga0⟩) ha0 zfl_5_41 (Or.inl rfl) d_Ps_hear_43 ?_
      refine z_aload_n C 0 rfl d_Ps_hear_46 rfl ?_
      refine z_getI C 5 (by decide) 9 (by decide) rfl (Or.inl ⟨rfl, ga0⟩) ha0 zfl_5_41 d_Ps_hear_47 ?_
      cases h
      exact z_iret C .int hret rfl ⟨Nat.zero_le _, Nat.zero_le _⟩ d_Ps_hear_50
def f_E_heard (a1 : Int32) (a2 : Int32) (S : zSt) : Option (Int32 × zSt) := if a2 < 0 then zb2 (f_E_refused (-1 : Int32) S) (fun r3 S4 => some (r3, S4)) else if a2 ≤ (999 : Int32) then zb1 (f_Ps_has 1 a1 S) (fun r7 => if r7 = 0 then zb2 (f_E_refused (-2 : Int32) S) (fun r20 S21 => some (r20, S21)) else if (zI S 1 9) < (6 : Int32) then zb2 (f_Ps_hear 1 a1 a2 S) (fun r11 S12 => zb2 (f_E_granted r11 S12) (fun r14 S15 => some (r14, S15))) else zb2 (f_E_refused (-5 : Int32) S) (fun r17 S18 => some (r17, S18))) else zb2 (f_E_refused (-1 : Int32) S) (fun r23 S24 => some (r23, S24))
set_option maxRecDepth 100000 in
set_option maxHeartbeats 4000000 in
theorem m_E_heard (l : Launch) {a1 : Int32} {a2 : Int32} {S : zSt} {r : Int32} {S1 : zSt} (h : f_E_heard a1 a2 S = some (r, S1)) : zPM l y_E_heard b_E_heard 3 (some .int) rm_E_heard true true [zr (some 0), zi a1, zi a2] S (some (zi r)) S1 := by
  refine zPM_of (by decide) (Nat.le_of_ble_eq_true rfl) (fun p e s m args below meth c G C hret hname => ?_)
  unfold f_E_heard at h
  refine (?_ : zJ p l e rm_E_heard s m args below meth c G true 3 0 0 (zQm below G args s rm_E_heard true (some (zi r)) S1) S 0 [(0, zr (some 0)), (1, zi a1), (2, zi a2)] [])
  refine z_iload_n C 2 rfl d_E_heard_0 rfl ?_
  rcases zite h with ⟨c1, h⟩ | ⟨c1, h⟩
  · refine z_if_ltt C 11 c1 d_E_heard_1 (by decide) ?_
    refine z_aload_n C 0 rfl d_E_heard_11 rfl ?_
    refine z_iconst C (-1 : Int32) (by decide) d_E_heard_12 ?_
    obtain ⟨r3, S4, h2, h⟩ := zb2_some h
    refine z_cV C 0 (by decide) (m_E_refused l h2) mf_E_refused lk_0_109 in_E_refused se_E_refused rfl zo_0 zk_0 ⟨rfl, rfl⟩ ⟨by decide, by decide⟩ ⟨Nat.zero_le _, Nat.zero_le _⟩ rfl _ [] rfl (Nat.le_of_ble_eq_true rfl) d_E_heard_13 ?_
    cases h
    exact z_iret C .int hret rfl ⟨Nat.zero_le _, Nat.zero_le _⟩ d_E_heard_16
  · refine z_if_ltf C 11 c1 d_E_heard_1 (by decide) ?_
    refine z_iload_n C 2 rfl d_E_heard_4 rfl ?_
    refine z_sipush C (999 : Int32) (by decide) d_E_heard_5 ?_
    rcases zite h with ⟨c5, h⟩ | ⟨c5, h⟩
    · refine z_icmp_let C 17 c5 d_E_heard_8 (by decide) ?_
      refine z_aload_n C 0 rfl d_E_heard_17 rfl ?_
      refine z_getF2 C 0 (by decide) 0 (by decide) rfl 1 0 rfl (1) rfl zp_0 zk_0 zfl_0_12 d_E_heard_18 ?_
      refine z_iload_n C 1 rfl d_E_heard_21 rfl ?_
      obtain ⟨r7, h6, h⟩ := zb1_some h
      refine z_cV C 5 (by decide) (m_Ps_has l zk_1 (Nat.le_of_ble_eq_true rfl) h6) mf_Ps_has lk_0_126 in_Ps_has se_Ps_has rfl zo_1 zk_1 ⟨rfl, rfl⟩ ⟨by decide, by decide⟩ ⟨Nat.zero_le _, Nat.zero_le _⟩ rfl _ [] rfl (Nat.le_of_ble_eq_true rfl) d_E_heard_22 ?_
      rcases zite h with ⟨c8, h⟩ | ⟨c8, h⟩
      · refine z_if_nef C 35 c8 d_E_heard_25 (by decide) ?_
        refine z_aload_n C 0 rfl d_E_heard_28 rfl ?_
        refine z_bipush C (-2 : Int32) (by decide) d_E_heard_29 ?_
        obtain ⟨r20, S21, h19, h⟩ := zb2_some h
        refine z_cV C 0 (by decide) (m_E_refused l h19) mf_E_refused lk_0_109 in_E_refused se_E_refused rfl zo_0 zk_0 ⟨rfl, rfl⟩ ⟨by decide, by decide⟩ ⟨Nat.zero_le _, Nat.zero_le _⟩ rfl _ [] rfl (Nat.le_of_ble_eq_true rfl) d_E_heard_31 ?_
        cases h
        exact z_iret C .int hret rfl ⟨Nat.zero_le _, Nat.zero_le _⟩ d_E_heard_34
      · refine z_if_net C 35 c8 d_E_heard_25 (by decide) ?_
        refine z_aload_n C 0 rfl d_E_heard_35 rfl ?_
        refine z_getF2 C 0 (by decide) 0 (by decide) rfl 1 0 rfl (1) rfl zp_0 zk_0 zfl_0_12 d_E_heard_36 ?_
        refine z_getI C 5 (by decide) 9 (by decide) rfl zo_1 zk_1 zfl_0_283 d_E_heard_39 ?_
        refine z_bipush C (6 : Int32) (by decide) d_E_heard_42 ?_
        rcases zite h with ⟨c9, h⟩ | ⟨c9, h⟩
        · refine z_icmp_ltt C 54 c9 d_E_heard_44 (by decide) ?_
          refine z_aload_n C 0 rfl d_E_heard_54 rfl ?_
          refine z_aload_n C 0 rfl d_E_heard_55 rfl ?_
          refine z_getF2 C 0 (by decide) 0 (by decide) rfl 1 0 rfl (1) rfl zp_0 zk_0 zfl_0_12 d_E_heard_56 ?_
          refine z_iload_n C 1 rfl d_E_heard_59 rfl ?_
          refine z_iload_n C 2 rfl d_E_heard_60 rfl ?_
          obtain ⟨r11, S12, h10, h⟩ := zb2_some h
          refine z_cV C 5 (by decide) (m_Ps_hear l zk_1 (Nat.le_of_ble_eq_true rfl) h10) mf_Ps_hear lk_0_286 in_Ps_hear se_Ps_hear rfl zo_1 zk_1 ⟨rfl, rfl⟩ ⟨by decide, by decide⟩ ⟨Nat.zero_le _, Nat.zero_le _⟩ rfl _ [zr (some 0)] rfl (Nat.le_of_ble_eq_true rfl) d_E_heard_61 ?_
          obtain ⟨r14, S15, h13, h⟩ := zb2_some h
          refine z_cV C 0 (by decide) (m_E_granted l h13) mf_E_granted lk_0_123 in_E_granted se_E_granted rfl zo_0 zk_0 ⟨rfl, rfl⟩ ⟨by decide, by decide⟩ ⟨Nat.zero_le _, Nat.zero_le _⟩ rfl _ [] rfl (Nat.le_of_ble_eq_true rfl) d_E_heard_64 ?_
          cases h
          exact z_iret C .int hret rfl ⟨Nat.zero_le _, Nat.zero_le _⟩ d_E_heard_67
        · refine z_icmp_ltf C 54 c9 d_E_heard_44 (by decide) ?_
          refine z_aload_n C 0 rfl d_E_heard_47 rfl ?_
          refine z_bipush C (-5 : Int32) (by decide) d_E_heard_48 ?_
          obtain ⟨r17, S18, h16, h⟩ := zb2_some h
          refine z_cV C 0 (by decide) (m_E_refused l h16) mf_E_refused lk_0_109 in_E_refused se_E_refused rfl zo_0 zk_0 ⟨rfl, rfl⟩ ⟨by decide, by decide⟩ ⟨Nat.zero_le _, Nat.zero_le _⟩ rfl _ [] rfl (Nat.le_of_ble_eq_true rfl) d_E_heard_50 ?_
          cases h
          exact z_iret C .int hret rfl ⟨Nat.zero_le _, Nat.zero_le _⟩ d_E_heard_53
    · refine z_icmp_lef C 17 c5 d_E_heard_8 (by decide) ?_
      refine z_aload_n C 0 rfl d_E_heard_11 rfl ?_
      refine z_iconst C (-1 : Int32) (by decide) d_E_heard_12 ?_
      obtain ⟨r23, S24, h22, h⟩ := zb2_some h
      refine z_cV C 0 (by decide) (m_E_refused l h22) mf_E_refused lk_0_109 in_E_refused se_E_refused rfl zo_0 zk_0 ⟨rfl, rfl⟩ ⟨by decide, by decide⟩ ⟨Nat.zero_le _, Nat.zero_le _⟩ rfl _ [] rfl (Nat.le_of_ble_eq_true rfl) d_E_heard_13 ?_
      cases h
      exact z_iret C .int hret rfl ⟨Nat.zero_le _, Nat.zero_le _⟩ d_E_heard_16
def f_E_forget (S : zSt) : Option (Int32 × zSt) := some (zI S 1 9, zwI S 1 9 (0 : Int32))
set_option maxRecDepth 100000 in
set_option maxHeartbeats 4000000 in
theorem m_E_forget (l : Launch) {S : zSt} {r : Int32} {S1 : zSt} (h : f_E_forget  S = some (r, S1)) : zPM l y_E_forget b_E_forget 2 (some .int) rm_E_forget true true [zr (some 0)] S (some (zi r)) S1 := by
  refine zPM_of (by decide) (Nat.le_of_ble_eq_true rfl) (fun p e s m args below meth c G C hret hname => ?_)
  unfold f_E_forget at h
  refine (?_ : zJ p l e rm_E_forget s m args below meth c G true 2 0 0 (zQm below G args s rm_E_forget true (some (zi r)) S1) S 0 [(0, zr (some 0))] [])
  refine z_aload_n C 0 rfl d_E_forget_0 rfl ?_
  refine z_getF2 C 0 (by decide) 0 (by decide) rfl 1 0 rfl (1) rfl zp_0 zk_0 zfl_0_12 d_E_forget_1 ?_
  refine z_getI C 5 (by decide) 9 (by decide) rfl zo_1 zk_1 zfl_0_283 d_E_forget_4 ?_
  refine z_istore_n C [(1, zi (zI S 1 9)), (0, zr (some 0))] d_E_forget_7 rfl (by decide) rfl ?_
  refine z_aload_n C 1 rfl d_E_forget_8 rfl ?_
  refine z_getF2 C 0 (by decide) 0 (by decide) rfl 1 0 rfl (1) rfl zp_0 zk_0 zfl_0_12 d_E_forget_9 ?_
  refine z_iconst C (0 : Int32) (by decide) d_E_forget_12 ?_
  refine z_putI C 5 (by decide) 9 (by decide) rfl (Or.inl rfl) zo_1 zk_1 zfl_0_283 (Or.inl rfl) d_E_forget_13 ?_
  refine z_iload_n C 0 rfl d_E_forget_16 rfl ?_
  cases h
  exact z_iret C .int hret rfl ⟨Nat.zero_le _, Nat.zero_le _⟩ d_E_forget_17
def f_Ru_startBy_80 (fu : Nat) (a1 : Nat) (a3 : Int32) (S : zSt) : Option Int32 := if a3 = (-1 : Int32) then some (0 : Int32) else some a3
def f_Ru_startBy_5 (fu : Nat) (a1 : Nat) : Nat → Int32 → Int32 → Int32 → zSt → Option Int32
  | 0, _, _, _, _ => none
  | n + 1, a2, a3, a4, S => if (zI S a1 9) ≤ a4 then f_Ru_startBy_80 fu a1 a3 S else if (6 : Int32) ≤ a4 then f_Ru_startBy_80 fu a1 a3 S else zgd (0 ≤ a4 ∧ a4.toNatClampNeg < 6) (zb1 (f_Pa_soonest a2 (zI S (a1 + 3) a4.toNatClampNeg) S) (fun r5 => zgd (0 ≤ a4 ∧ a4.toNatClampNeg < 6) (if r5 = (-1 : Int32) then some (-1 : Int32) else if ((zI S (a1 + 4) a4.toNatClampNeg) - r5) < 0 then some (-1 : Int32) else if a3 = (-1 : Int32) then f_Ru_startBy_5 fu a1 n a2 ((zI S (a1 + 4) a4.toNatClampNeg) - r5) (a4 + (1 : Int32)) S else if a3 = ((zI S (a1 + 4) a4.toNatClampNeg) - r5) then f_Ru_startBy_5 fu a1 n a2 ((zI S (a1 + 4) a4.toNatClampNeg) - r5) (a4 + (1 : Int32)) S else some (-1 : Int32))))
def f_Ru_startBy (fu : Nat) (a1 : Nat) (a2 : Int32) (S : zSt) : Option Int32 := f_Ru_startBy_5 fu a1 fu a2 (-1 : Int32) (0 : Int32) S
set_option maxRecDepth 100000 in
set_option maxHeartbeats 4000000 in
theorem c_Ru_startBy_80 {p : Program} {l : Launch} {e : Env} {s : State} {m : MethodId} {args : Array Value} {below : List Frame} {meth : Method} {c : Code} {G : zG} (C : zC p s m args meth c G b_Ru_startBy 7 y_Ru_startBy.cls) (hret : meth.sig.returnType = (some .int)) {fu : Nat} {a1 : Nat} {r : Int32} (ha1 : zK a1 = 5) (ga1 : a1 < zN0) : ∀ (a3 : Int32) (S : zSt) , f_Ru_startBy_80 fu a1 a3 S = some r → zJ p l e rm_Ru_startBy s m args below meth c G true 7 0 0 (zQm below G args s rm_Ru_startBy true (some (zi r)) S) S 80 [(3, zi a3)] [] := by
  intro a3 S h
  unfold f_Ru_startBy_80 at h
  refine z_iload_n C 0 rfl d_Ru_startBy_80 rfl ?_
  refine z_iconst C (-1 : Int32) (by decide) d_Ru_startBy_81 ?_
  rcases zite h with ⟨c1, h⟩ | ⟨c1, h⟩
  · refine z_icmp_nef C 89 c1 d_Ru_startBy_82 (by decide) ?_
    refine z_iconst C (0 : Int32) (by decide) d_Ru_startBy_85 ?_
    refine z_goto C 90 d_Ru_startBy_86 (by decide) ?_
    cases h
    exact z_iret C .int hret rfl ⟨Nat.zero_le _, Nat.zero_le _⟩ d_Ru_startBy_90
  · refine z_icmp_net C 89 c1 d_Ru_startBy_82 (by decide) ?_
    refine z_iload_n C 0 rfl d_Ru_startBy_89 rfl ?_
    cases h
    exact z_iret C .int hret rfl ⟨Nat.zero_le _, Nat.zero_le _⟩ d_Ru_startBy_90
set_option maxRecDepth 100000 in
set_option maxHeartbeats 4000000 in
theorem c_Ru_startBy_5 {p : Program} {l : Launch} {e : Env} {s : State} {m : MethodId} {args : Array Value} {below : List Frame} {meth : Method} {c : Code} {G : zG} (C : zC p s m args meth c G b_Ru_startBy 7 y_Ru_startBy.cls) (hret : meth.sig.returnType = (some .int)) {fu : Nat} {a1 : Nat} {r : Int32} (ha1 : zK a1 = 5) (ga1 : a1 < zN0) : ∀ (n : Nat) (a2 : Int32) (a3 : Int32) (a4 : Int32) (S : zSt) , f_Ru_startBy_5 fu a1 n a2 a3 a4 S = some r → zJ p l e rm_Ru_startBy s m args below meth c G true 7 0 0 (zQm below G args s rm_Ru_startBy true (some (zi r)) S) S 5 [(0, zr (some 55)), (1, zr (some a1)), (2, zi a2), (3, zi a3), (4, zi a4)] [] := by
  intro n
  induction n with
  | zero =>
    intro a2 a3 a4 S h
    cases h
  | succ n ih =>
    intro a2 a3 a4 S h
    rw [f_Ru_startBy_5] at h
    refine z_iload C 4 rfl d_Ru_startBy_5 ?_
    refine z_aload_n C 1 rfl d_Ru_startBy_7 rfl ?_
    refine z_getI C 5 (by decide) 9 (by decide) rfl (Or.inl ⟨rfl, ga1⟩) ha1 zfl_8_26 d_Ru_startBy_8 ?_
    rcases zite h with ⟨c1, h⟩ | ⟨c1, h⟩
    · refine z_icmp_get C 80 c1 d_Ru_startBy_11 (by decide) ?_
      refine zq_lsub [3] [(3, zi a3)] rfl ?_
      exact c_Ru_startBy_80 C hret ha1 ga1  a3 S h
    · refine z_icmp_gef C 80 c1 d_Ru_startBy_11 (by decide) ?_
      refine z_iload C 4 rfl d_Ru_startBy_14 ?_
      refine z_bipush C (6 : Int32) (by decide) d_Ru_startBy_16 ?_
      rcases zite h with ⟨c2, h⟩ | ⟨c2, h⟩
      · refine z_icmp_get C 80 c2 d_Ru_startBy_18 (by decide) ?_
        refine zq_lsub [3] [(3, zi a3)] rfl ?_
        exact c_Ru_startBy_80 C hret ha1 ga1  a3 S h
      · refine z_icmp_gef C 80 c2 d_Ru_startBy_18 (by decide) ?_
        refine z_aload_n C 0 rfl d_Ru_startBy_21 rfl ?_
        refine z_iload_n C 2 rfl d_Ru_startBy_22 rfl ?_
        refine z_aload_n C 1 rfl d_Ru_startBy_23 rfl ?_
        refine z_getFN2 C 5 (by decide) 10 (by decide) rfl 3 6 rfl (a1 + 3) rfl (Or.inl ga1) ha1 C.2.2.2.2.2.2.2.2.2.1.1 d_Ru_startBy_24 ?_
        refine z_iload C 4 rfl d_Ru_startBy_27 ?_
        refine z_fact (fun hSR => ?_)
        obtain ⟨g3, h⟩ := zgd_some h
        refine z_ialoadS C (Or.inl ⟨rfl, (zko_5_3 ha1 ga1).1⟩) (zko_5_3 ha1 ga1).2 (zsa_5_3 hSR ha1 ga1) g3 d_Ru_startBy_29 ?_
        obtain ⟨r5, h4, h⟩ := zb1_some h
        refine z_cV C 4 (by decide) (m_Pa_soonest l h4) mf_Pa_soonest lk_8_34 in_Pa_soonest se_Pa_soonest rfl zo_55 zk_55 ⟨rfl, rfl⟩ ⟨by decide, by decide⟩ ⟨Nat.zero_le _, Nat.zero_le _⟩ rfl _ [] rfl (Nat.le_of_ble_eq_true rfl) d_Ru_startBy_30 ?_
        refine z_istore C [(5, zi r5), (0, zr (some 55)), (1, zr (some a1)), (2, zi a2), (3, zi a3), (4, zi a4)] d_Ru_startBy_33 (by decide) rfl ?_
        refine z_aload_n C 2 rfl d_Ru_startBy_35 rfl ?_
        refine z_getFN2 C 5 (by decide) 11 (by decide) rfl 4 6 rfl (a1 + 4) rfl (Or.inl ga1) ha1 C.2.2.2.2.2.2.2.2.2.1.2 d_Ru_startBy_36 ?_
        refine z_iload C 5 rfl d_Ru_startBy_39 ?_
        refine z_fact (fun hSR => ?_)
        obtain ⟨g6, h⟩ := zgd_some h
        refine z_ialoadS C (Or.inl ⟨rfl, (zko_5_4 ha1 ga1).1⟩) (zko_5_4 ha1 ga1).2 (zsa_5_4 hSR ha1 ga1) g6 d_Ru_startBy_41 ?_
        refine z_iload C 0 rfl d_Ru_startBy_42 ?_
        refine z_isub C d_Ru_startBy_44 ?_
        refine z_istore C [(6, zi ((zI S (a1 + 4) a4.toNatClampNeg) - r5)), (5, zi r5), (0, zr (some 55)), (1, zr (some a1)), (2, zi a2), (3, zi a3), (4, zi a4)] d_Ru_startBy_45 (by decide) rfl ?_
        refine z_iload C 1 rfl d_Ru_startBy_47 ?_
        refine z_iconst C (-1 : Int32) (by decide) d_Ru_startBy_49 ?_
        rcases zite h with ⟨c7, h⟩ | ⟨c7, h⟩
        · refine z_icmp_eqt C 69 c7 d_Ru_startBy_50 (by decide) ?_
          refine z_iconst C (-1 : Int32) (by decide) d_Ru_startBy_69 ?_
          cases h
          exact z_iret C .int hret rfl ⟨Nat.zero_le _, Nat.zero_le _⟩ d_Ru_startBy_70
        · refine z_icmp_eqf C 69 c7 d_Ru_startBy_50 (by decide) ?_
          refine z_iload C 0 rfl d_Ru_startBy_53 ?_
          rcases zite h with ⟨c8, h⟩ | ⟨c8, h⟩
          · refine z_if_ltt C 69 c8 d_Ru_startBy_55 (by decide) ?_
            refine z_iconst C (-1 : Int32) (by decide) d_Ru_startBy_69 ?_
            cases h
            exact z_iret C .int hret rfl ⟨Nat.zero_le _, Nat.zero_le _⟩ d_Ru_startBy_70
          · refine z_if_ltf C 69 c8 d_Ru_startBy_55 (by decide) ?_
            refine z_iload_n C 5 rfl d_Ru_startBy_58 rfl ?_
            refine z_iconst C (-1 : Int32) (by decide) d_Ru_startBy_59 ?_
            rcases zite h with ⟨c9, h⟩ | ⟨c9, h⟩
            · refine z_icmp_eqt C 71 c9 d_Ru_startBy_60 (by decide) ?_
              refine z_iload C 0 rfl d_Ru_startBy_71 ?_
              refine z_istore_n C [(3, zi ((zI S (a1 + 4) a4.toNatClampNeg) - r5)), (6, zi ((zI S (a1 + 4) a4.toNatClampNeg) - r5)), (5, zi r5), (0, zr (some 55)), (1, zr (some a1)), (2, zi a2), (4, zi a4)] d_Ru_startBy_73 rfl (by decide) rfl ?_
              refine z_iinc C 6 (a4 + (1 : Int32)) [(4, zi (a4 + (1 : Int32))), (3, zi ((zI S (a1 + 4) a4.toNatClampNeg) - r5)), (6, zi ((zI S (a1 + 4) a4.toNatClampNeg) - r5)), (5, zi r5), (0, zr (some 55)), (1, zr (some a1)), (2, zi a2)] rfl d_Ru_startBy_74 (by first | rfl | decide) (by decide) rfl ?_
              refine z_goto C 5 d_Ru_startBy_77 (by decide) ?_
              refine zq_lsub [4, 5, 6, 1, 0] [(0, zr (some 55)), (1, zr (some a1)), (2, zi a2), (3, zi ((zI S (a1 + 4) a4.toNatClampNeg) - r5)), (4, zi (a4 + (1 : Int32)))] rfl ?_
              exact ih a2 ((zI S (a1 + 4) a4.toNatClampNeg) - r5) (a4 + (1 : Int32)) S h
            · refine z_icmp_eqf C 71 c9 d_Ru_startBy_60 (by decide) ?_
              refine z_iload_n C 5 rfl d_Ru_startBy_63 rfl ?_
              refine z_iload C 0 rfl d_Ru_startBy_64 ?_
              rcases zite h with ⟨c10, h⟩ | ⟨c10, h⟩
              · refine z_icmp_eqt C 71 c10 d_Ru_startBy_66 (by decide) ?_
                refine z_iload C 0 rfl d_Ru_startBy_71 ?_
                refine z_istore_n C [(3, zi ((zI S (a1 + 4) a4.toNatClampNeg) - r5)), (6, zi ((zI S (a1 + 4) a4.toNatClampNeg) - r5)), (5, zi r5), (0, zr (some 55)), (1, zr (some a1)), (2, zi a2), (4, zi a4)] d_Ru_startBy_73 rfl (by decide) rfl ?_
                refine z_iinc C 6 (a4 + (1 : Int32)) [(4, zi (a4 + (1 : Int32))), (3, zi ((zI S (a1 + 4) a4.toNatClampNeg) - r5)), (6, zi ((zI S (a1 + 4) a4.toNatClampNeg) - r5)), (5, zi r5), (0, zr (some 55)), (1, zr (some a1)), (2, zi a2)] rfl d_Ru_startBy_74 (by first | rfl | decide) (by decide) rfl ?_
                refine z_goto C 5 d_Ru_startBy_77 (by decide) ?_
                refine zq_lsub [4, 5, 6, 1, 0] [(0, zr (some 55)), (1, zr (some a1)), (2, zi a2), (3, zi ((zI S (a1 + 4) a4.toNatClampNeg) - r5)), (4, zi (a4 + (1 : Int32)))] rfl ?_
                exact ih a2 ((zI S (a1 + 4) a4.toNatClampNeg) - r5) (a4 + (1 : Int32)) S h
              · refine z_icmp_eqf C 71 c10 d_Ru_startBy_66 (by decide) ?_
                refine z_iconst C (-1 : Int32) (by decide) d_Ru_startBy_69 ?_
                cases h
                exact z_iret C .int hret rfl ⟨Nat.zero_le _, Nat.zero_le _⟩ d_Ru_startBy_70
set_option maxRecDepth 100000 in
set_option maxHeartbeats 4000000 in
theorem m_Ru_startBy (l : Launch) {fu : Nat} {a1 : Nat} {a2 : Int32} {S : zSt} {r : Int32} (ha1 : zK a1 = 5) (ga1 : a1 < zN0) (h : f_Ru_startBy fu a1 a2 S = some r) : zPM l y_Ru_startBy b_Ru_startBy 7 (some .int) rm_Ru_startBy true true [zr (some 55), zr (some a1), zi a2] S (some (zi r)) S := by
  refine zPM_of (by decide) (Nat.le_of_ble_eq_true rfl) (fun p e s m args below meth c G C hret hname => ?_)
  unfold f_Ru_startBy at h
  refine (?_ : zJ p l e rm_Ru_startBy s m args below meth c G true 7 0 0 (zQm below G args s rm_Ru_startBy true (some (zi r)) S) S 0 [(0, zr (some 55)), (1, zr (some a1)), (2, zi a2)] [])
  refine z_iconst C (-1 : Int32) (by decide) d_Ru_startBy_0 ?_
  refine z_istore_n C [(3, zi (-1 : Int32)), (0, zr (some 55)), (1, zr (some a1)), (2, zi a2)] d_Ru_startBy_1 rfl (by decide) rfl ?_
  refine z_iconst C (0 : Int32) (by decide) d_Ru_startBy_2 ?_
  refine z_istore C [(4, zi (0 : Int32)), (3, zi (-1 : Int32)), (0, zr (some 55)), (1, zr (some a1)), (2, zi a2)] d_Ru_startBy_3 (by decide) rfl ?_
  refine zq_lsub [2, 3, 4, 1, 0] [(0, zr (some 55)), (1, zr (some a1)), (2, zi a2), (3, zi (-1 : Int32)), (4, zi (0 : Int32))] rfl ?_
  exact c_Ru_startBy_5 C hret ha1 ga1 fu  a2 (-1 : Int32) (0 : Int32) S h
def f_Ru_fill_10 (fu : Nat) (a2 : Nat) : Nat → Int32 → zSt → Option zSt
  | 0, _, _ => none
  | n + 1, a3, S => if (zI S 67 1) ≤ a3 then some S else zb1 (f_Ru_startBy fu a2 a3 S) (fun r3 => zgd (0 ≤ a3 ∧ a3.toNatClampNeg < 9) (f_Ru_fill_10 fu a2 n (a3 + (1 : Int32)) (zwI S 68 a3.toNatClampNeg r3)))
def f_Ru_fill (fu : Nat) (a2 : Nat) (S : zSt) : Option zSt := f_Ru_fill_10 fu a2 fu (0 : Int32) (zwI S 67 1 (zI S 55 0))
set_option maxRecDepth 100000 in
set_option maxHeartbeats 4000000 in
theorem c_Ru_fill_10 {p : Program} {l : Launch} {e : Env} {s : State} {m : MethodId} {args : Array Value} {below : List Frame} {meth : Method} {c : Code} {G : zG} (C : zC p s m args meth c G b_Ru_fill 4 y_Ru_fill.cls) (hret : meth.sig.returnType = none) {fu : Nat} {a2 : Nat} {S1 : zSt} (ha2 : zK a2 = 5) (ga2 : a2 < zN0) : ∀ (n : Nat) (a3 : Int32) (S : zSt) , f_Ru_fill_10 fu a2 n a3 S = some S1 → zJ p l e rm_Ru_fill s m args below meth c G true 4 0 0 (zQm below G args s rm_Ru_fill true none S1) S 10 [(0, zr (some 67)), (1, zr (some 55)), (2, zr (some a2)), (3, zi a3)] [] := by
  intro n
  induction n with
  | zero =>
    intro a3 S h
    cases h
  | succ n ih =>
    intro a3 S h
    rw [f_Ru_fill_10] at h
    refine z_iload_n C 3 rfl d_Ru_fill_10 rfl ?_
    refine z_aload_n C 0 rfl d_Ru_fill_11 rfl ?_
    refine z_getI C 8 (by decide) 1 (by decide) rfl zo_67 zk_67 zfl_8_15 d_Ru_fill_12 ?_
    rcases zite h with ⟨c1, h⟩ | ⟨c1, h⟩
    · refine z_icmp_get C 36 c1 d_Ru_fill_15 (by decide) ?_
      cases h
      exact z_vret C hret ⟨Nat.zero_le _, Nat.zero_le _⟩ d_Ru_fill_36
    · refine z_icmp_gef C 36 c1 d_Ru_fill_15 (by decide) ?_
      refine z_aload_n C 0 rfl d_Ru_fill_18 rfl ?_
      refine z_getF2 C 8 (by decide) 0 (by decide) rfl 1 9 rfl (68) rfl zp_67 zk_67 zfl_8_9 d_Ru_fill_19 ?_
      refine z_iload_n C 3 rfl d_Ru_fill_22 rfl ?_
      refine z_aload_n C 1 rfl d_Ru_fill_23 rfl ?_
      refine z_aload_n C 2 rfl d_Ru_fill_24 rfl ?_
      refine z_iload_n C 3 rfl d_Ru_fill_25 rfl ?_
      obtain ⟨r3, h2, h⟩ := zb1_some h
      refine z_cS C (m_Ru_startBy l ha2 ga2 h2) mf_Ru_startBy lk_8_22 st_Ru_startBy ⟨rfl, rfl⟩ ⟨by decide, by decide⟩ ⟨Nat.zero_le _, Nat.zero_le _⟩ rfl _ [zi a3, zr (some 68)] rfl (Nat.le_of_ble_eq_true rfl) d_Ru_fill_26 ?_
      refine z_fact (fun hSR => ?_)
      obtain ⟨g4, h⟩ := zgd_some h
      refine z_iastoreS C zo_68 zk_68 (za_68 hSR) g4 d_Ru_fill_29 ?_
      refine z_iinc C 3 (a3 + (1 : Int32)) [(3, zi (a3 + (1 : Int32))), (0, zr (some 67)), (1, zr (some 55)), (2, zr (some a2))] rfl d_Ru_fill_30 (by first | rfl | decide) (by decide) rfl ?_
      refine z_goto C 10 d_Ru_fill_33 (by decide) ?_
      refine zq_lsub [1, 2, 3, 0] [(0, zr (some 67)), (1, zr (some 55)), (2, zr (some a2)), (3, zi (a3 + (1 : Int32)))] rfl ?_
      exact ih (a3 + (1 : Int32)) (zwI S 68 a3.toNatClampNeg r3) h
set_option maxRecDepth 100000 in
set_option maxHeartbeats 4000000 in
theorem m_Ru_fill (l : Launch) {fu : Nat} {a2 : Nat} {S : zSt} {S1 : zSt} (ha2 : zK a2 = 5) (ga2 : a2 < zN0) (h : f_Ru_fill fu a2  S = some S1) : zPM l y_Ru_fill b_Ru_fill 4 none rm_Ru_fill true true [zr (some 67), zr (some 55), zr (some a2)] S none S1 := by
  refine zPM_of (by decide) (Nat.le_of_ble_eq_true rfl) (fun p e s m args below meth c G C hret hname => ?_)
  unfold f_Ru_fill at h
  refine (?_ : zJ p l e rm_Ru_fill s m args below meth c G true 4 0 0 (zQm below G args s rm_Ru_fill true none S1) S 0 [(0, zr (some 67)), (1, zr (some 55)), (2, zr (some a2))] [])
  refine z_aload_n C 0 rfl d_Ru_fill_0 rfl ?_
  refine z_aload_n C 1 rfl d_Ru_fill_1 rfl ?_
  refine z_getI C 4 (by decide) 0 (by decide) rfl zo_55 zk_55 zfl_8_19 d_Ru_fill_2 ?_
  refine z_putI C 8 (by decide) 1 (by decide) rfl (Or.inl rfl) zo_67 zk_67 zfl_8_15 (Or.inl rfl) d_Ru_fill_5 ?_
  refine z_iconst C (0 : Int32) (by decide) d_Ru_fill_8 ?_
  refine z_istore_n C [(3, zi (0 : Int32)), (0, zr (some 67)), (1, zr (some 55)), (2, zr (some a2))] d_Ru_fill_9 rfl (by decide) rfl ?_
  refine zq_lsub [1, 2, 3, 0] [(0, zr (some 67)), (1, zr (some 55)), (2, zr (some a2)), (3, zi (0 : Int32))] rfl ?_
  exact c_Ru_fill_10 C hret ha2 ga2 fu  (0 : Int32) (zwI S 67 1 (zI S 55 0)) h

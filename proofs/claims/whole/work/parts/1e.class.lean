/-! printed by dec4.py: 1e.class -/
abbrev rm_Ru_origins : Room := { frames := 1, cells := 0, slots := 0, locals := 64 }
abbrev rm_E_canBe : Room := { frames := 6, cells := 0, slots := 0, locals := 198 }
abbrev rm_Ru_startAt : Room := { frames := 1, cells := 0, slots := 0, locals := 64 }
abbrev rm_E_since : Room := { frames := 6, cells := 0, slots := 0, locals := 198 }
abbrev rm_Ru_comes : Room := { frames := 3, cells := 0, slots := 0, locals := 108 }
abbrev rm_Ru_leftAt : Room := { frames := 4, cells := 0, slots := 0, locals := 132 }
abbrev rm_Ru_bestEar : Room := { frames := 5, cells := 0, slots := 0, locals := 158 }
abbrev rm_E_listen : Room := { frames := 6, cells := 0, slots := 0, locals := 198 }
abbrev rm_Ar_fillL : Room := { frames := 1, cells := 0, slots := 0, locals := 64 }
abbrev rm_E_pullString : Room := { frames := 1, cells := 0, slots := 0, locals := 64 }
abbrev rm_E_few : Room := { frames := 2, cells := 0, slots := 0, locals := 88 }
abbrev rm_E_compare : Room := { frames := 5, cells := 0, slots := 0, locals := 178 }
abbrev rm_E_nextDraw : Room := { frames := 1, cells := 0, slots := 0, locals := 64 }
abbrev rm_E_actOnPaper : Room := { frames := 5, cells := 0, slots := 0, locals := 174 }
abbrev rm_E_years : Room := { frames := 6, cells := 0, slots := 0, locals := 201 }
abbrev rm_E_drawn : Room := { frames := 2, cells := 0, slots := 0, locals := 85 }
abbrev rm_E_image : Room := { frames := 2, cells := 0, slots := 0, locals := 86 }
abbrev rm_E_back : Room := { frames := 2, cells := 0, slots := 0, locals := 86 }
abbrev rm_Ps_channels : Room := { frames := 1, cells := 0, slots := 0, locals := 64 }
abbrev rm_E_refusalsBy : Room := { frames := 1, cells := 0, slots := 0, locals := 64 }
abbrev rm_E_count : Room := { frames := 2, cells := 0, slots := 0, locals := 86 }
abbrev rm_E_status : Room := { frames := 1, cells := 0, slots := 0, locals := 64 }
def y_Ru_origins : MethodName := ⟨zNm 8, "origins", "()I"⟩
abbrev b_Ru_origins : ByteArray := prog_9_method_4_code
theorem d_Ru_origins_0 : decode b_Ru_origins 0 = .ok (.iconst 0, 1) := by decide +kernel
theorem d_Ru_origins_1 : decode b_Ru_origins 1 = .ok (.istore_n 1, 1) := by decide +kernel
theorem d_Ru_origins_2 : decode b_Ru_origins 2 = .ok (.iconst 0, 1) := by decide +kernel
theorem d_Ru_origins_3 : decode b_Ru_origins 3 = .ok (.istore_n 2, 1) := by decide +kernel
theorem d_Ru_origins_4 : decode b_Ru_origins 4 = .ok (.iload_n 2, 1) := by decide +kernel
theorem d_Ru_origins_5 : decode b_Ru_origins 5 = .ok (.aload_n 0, 1) := by decide +kernel
theorem d_Ru_origins_6 : decode b_Ru_origins 6 = .ok (.getfield 15, 3) := by decide +kernel
theorem d_Ru_origins_9 : decode b_Ru_origins 9 = .ok (.if_icmp .ge 25, 3) := by decide +kernel
theorem d_Ru_origins_12 : decode b_Ru_origins 12 = .ok (.aload_n 0, 1) := by decide +kernel
theorem d_Ru_origins_13 : decode b_Ru_origins 13 = .ok (.getfield 9, 3) := by decide +kernel
theorem d_Ru_origins_16 : decode b_Ru_origins 16 = .ok (.iload_n 2, 1) := by decide +kernel
theorem d_Ru_origins_17 : decode b_Ru_origins 17 = .ok (.iaload, 1) := by decide +kernel
theorem d_Ru_origins_18 : decode b_Ru_origins 18 = .ok (.iconst (-1), 1) := by decide +kernel
theorem d_Ru_origins_19 : decode b_Ru_origins 19 = .ok (.if_icmp .eq 9, 3) := by decide +kernel
theorem d_Ru_origins_22 : decode b_Ru_origins 22 = .ok (.iload_n 1, 1) := by decide +kernel
theorem d_Ru_origins_23 : decode b_Ru_origins 23 = .ok (.iconst 1, 1) := by decide +kernel
theorem d_Ru_origins_24 : decode b_Ru_origins 24 = .ok (.iload_n 2, 1) := by decide +kernel
theorem d_Ru_origins_25 : decode b_Ru_origins 25 = .ok (.ishl, 1) := by decide +kernel
theorem d_Ru_origins_26 : decode b_Ru_origins 26 = .ok (.ior, 1) := by decide +kernel
theorem d_Ru_origins_27 : decode b_Ru_origins 27 = .ok (.istore_n 1, 1) := by decide +kernel
theorem d_Ru_origins_28 : decode b_Ru_origins 28 = .ok (.iinc 2 1, 3) := by decide +kernel
theorem d_Ru_origins_31 : decode b_Ru_origins 31 = .ok (.goto (-27), 3) := by decide +kernel
theorem d_Ru_origins_34 : decode b_Ru_origins 34 = .ok (.iload_n 1, 1) := by decide +kernel
theorem d_Ru_origins_35 : decode b_Ru_origins 35 = .ok (.ireturn, 1) := by decide +kernel
theorem mf_Ru_origins : zMF y_Ru_origins b_Ru_origins 3 (some .int) 0 := ⟨zGW_in 1184 (by decide +kernel) (by decide +kernel), zGW_in 134 (by decide +kernel) (by decide +kernel), by decide +kernel⟩
theorem in_Ru_origins : Cond.instanceMethod y_Ru_origins ∈ zGW := zGW_in 1182 (by decide +kernel) (by decide +kernel)
theorem se_Ru_origins : Cond.selects y_Ru_origins.cls y_Ru_origins y_Ru_origins ∈ zGW := zGW_in 1183 (by decide +kernel) (by decide +kernel)
def y_E_canBe : MethodName := ⟨zNm 0, "canBe", "()I"⟩
abbrev b_E_canBe : ByteArray := prog_1_method_31_code
theorem d_E_canBe_0 : decode b_E_canBe 0 = .ok (.aload_n 0, 1) := by decide +kernel
theorem d_E_canBe_1 : decode b_E_canBe 1 = .ok (.invokevirtual 226, 3) := by decide +kernel
theorem d_E_canBe_4 : decode b_E_canBe 4 = .ok (.aload_n 0, 1) := by decide +kernel
theorem d_E_canBe_5 : decode b_E_canBe 5 = .ok (.getfield 81, 3) := by decide +kernel
theorem d_E_canBe_8 : decode b_E_canBe 8 = .ok (.aload_n 0, 1) := by decide +kernel
theorem d_E_canBe_9 : decode b_E_canBe 9 = .ok (.getfield 60, 3) := by decide +kernel
theorem d_E_canBe_12 : decode b_E_canBe 12 = .ok (.aload_n 0, 1) := by decide +kernel
theorem d_E_canBe_13 : decode b_E_canBe 13 = .ok (.getfield 12, 3) := by decide +kernel
theorem d_E_canBe_16 : decode b_E_canBe 16 = .ok (.invokevirtual 289, 3) := by decide +kernel
theorem d_E_canBe_19 : decode b_E_canBe 19 = .ok (.aload_n 0, 1) := by decide +kernel
theorem d_E_canBe_20 : decode b_E_canBe 20 = .ok (.getfield 81, 3) := by decide +kernel
theorem d_E_canBe_23 : decode b_E_canBe 23 = .ok (.invokevirtual 292, 3) := by decide +kernel
theorem d_E_canBe_26 : decode b_E_canBe 26 = .ok (.ireturn, 1) := by decide +kernel
theorem mf_E_canBe : zMF y_E_canBe b_E_canBe 1 (some .int) 0 := ⟨zGW_in 1172 (by decide +kernel) (by decide +kernel), zGW_in 124 (by decide +kernel) (by decide +kernel), by decide +kernel⟩
theorem in_E_canBe : Cond.instanceMethod y_E_canBe ∈ zGW := zGW_in 1170 (by decide +kernel) (by decide +kernel)
theorem se_E_canBe : Cond.selects y_E_canBe.cls y_E_canBe y_E_canBe ∈ zGW := zGW_in 1171 (by decide +kernel) (by decide +kernel)
def y_Ru_startAt : MethodName := ⟨zNm 8, "startAt", "(I)I"⟩
abbrev b_Ru_startAt : ByteArray := prog_9_method_5_code
theorem d_Ru_startAt_0 : decode b_Ru_startAt 0 = .ok (.iload_n 1, 1) := by decide +kernel
theorem d_Ru_startAt_1 : decode b_Ru_startAt 1 = .ok (.ifCond .lt 20, 3) := by decide +kernel
theorem d_Ru_startAt_4 : decode b_Ru_startAt 4 = .ok (.iload_n 1, 1) := by decide +kernel
theorem d_Ru_startAt_5 : decode b_Ru_startAt 5 = .ok (.aload_n 0, 1) := by decide +kernel
theorem d_Ru_startAt_6 : decode b_Ru_startAt 6 = .ok (.getfield 15, 3) := by decide +kernel
theorem d_Ru_startAt_9 : decode b_Ru_startAt 9 = .ok (.if_icmp .ge 12, 3) := by decide +kernel
theorem d_Ru_startAt_12 : decode b_Ru_startAt 12 = .ok (.aload_n 0, 1) := by decide +kernel
theorem d_Ru_startAt_13 : decode b_Ru_startAt 13 = .ok (.getfield 9, 3) := by decide +kernel
theorem d_Ru_startAt_16 : decode b_Ru_startAt 16 = .ok (.iload_n 1, 1) := by decide +kernel
theorem d_Ru_startAt_17 : decode b_Ru_startAt 17 = .ok (.iaload, 1) := by decide +kernel
theorem d_Ru_startAt_18 : decode b_Ru_startAt 18 = .ok (.goto 4, 3) := by decide +kernel
theorem d_Ru_startAt_21 : decode b_Ru_startAt 21 = .ok (.iconst (-1), 1) := by decide +kernel
theorem d_Ru_startAt_22 : decode b_Ru_startAt 22 = .ok (.ireturn, 1) := by decide +kernel
theorem mf_Ru_startAt : zMF y_Ru_startAt b_Ru_startAt 2 (some .int) 1 := ⟨zGW_in 1192 (by decide +kernel) (by decide +kernel), zGW_in 134 (by decide +kernel) (by decide +kernel), by decide +kernel⟩
theorem in_Ru_startAt : Cond.instanceMethod y_Ru_startAt ∈ zGW := zGW_in 1190 (by decide +kernel) (by decide +kernel)
theorem se_Ru_startAt : Cond.selects y_Ru_startAt.cls y_Ru_startAt y_Ru_startAt ∈ zGW := zGW_in 1191 (by decide +kernel) (by decide +kernel)
def y_E_since : MethodName := ⟨zNm 0, "since", "(I)I"⟩
abbrev b_E_since : ByteArray := prog_1_method_32_code
theorem d_E_since_0 : decode b_E_since 0 = .ok (.aload_n 0, 1) := by decide +kernel
theorem d_E_since_1 : decode b_E_since 1 = .ok (.getfield 12, 3) := by decide +kernel
theorem d_E_since_4 : decode b_E_since 4 = .ok (.getfield 283, 3) := by decide +kernel
theorem d_E_since_7 : decode b_E_since 7 = .ok (.ifCond .eq 14, 3) := by decide +kernel
theorem d_E_since_10 : decode b_E_since 10 = .ok (.aload_n 0, 1) := by decide +kernel
theorem d_E_since_11 : decode b_E_since 11 = .ok (.getfield 12, 3) := by decide +kernel
theorem d_E_since_14 : decode b_E_since 14 = .ok (.iload_n 1, 1) := by decide +kernel
theorem d_E_since_15 : decode b_E_since 15 = .ok (.invokevirtual 126, 3) := by decide +kernel
theorem d_E_since_18 : decode b_E_since 18 = .ok (.ifCond .ne 5, 3) := by decide +kernel
theorem d_E_since_21 : decode b_E_since 21 = .ok (.iconst (-1), 1) := by decide +kernel
theorem d_E_since_22 : decode b_E_since 22 = .ok (.ireturn, 1) := by decide +kernel
theorem d_E_since_23 : decode b_E_since 23 = .ok (.aload_n 0, 1) := by decide +kernel
theorem d_E_since_24 : decode b_E_since 24 = .ok (.invokevirtual 226, 3) := by decide +kernel
theorem d_E_since_27 : decode b_E_since 27 = .ok (.aload_n 0, 1) := by decide +kernel
theorem d_E_since_28 : decode b_E_since 28 = .ok (.getfield 81, 3) := by decide +kernel
theorem d_E_since_31 : decode b_E_since 31 = .ok (.aload_n 0, 1) := by decide +kernel
theorem d_E_since_32 : decode b_E_since 32 = .ok (.getfield 60, 3) := by decide +kernel
theorem d_E_since_35 : decode b_E_since 35 = .ok (.aload_n 0, 1) := by decide +kernel
theorem d_E_since_36 : decode b_E_since 36 = .ok (.getfield 12, 3) := by decide +kernel
theorem d_E_since_39 : decode b_E_since 39 = .ok (.invokevirtual 289, 3) := by decide +kernel
theorem d_E_since_42 : decode b_E_since 42 = .ok (.aload_n 0, 1) := by decide +kernel
theorem d_E_since_43 : decode b_E_since 43 = .ok (.getfield 81, 3) := by decide +kernel
theorem d_E_since_46 : decode b_E_since 46 = .ok (.iload_n 1, 1) := by decide +kernel
theorem d_E_since_47 : decode b_E_since 47 = .ok (.invokevirtual 295, 3) := by decide +kernel
theorem d_E_since_50 : decode b_E_since 50 = .ok (.ireturn, 1) := by decide +kernel
theorem mf_E_since : zMF y_E_since b_E_since 2 (some .int) 1 := ⟨zGW_in 1188 (by decide +kernel) (by decide +kernel), zGW_in 124 (by decide +kernel) (by decide +kernel), by decide +kernel⟩
theorem in_E_since : Cond.instanceMethod y_E_since ∈ zGW := zGW_in 1186 (by decide +kernel) (by decide +kernel)
theorem se_E_since : Cond.selects y_E_since.cls y_E_since y_E_since ∈ zGW := zGW_in 1187 (by decide +kernel) (by decide +kernel)
def y_Ru_comes : MethodName := ⟨zNm 8, "comes", "(LEelClerk$Paper;II)I"⟩
abbrev b_Ru_comes : ByteArray := prog_9_method_8_code
theorem d_Ru_comes_0 : decode b_Ru_comes 0 = .ok (.aload_n 1, 1) := by decide +kernel
theorem d_Ru_comes_1 : decode b_Ru_comes 1 = .ok (.iload_n 2, 1) := by decide +kernel
theorem d_Ru_comes_2 : decode b_Ru_comes 2 = .ok (.iload_n 3, 1) := by decide +kernel
theorem d_Ru_comes_3 : decode b_Ru_comes 3 = .ok (.invokevirtual 34, 3) := by decide +kernel
theorem d_Ru_comes_6 : decode b_Ru_comes 6 = .ok (.istore 4, 2) := by decide +kernel
theorem d_Ru_comes_8 : decode b_Ru_comes 8 = .ok (.iload 4, 2) := by decide +kernel
theorem d_Ru_comes_10 : decode b_Ru_comes 10 = .ok (.iconst (-1), 1) := by decide +kernel
theorem d_Ru_comes_11 : decode b_Ru_comes 11 = .ok (.if_icmp .ne 7, 3) := by decide +kernel
theorem d_Ru_comes_14 : decode b_Ru_comes 14 = .ok (.iconst (-1), 1) := by decide +kernel
theorem d_Ru_comes_15 : decode b_Ru_comes 15 = .ok (.goto 12, 3) := by decide +kernel
theorem d_Ru_comes_18 : decode b_Ru_comes 18 = .ok (.aload_n 0, 1) := by decide +kernel
theorem d_Ru_comes_19 : decode b_Ru_comes 19 = .ok (.getfield 9, 3) := by decide +kernel
theorem d_Ru_comes_22 : decode b_Ru_comes 22 = .ok (.iload_n 2, 1) := by decide +kernel
theorem d_Ru_comes_23 : decode b_Ru_comes 23 = .ok (.iaload, 1) := by decide +kernel
theorem d_Ru_comes_24 : decode b_Ru_comes 24 = .ok (.iload 4, 2) := by decide +kernel
theorem d_Ru_comes_26 : decode b_Ru_comes 26 = .ok (.iadd, 1) := by decide +kernel
theorem d_Ru_comes_27 : decode b_Ru_comes 27 = .ok (.ireturn, 1) := by decide +kernel
theorem mf_Ru_comes : zMF y_Ru_comes b_Ru_comes 5 (some .int) 3 := ⟨zGW_in 1209 (by decide +kernel) (by decide +kernel), zGW_in 134 (by decide +kernel) (by decide +kernel), by decide +kernel⟩
theorem in_Ru_comes : Cond.instanceMethod y_Ru_comes ∈ zGW := zGW_in 1208 (by decide +kernel) (by decide +kernel)
theorem se_Ru_comes : Cond.selects y_Ru_comes.cls y_Ru_comes y_Ru_comes ∈ zGW := zGW_in 35 (by decide +kernel) (by decide +kernel)
def y_Ru_leftAt : MethodName := ⟨zNm 8, "leftAt", "(LEelClerk$Paper;I)I"⟩
abbrev b_Ru_leftAt : ByteArray := prog_9_method_7_code
theorem d_Ru_leftAt_0 : decode b_Ru_leftAt 0 = .ok (.iconst 0, 1) := by decide +kernel
theorem d_Ru_leftAt_1 : decode b_Ru_leftAt 1 = .ok (.istore_n 3, 1) := by decide +kernel
theorem d_Ru_leftAt_2 : decode b_Ru_leftAt 2 = .ok (.iconst 0, 1) := by decide +kernel
theorem d_Ru_leftAt_3 : decode b_Ru_leftAt 3 = .ok (.istore 4, 2) := by decide +kernel
theorem d_Ru_leftAt_5 : decode b_Ru_leftAt 5 = .ok (.iload 4, 2) := by decide +kernel
theorem d_Ru_leftAt_7 : decode b_Ru_leftAt 7 = .ok (.aload_n 0, 1) := by decide +kernel
theorem d_Ru_leftAt_8 : decode b_Ru_leftAt 8 = .ok (.getfield 15, 3) := by decide +kernel
theorem d_Ru_leftAt_11 : decode b_Ru_leftAt 11 = .ok (.if_icmp .ge 87, 3) := by decide +kernel
theorem d_Ru_leftAt_14 : decode b_Ru_leftAt 14 = .ok (.iconst 0, 1) := by decide +kernel
theorem d_Ru_leftAt_15 : decode b_Ru_leftAt 15 = .ok (.istore 5, 2) := by decide +kernel
theorem d_Ru_leftAt_17 : decode b_Ru_leftAt 17 = .ok (.iconst 0, 1) := by decide +kernel
theorem d_Ru_leftAt_18 : decode b_Ru_leftAt 18 = .ok (.istore 6, 2) := by decide +kernel
theorem d_Ru_leftAt_20 : decode b_Ru_leftAt 20 = .ok (.aload_n 0, 1) := by decide +kernel
theorem d_Ru_leftAt_21 : decode b_Ru_leftAt 21 = .ok (.getfield 9, 3) := by decide +kernel
theorem d_Ru_leftAt_24 : decode b_Ru_leftAt 24 = .ok (.iload 4, 2) := by decide +kernel
theorem d_Ru_leftAt_26 : decode b_Ru_leftAt 26 = .ok (.iaload, 1) := by decide +kernel
theorem d_Ru_leftAt_27 : decode b_Ru_leftAt 27 = .ok (.iconst (-1), 1) := by decide +kernel
theorem d_Ru_leftAt_28 : decode b_Ru_leftAt 28 = .ok (.if_icmp .eq 51, 3) := by decide +kernel
theorem d_Ru_leftAt_31 : decode b_Ru_leftAt 31 = .ok (.iload 6, 2) := by decide +kernel
theorem d_Ru_leftAt_33 : decode b_Ru_leftAt 33 = .ok (.aload_n 0, 1) := by decide +kernel
theorem d_Ru_leftAt_34 : decode b_Ru_leftAt 34 = .ok (.getfield 15, 3) := by decide +kernel
theorem d_Ru_leftAt_37 : decode b_Ru_leftAt 37 = .ok (.if_icmp .ge 42, 3) := by decide +kernel
theorem d_Ru_leftAt_40 : decode b_Ru_leftAt 40 = .ok (.aload_n 0, 1) := by decide +kernel
theorem d_Ru_leftAt_41 : decode b_Ru_leftAt 41 = .ok (.getfield 9, 3) := by decide +kernel
theorem d_Ru_leftAt_44 : decode b_Ru_leftAt 44 = .ok (.iload 6, 2) := by decide +kernel
theorem d_Ru_leftAt_46 : decode b_Ru_leftAt 46 = .ok (.iaload, 1) := by decide +kernel
theorem d_Ru_leftAt_47 : decode b_Ru_leftAt 47 = .ok (.iconst (-1), 1) := by decide +kernel
theorem d_Ru_leftAt_48 : decode b_Ru_leftAt 48 = .ok (.if_icmp .eq 25, 3) := by decide +kernel
theorem d_Ru_leftAt_51 : decode b_Ru_leftAt 51 = .ok (.aload_n 0, 1) := by decide +kernel
theorem d_Ru_leftAt_52 : decode b_Ru_leftAt 52 = .ok (.aload_n 1, 1) := by decide +kernel
theorem d_Ru_leftAt_53 : decode b_Ru_leftAt 53 = .ok (.iload 4, 2) := by decide +kernel
theorem d_Ru_leftAt_55 : decode b_Ru_leftAt 55 = .ok (.iload_n 2, 1) := by decide +kernel
theorem d_Ru_leftAt_56 : decode b_Ru_leftAt 56 = .ok (.invokevirtual 46, 3) := by decide +kernel
theorem d_Ru_leftAt_59 : decode b_Ru_leftAt 59 = .ok (.aload_n 0, 1) := by decide +kernel
theorem d_Ru_leftAt_60 : decode b_Ru_leftAt 60 = .ok (.aload_n 1, 1) := by decide +kernel
theorem d_Ru_leftAt_61 : decode b_Ru_leftAt 61 = .ok (.iload 6, 2) := by decide +kernel
theorem d_Ru_leftAt_63 : decode b_Ru_leftAt 63 = .ok (.iload_n 2, 1) := by decide +kernel
theorem d_Ru_leftAt_64 : decode b_Ru_leftAt 64 = .ok (.invokevirtual 46, 3) := by decide +kernel
theorem d_Ru_leftAt_67 : decode b_Ru_leftAt 67 = .ok (.if_icmp .ne 6, 3) := by decide +kernel
theorem d_Ru_leftAt_70 : decode b_Ru_leftAt 70 = .ok (.iinc 5 1, 3) := by decide +kernel
theorem d_Ru_leftAt_73 : decode b_Ru_leftAt 73 = .ok (.iinc 6 1, 3) := by decide +kernel
theorem d_Ru_leftAt_76 : decode b_Ru_leftAt 76 = .ok (.goto (-56), 3) := by decide +kernel
theorem d_Ru_leftAt_79 : decode b_Ru_leftAt 79 = .ok (.iload 5, 2) := by decide +kernel
theorem d_Ru_leftAt_81 : decode b_Ru_leftAt 81 = .ok (.iload_n 3, 1) := by decide +kernel
theorem d_Ru_leftAt_82 : decode b_Ru_leftAt 82 = .ok (.if_icmp .le 8, 3) := by decide +kernel
theorem d_Ru_leftAt_85 : decode b_Ru_leftAt 85 = .ok (.iload 5, 2) := by decide +kernel
theorem d_Ru_leftAt_87 : decode b_Ru_leftAt 87 = .ok (.goto 4, 3) := by decide +kernel
theorem d_Ru_leftAt_90 : decode b_Ru_leftAt 90 = .ok (.iload_n 3, 1) := by decide +kernel
theorem d_Ru_leftAt_91 : decode b_Ru_leftAt 91 = .ok (.istore_n 3, 1) := by decide +kernel
theorem d_Ru_leftAt_92 : decode b_Ru_leftAt 92 = .ok (.iinc 4 1, 3) := by decide +kernel
theorem d_Ru_leftAt_95 : decode b_Ru_leftAt 95 = .ok (.goto (-90), 3) := by decide +kernel
theorem d_Ru_leftAt_98 : decode b_Ru_leftAt 98 = .ok (.iload_n 3, 1) := by decide +kernel
theorem d_Ru_leftAt_99 : decode b_Ru_leftAt 99 = .ok (.ireturn, 1) := by decide +kernel
theorem mf_Ru_leftAt : zMF y_Ru_leftAt b_Ru_leftAt 7 (some .int) 2 := ⟨zGW_in 1205 (by decide +kernel) (by decide +kernel), zGW_in 134 (by decide +kernel) (by decide +kernel), by decide +kernel⟩
theorem in_Ru_leftAt : Cond.instanceMethod y_Ru_leftAt ∈ zGW := zGW_in 1203 (by decide +kernel) (by decide +kernel)
theorem se_Ru_leftAt : Cond.selects y_Ru_leftAt.cls y_Ru_leftAt y_Ru_leftAt ∈ zGW := zGW_in 1204 (by decide +kernel) (by decide +kernel)
def y_Ru_bestEar : MethodName := ⟨zNm 8, "bestEar", "(LEelClerk$Paper;)I"⟩
abbrev b_Ru_bestEar : ByteArray := prog_9_method_6_code
theorem d_Ru_bestEar_0 : decode b_Ru_bestEar 0 = .ok (.iconst (-1), 1) := by decide +kernel
theorem d_Ru_bestEar_1 : decode b_Ru_bestEar 1 = .ok (.istore_n 2, 1) := by decide +kernel
theorem d_Ru_bestEar_2 : decode b_Ru_bestEar 2 = .ok (.ldc 41, 2) := by decide +kernel
theorem d_Ru_bestEar_4 : decode b_Ru_bestEar 4 = .ok (.istore_n 3, 1) := by decide +kernel
theorem d_Ru_bestEar_5 : decode b_Ru_bestEar 5 = .ok (.iconst 0, 1) := by decide +kernel
theorem d_Ru_bestEar_6 : decode b_Ru_bestEar 6 = .ok (.istore 4, 2) := by decide +kernel
theorem d_Ru_bestEar_8 : decode b_Ru_bestEar 8 = .ok (.iload 4, 2) := by decide +kernel
theorem d_Ru_bestEar_10 : decode b_Ru_bestEar 10 = .ok (.aload_n 0, 1) := by decide +kernel
theorem d_Ru_bestEar_11 : decode b_Ru_bestEar 11 = .ok (.getfield 15, 3) := by decide +kernel
theorem d_Ru_bestEar_14 : decode b_Ru_bestEar 14 = .ok (.if_icmp .ge 35, 3) := by decide +kernel
theorem d_Ru_bestEar_17 : decode b_Ru_bestEar 17 = .ok (.aload_n 0, 1) := by decide +kernel
theorem d_Ru_bestEar_18 : decode b_Ru_bestEar 18 = .ok (.aload_n 1, 1) := by decide +kernel
theorem d_Ru_bestEar_19 : decode b_Ru_bestEar 19 = .ok (.iload 4, 2) := by decide +kernel
theorem d_Ru_bestEar_21 : decode b_Ru_bestEar 21 = .ok (.invokevirtual 42, 3) := by decide +kernel
theorem d_Ru_bestEar_24 : decode b_Ru_bestEar 24 = .ok (.istore 5, 2) := by decide +kernel
theorem d_Ru_bestEar_26 : decode b_Ru_bestEar 26 = .ok (.iload 5, 2) := by decide +kernel
theorem d_Ru_bestEar_28 : decode b_Ru_bestEar 28 = .ok (.ifCond .le 15, 3) := by decide +kernel
theorem d_Ru_bestEar_31 : decode b_Ru_bestEar 31 = .ok (.iload 5, 2) := by decide +kernel
theorem d_Ru_bestEar_33 : decode b_Ru_bestEar 33 = .ok (.iload_n 3, 1) := by decide +kernel
theorem d_Ru_bestEar_34 : decode b_Ru_bestEar 34 = .ok (.if_icmp .ge 9, 3) := by decide +kernel
theorem d_Ru_bestEar_37 : decode b_Ru_bestEar 37 = .ok (.iload 4, 2) := by decide +kernel
theorem d_Ru_bestEar_39 : decode b_Ru_bestEar 39 = .ok (.istore_n 2, 1) := by decide +kernel
theorem d_Ru_bestEar_40 : decode b_Ru_bestEar 40 = .ok (.iload 5, 2) := by decide +kernel
theorem d_Ru_bestEar_42 : decode b_Ru_bestEar 42 = .ok (.istore_n 3, 1) := by decide +kernel
theorem d_Ru_bestEar_43 : decode b_Ru_bestEar 43 = .ok (.iinc 4 1, 3) := by decide +kernel
theorem d_Ru_bestEar_46 : decode b_Ru_bestEar 46 = .ok (.goto (-38), 3) := by decide +kernel
theorem d_Ru_bestEar_49 : decode b_Ru_bestEar 49 = .ok (.iload_n 2, 1) := by decide +kernel
theorem d_Ru_bestEar_50 : decode b_Ru_bestEar 50 = .ok (.ireturn, 1) := by decide +kernel
theorem mf_Ru_bestEar : zMF y_Ru_bestEar b_Ru_bestEar 6 (some .int) 1 := ⟨zGW_in 1200 (by decide +kernel) (by decide +kernel), zGW_in 134 (by decide +kernel) (by decide +kernel), by decide +kernel⟩
theorem in_Ru_bestEar : Cond.instanceMethod y_Ru_bestEar ∈ zGW := zGW_in 1198 (by decide +kernel) (by decide +kernel)
theorem se_Ru_bestEar : Cond.selects y_Ru_bestEar.cls y_Ru_bestEar y_Ru_bestEar ∈ zGW := zGW_in 1199 (by decide +kernel) (by decide +kernel)
def y_E_listen : MethodName := ⟨zNm 0, "listen", "(I)I"⟩
abbrev b_E_listen : ByteArray := prog_1_method_33_code
theorem d_E_listen_0 : decode b_E_listen 0 = .ok (.iload_n 1, 1) := by decide +kernel
theorem d_E_listen_1 : decode b_E_listen 1 = .ok (.ifCond .eq 10, 3) := by decide +kernel
theorem d_E_listen_4 : decode b_E_listen 4 = .ok (.iload_n 1, 1) := by decide +kernel
theorem d_E_listen_5 : decode b_E_listen 5 = .ok (.iconst 1, 1) := by decide +kernel
theorem d_E_listen_6 : decode b_E_listen 6 = .ok (.if_icmp .eq 5, 3) := by decide +kernel
theorem d_E_listen_9 : decode b_E_listen 9 = .ok (.iconst (-1), 1) := by decide +kernel
theorem d_E_listen_10 : decode b_E_listen 10 = .ok (.ireturn, 1) := by decide +kernel
theorem d_E_listen_11 : decode b_E_listen 11 = .ok (.aload_n 0, 1) := by decide +kernel
theorem d_E_listen_12 : decode b_E_listen 12 = .ok (.invokevirtual 226, 3) := by decide +kernel
theorem d_E_listen_15 : decode b_E_listen 15 = .ok (.aload_n 0, 1) := by decide +kernel
theorem d_E_listen_16 : decode b_E_listen 16 = .ok (.getfield 81, 3) := by decide +kernel
theorem d_E_listen_19 : decode b_E_listen 19 = .ok (.aload_n 0, 1) := by decide +kernel
theorem d_E_listen_20 : decode b_E_listen 20 = .ok (.getfield 60, 3) := by decide +kernel
theorem d_E_listen_23 : decode b_E_listen 23 = .ok (.aload_n 0, 1) := by decide +kernel
theorem d_E_listen_24 : decode b_E_listen 24 = .ok (.getfield 12, 3) := by decide +kernel
theorem d_E_listen_27 : decode b_E_listen 27 = .ok (.invokevirtual 289, 3) := by decide +kernel
theorem d_E_listen_30 : decode b_E_listen 30 = .ok (.aload_n 0, 1) := by decide +kernel
theorem d_E_listen_31 : decode b_E_listen 31 = .ok (.getfield 81, 3) := by decide +kernel
theorem d_E_listen_34 : decode b_E_listen 34 = .ok (.aload_n 0, 1) := by decide +kernel
theorem d_E_listen_35 : decode b_E_listen 35 = .ok (.getfield 60, 3) := by decide +kernel
theorem d_E_listen_38 : decode b_E_listen 38 = .ok (.invokevirtual 298, 3) := by decide +kernel
theorem d_E_listen_41 : decode b_E_listen 41 = .ok (.istore_n 2, 1) := by decide +kernel
theorem d_E_listen_42 : decode b_E_listen 42 = .ok (.iload_n 1, 1) := by decide +kernel
theorem d_E_listen_43 : decode b_E_listen 43 = .ok (.ifCond .eq 8, 3) := by decide +kernel
theorem d_E_listen_46 : decode b_E_listen 46 = .ok (.iload_n 2, 1) := by decide +kernel
theorem d_E_listen_47 : decode b_E_listen 47 = .ok (.iconst (-1), 1) := by decide +kernel
theorem d_E_listen_48 : decode b_E_listen 48 = .ok (.if_icmp .ne 7, 3) := by decide +kernel
theorem d_E_listen_51 : decode b_E_listen 51 = .ok (.iload_n 2, 1) := by decide +kernel
theorem d_E_listen_52 : decode b_E_listen 52 = .ok (.goto 15, 3) := by decide +kernel
theorem d_E_listen_55 : decode b_E_listen 55 = .ok (.aload_n 0, 1) := by decide +kernel
theorem d_E_listen_56 : decode b_E_listen 56 = .ok (.getfield 81, 3) := by decide +kernel
theorem d_E_listen_59 : decode b_E_listen 59 = .ok (.aload_n 0, 1) := by decide +kernel
theorem d_E_listen_60 : decode b_E_listen 60 = .ok (.getfield 60, 3) := by decide +kernel
theorem d_E_listen_63 : decode b_E_listen 63 = .ok (.iload_n 2, 1) := by decide +kernel
theorem d_E_listen_64 : decode b_E_listen 64 = .ok (.invokevirtual 302, 3) := by decide +kernel
theorem d_E_listen_67 : decode b_E_listen 67 = .ok (.ireturn, 1) := by decide +kernel
theorem mf_E_listen : zMF y_E_listen b_E_listen 3 (some .int) 1 := ⟨zGW_in 1196 (by decide +kernel) (by decide +kernel), zGW_in 124 (by decide +kernel) (by decide +kernel), by decide +kernel⟩
theorem in_E_listen : Cond.instanceMethod y_E_listen ∈ zGW := zGW_in 1194 (by decide +kernel) (by decide +kernel)
theorem se_E_listen : Cond.selects y_E_listen.cls y_E_listen y_E_listen ∈ zGW := zGW_in 1195 (by decide +kernel) (by decide +kernel)
def y_Ar_fillL : MethodName := ⟨"java/util/Arrays", "fill", "([JJ)V"⟩
abbrev b_Ar_fillL : ByteArray := prog_19_method_101_code
theorem d_Ar_fillL_0 : decode b_Ar_fillL 0 = .ok (.iconst 0, 1) := by decide +kernel
theorem d_Ar_fillL_1 : decode b_Ar_fillL 1 = .ok (.istore_n 3, 1) := by decide +kernel
theorem d_Ar_fillL_2 : decode b_Ar_fillL 2 = .ok (.aload_n 0, 1) := by decide +kernel
theorem d_Ar_fillL_3 : decode b_Ar_fillL 3 = .ok (.arraylength, 1) := by decide +kernel
theorem d_Ar_fillL_4 : decode b_Ar_fillL 4 = .ok (.istore 4, 2) := by decide +kernel
theorem d_Ar_fillL_6 : decode b_Ar_fillL 6 = .ok (.iload_n 3, 1) := by decide +kernel
theorem d_Ar_fillL_7 : decode b_Ar_fillL 7 = .ok (.iload 4, 2) := by decide +kernel
theorem d_Ar_fillL_9 : decode b_Ar_fillL 9 = .ok (.if_icmp .ge 13, 3) := by decide +kernel
theorem d_Ar_fillL_12 : decode b_Ar_fillL 12 = .ok (.aload_n 0, 1) := by decide +kernel
theorem d_Ar_fillL_13 : decode b_Ar_fillL 13 = .ok (.iload_n 3, 1) := by decide +kernel
theorem d_Ar_fillL_14 : decode b_Ar_fillL 14 = .ok (.lload_n 1, 1) := by decide +kernel
theorem d_Ar_fillL_15 : decode b_Ar_fillL 15 = .ok (.lastore, 1) := by decide +kernel
theorem d_Ar_fillL_16 : decode b_Ar_fillL 16 = .ok (.iinc 3 1, 3) := by decide +kernel
theorem d_Ar_fillL_19 : decode b_Ar_fillL 19 = .ok (.goto (-13), 3) := by decide +kernel
theorem d_Ar_fillL_22 : decode b_Ar_fillL 22 = .ok (.return_, 1) := by decide +kernel
theorem mf_Ar_fillL : zMF y_Ar_fillL b_Ar_fillL 5 none 2 := ⟨zGW_in 1218 (by decide +kernel) (by decide +kernel), zGW_in 136 (by decide +kernel) (by decide +kernel), by decide +kernel⟩
theorem st_Ar_fillL : Cond.static y_Ar_fillL ∈ zGW := zGW_in 1217 (by decide +kernel) (by decide +kernel)
def y_E_pullString : MethodName := ⟨zNm 0, "pullString", "()V"⟩
abbrev b_E_pullString : ByteArray := prog_1_method_53_code
theorem d_E_pullString_0 : decode b_E_pullString 0 = .ok (.aload_n 0, 1) := by decide +kernel
theorem d_E_pullString_1 : decode b_E_pullString 1 = .ok (.getfield 12, 3) := by decide +kernel
theorem d_E_pullString_4 : decode b_E_pullString 4 = .ok (.getfield 407, 3) := by decide +kernel
theorem d_E_pullString_7 : decode b_E_pullString 7 = .ok (.istore_n 1, 1) := by decide +kernel
theorem d_E_pullString_8 : decode b_E_pullString 8 = .ok (.aload_n 0, 1) := by decide +kernel
theorem d_E_pullString_9 : decode b_E_pullString 9 = .ok (.getfield 89, 3) := by decide +kernel
theorem d_E_pullString_12 : decode b_E_pullString 12 = .ok (.arraylength, 1) := by decide +kernel
theorem d_E_pullString_13 : decode b_E_pullString 13 = .ok (.iconst 1, 1) := by decide +kernel
theorem d_E_pullString_14 : decode b_E_pullString 14 = .ok (.isub, 1) := by decide +kernel
theorem d_E_pullString_15 : decode b_E_pullString 15 = .ok (.istore_n 2, 1) := by decide +kernel
theorem d_E_pullString_16 : decode b_E_pullString 16 = .ok (.iload_n 2, 1) := by decide +kernel
theorem d_E_pullString_17 : decode b_E_pullString 17 = .ok (.ifCond .lt 57, 3) := by decide +kernel
theorem d_E_pullString_20 : decode b_E_pullString 20 = .ok (.iload_n 2, 1) := by decide +kernel
theorem d_E_pullString_21 : decode b_E_pullString 21 = .ok (.ifCond .le 21, 3) := by decide +kernel
theorem d_E_pullString_24 : decode b_E_pullString 24 = .ok (.aload_n 0, 1) := by decide +kernel
theorem d_E_pullString_25 : decode b_E_pullString 25 = .ok (.getfield 89, 3) := by decide +kernel
theorem d_E_pullString_28 : decode b_E_pullString 28 = .ok (.iload_n 2, 1) := by decide +kernel
theorem d_E_pullString_29 : decode b_E_pullString 29 = .ok (.iconst 1, 1) := by decide +kernel
theorem d_E_pullString_30 : decode b_E_pullString 30 = .ok (.isub, 1) := by decide +kernel
theorem d_E_pullString_31 : decode b_E_pullString 31 = .ok (.laload, 1) := by decide +kernel
theorem d_E_pullString_32 : decode b_E_pullString 32 = .ok (.iload_n 1, 1) := by decide +kernel
theorem d_E_pullString_33 : decode b_E_pullString 33 = .ok (.i2l, 1) := by decide +kernel
theorem d_E_pullString_34 : decode b_E_pullString 34 = .ok (.lmul, 1) := by decide +kernel
theorem d_E_pullString_35 : decode b_E_pullString 35 = .ok (.ldc2_w 410, 3) := by decide +kernel
theorem d_E_pullString_38 : decode b_E_pullString 38 = .ok (.ldiv, 1) := by decide +kernel
theorem d_E_pullString_39 : decode b_E_pullString 39 = .ok (.goto 4, 3) := by decide +kernel
theorem d_E_pullString_42 : decode b_E_pullString 42 = .ok (.lconst 0, 1) := by decide +kernel
theorem d_E_pullString_43 : decode b_E_pullString 43 = .ok (.lstore_n 3, 1) := by decide +kernel
theorem d_E_pullString_44 : decode b_E_pullString 44 = .ok (.aload_n 0, 1) := by decide +kernel
theorem d_E_pullString_45 : decode b_E_pullString 45 = .ok (.getfield 89, 3) := by decide +kernel
theorem d_E_pullString_48 : decode b_E_pullString 48 = .ok (.iload_n 2, 1) := by decide +kernel
theorem d_E_pullString_49 : decode b_E_pullString 49 = .ok (.aload_n 0, 1) := by decide +kernel
theorem d_E_pullString_50 : decode b_E_pullString 50 = .ok (.getfield 89, 3) := by decide +kernel
theorem d_E_pullString_53 : decode b_E_pullString 53 = .ok (.iload_n 2, 1) := by decide +kernel
theorem d_E_pullString_54 : decode b_E_pullString 54 = .ok (.laload, 1) := by decide +kernel
theorem d_E_pullString_55 : decode b_E_pullString 55 = .ok (.bipush 10, 2) := by decide +kernel
theorem d_E_pullString_57 : decode b_E_pullString 57 = .ok (.iload_n 1, 1) := by decide +kernel
theorem d_E_pullString_58 : decode b_E_pullString 58 = .ok (.isub, 1) := by decide +kernel
theorem d_E_pullString_59 : decode b_E_pullString 59 = .ok (.i2l, 1) := by decide +kernel
theorem d_E_pullString_60 : decode b_E_pullString 60 = .ok (.lmul, 1) := by decide +kernel
theorem d_E_pullString_61 : decode b_E_pullString 61 = .ok (.ldc2_w 410, 3) := by decide +kernel
theorem d_E_pullString_64 : decode b_E_pullString 64 = .ok (.ldiv, 1) := by decide +kernel
theorem d_E_pullString_65 : decode b_E_pullString 65 = .ok (.lload_n 3, 1) := by decide +kernel
theorem d_E_pullString_66 : decode b_E_pullString 66 = .ok (.ladd, 1) := by decide +kernel
theorem d_E_pullString_67 : decode b_E_pullString 67 = .ok (.lastore, 1) := by decide +kernel
theorem d_E_pullString_68 : decode b_E_pullString 68 = .ok (.iinc 2 (-1), 3) := by decide +kernel
theorem d_E_pullString_71 : decode b_E_pullString 71 = .ok (.goto (-55), 3) := by decide +kernel
theorem d_E_pullString_74 : decode b_E_pullString 74 = .ok (.return_, 1) := by decide +kernel
theorem mf_E_pullString : zMF y_E_pullString b_E_pullString 5 none 0 := ⟨zGW_in 1223 (by decide +kernel) (by decide +kernel), zGW_in 124 (by decide +kernel) (by decide +kernel), by decide +kernel⟩
theorem in_E_pullString : Cond.instanceMethod y_E_pullString ∈ zGW := zGW_in 1222 (by decide +kernel) (by decide +kernel)
theorem se_E_pullString : Cond.selects y_E_pullString.cls y_E_pullString y_E_pullString ∈ zGW := zGW_in 36 (by decide +kernel) (by decide +kernel)
def y_E_few : MethodName := ⟨zNm 0, "few", "(II)J"⟩
abbrev b_E_few : ByteArray := prog_1_method_34_code
theorem d_E_few_0 : decode b_E_few 0 = .ok (.iload_n 1, 1) := by decide +kernel
theorem d_E_few_1 : decode b_E_few 1 = .ok (.iconst 1, 1) := by decide +kernel
theorem d_E_few_2 : decode b_E_few 2 = .ok (.if_icmp .lt 19, 3) := by decide +kernel
theorem d_E_few_5 : decode b_E_few 5 = .ok (.iload_n 1, 1) := by decide +kernel
theorem d_E_few_6 : decode b_E_few 6 = .ok (.bipush 20, 2) := by decide +kernel
theorem d_E_few_8 : decode b_E_few 8 = .ok (.if_icmp .gt 13, 3) := by decide +kernel
theorem d_E_few_11 : decode b_E_few 11 = .ok (.iload_n 2, 1) := by decide +kernel
theorem d_E_few_12 : decode b_E_few 12 = .ok (.ifCond .lt 9, 3) := by decide +kernel
theorem d_E_few_15 : decode b_E_few 15 = .ok (.iload_n 2, 1) := by decide +kernel
theorem d_E_few_16 : decode b_E_few 16 = .ok (.bipush 99, 2) := by decide +kernel
theorem d_E_few_18 : decode b_E_few 18 = .ok (.if_icmp .le 7, 3) := by decide +kernel
theorem d_E_few_21 : decode b_E_few 21 = .ok (.ldc2_w 306, 3) := by decide +kernel
theorem d_E_few_24 : decode b_E_few 24 = .ok (.lreturn, 1) := by decide +kernel
theorem d_E_few_25 : decode b_E_few 25 = .ok (.aload_n 0, 1) := by decide +kernel
theorem d_E_few_26 : decode b_E_few 26 = .ok (.getfield 89, 3) := by decide +kernel
theorem d_E_few_29 : decode b_E_few 29 = .ok (.lconst 0, 1) := by decide +kernel
theorem d_E_few_30 : decode b_E_few 30 = .ok (.invokestatic 308, 3) := by decide +kernel
theorem d_E_few_33 : decode b_E_few 33 = .ok (.aload_n 0, 1) := by decide +kernel
theorem d_E_few_34 : decode b_E_few 34 = .ok (.getfield 89, 3) := by decide +kernel
theorem d_E_few_37 : decode b_E_few 37 = .ok (.iconst 0, 1) := by decide +kernel
theorem d_E_few_38 : decode b_E_few 38 = .ok (.ldc2_w 313, 3) := by decide +kernel
theorem d_E_few_41 : decode b_E_few 41 = .ok (.lastore, 1) := by decide +kernel
theorem d_E_few_42 : decode b_E_few 42 = .ok (.iconst 0, 1) := by decide +kernel
theorem d_E_few_43 : decode b_E_few 43 = .ok (.istore_n 3, 1) := by decide +kernel
theorem d_E_few_44 : decode b_E_few 44 = .ok (.iload_n 3, 1) := by decide +kernel
theorem d_E_few_45 : decode b_E_few 45 = .ok (.iload_n 2, 1) := by decide +kernel
theorem d_E_few_46 : decode b_E_few 46 = .ok (.if_icmp .ge 13, 3) := by decide +kernel
theorem d_E_few_49 : decode b_E_few 49 = .ok (.aload_n 0, 1) := by decide +kernel
theorem d_E_few_50 : decode b_E_few 50 = .ok (.invokevirtual 315, 3) := by decide +kernel
theorem d_E_few_53 : decode b_E_few 53 = .ok (.iinc 3 1, 3) := by decide +kernel
theorem d_E_few_56 : decode b_E_few 56 = .ok (.goto (-12), 3) := by decide +kernel
theorem d_E_few_59 : decode b_E_few 59 = .ok (.lconst 0, 1) := by decide +kernel
theorem d_E_few_60 : decode b_E_few 60 = .ok (.lstore_n 3, 1) := by decide +kernel
theorem d_E_few_61 : decode b_E_few 61 = .ok (.iconst 0, 1) := by decide +kernel
theorem d_E_few_62 : decode b_E_few 62 = .ok (.istore 5, 2) := by decide +kernel
theorem d_E_few_64 : decode b_E_few 64 = .ok (.iload 5, 2) := by decide +kernel
theorem d_E_few_66 : decode b_E_few 66 = .ok (.iload_n 1, 1) := by decide +kernel
theorem d_E_few_67 : decode b_E_few 67 = .ok (.if_icmp .ge 29, 3) := by decide +kernel
theorem d_E_few_70 : decode b_E_few 70 = .ok (.iload 5, 2) := by decide +kernel
theorem d_E_few_72 : decode b_E_few 72 = .ok (.aload_n 0, 1) := by decide +kernel
theorem d_E_few_73 : decode b_E_few 73 = .ok (.getfield 89, 3) := by decide +kernel
theorem d_E_few_76 : decode b_E_few 76 = .ok (.arraylength, 1) := by decide +kernel
theorem d_E_few_77 : decode b_E_few 77 = .ok (.if_icmp .ge 19, 3) := by decide +kernel
theorem d_E_few_80 : decode b_E_few 80 = .ok (.lload_n 3, 1) := by decide +kernel
theorem d_E_few_81 : decode b_E_few 81 = .ok (.aload_n 0, 1) := by decide +kernel
theorem d_E_few_82 : decode b_E_few 82 = .ok (.getfield 89, 3) := by decide +kernel
theorem d_E_few_85 : decode b_E_few 85 = .ok (.iload 5, 2) := by decide +kernel
theorem d_E_few_87 : decode b_E_few 87 = .ok (.laload, 1) := by decide +kernel
theorem d_E_few_88 : decode b_E_few 88 = .ok (.ladd, 1) := by decide +kernel
theorem d_E_few_89 : decode b_E_few 89 = .ok (.lstore_n 3, 1) := by decide +kernel
theorem d_E_few_90 : decode b_E_few 90 = .ok (.iinc 5 1, 3) := by decide +kernel
theorem d_E_few_93 : decode b_E_few 93 = .ok (.goto (-29), 3) := by decide +kernel
theorem d_E_few_96 : decode b_E_few 96 = .ok (.lload_n 3, 1) := by decide +kernel
theorem d_E_few_97 : decode b_E_few 97 = .ok (.lreturn, 1) := by decide +kernel
theorem mf_E_few : zMF y_E_few b_E_few 6 (some .long) 2 := ⟨zGW_in 1214 (by decide +kernel) (by decide +kernel), zGW_in 124 (by decide +kernel) (by decide +kernel), by decide +kernel⟩
theorem in_E_few : Cond.instanceMethod y_E_few ∈ zGW := zGW_in 1212 (by decide +kernel) (by decide +kernel)
theorem se_E_few : Cond.selects y_E_few.cls y_E_few y_E_few ∈ zGW := zGW_in 1213 (by decide +kernel) (by decide +kernel)
def y_E_compare : MethodName := ⟨zNm 0, "compare", "(III)I"⟩
abbrev b_E_compare : ByteArray := prog_1_method_35_code
theorem d_E_compare_0 : decode b_E_compare 0 = .ok (.iload_n 1, 1) := by decide +kernel
theorem d_E_compare_1 : decode b_E_compare 1 = .ok (.iconst (-1), 1) := by decide +kernel
theorem d_E_compare_2 : decode b_E_compare 2 = .ok (.if_icmp .eq 16, 3) := by decide +kernel
theorem d_E_compare_5 : decode b_E_compare 5 = .ok (.aload_n 0, 1) := by decide +kernel
theorem d_E_compare_6 : decode b_E_compare 6 = .ok (.getfield 12, 3) := by decide +kernel
theorem d_E_compare_9 : decode b_E_compare 9 = .ok (.iload_n 1, 1) := by decide +kernel
theorem d_E_compare_10 : decode b_E_compare 10 = .ok (.invokevirtual 210, 3) := by decide +kernel
theorem d_E_compare_13 : decode b_E_compare 13 = .ok (.ifCond .ne 5, 3) := by decide +kernel
theorem d_E_compare_16 : decode b_E_compare 16 = .ok (.iconst (-1), 1) := by decide +kernel
theorem d_E_compare_17 : decode b_E_compare 17 = .ok (.ireturn, 1) := by decide +kernel
theorem d_E_compare_18 : decode b_E_compare 18 = .ok (.aload_n 0, 1) := by decide +kernel
theorem d_E_compare_19 : decode b_E_compare 19 = .ok (.getfield 60, 3) := by decide +kernel
theorem d_E_compare_22 : decode b_E_compare 22 = .ok (.aload_n 0, 1) := by decide +kernel
theorem d_E_compare_23 : decode b_E_compare 23 = .ok (.getfield 12, 3) := by decide +kernel
theorem d_E_compare_26 : decode b_E_compare 26 = .ok (.aload_n 0, 1) := by decide +kernel
theorem d_E_compare_27 : decode b_E_compare 27 = .ok (.getfield 12, 3) := by decide +kernel
theorem d_E_compare_30 : decode b_E_compare 30 = .ok (.iload_n 1, 1) := by decide +kernel
theorem d_E_compare_31 : decode b_E_compare 31 = .ok (.invokevirtual 318, 3) := by decide +kernel
theorem d_E_compare_34 : decode b_E_compare 34 = .ok (.aload_n 0, 1) := by decide +kernel
theorem d_E_compare_35 : decode b_E_compare 35 = .ok (.getfield 53, 3) := by decide +kernel
theorem d_E_compare_38 : decode b_E_compare 38 = .ok (.invokevirtual 322, 3) := by decide +kernel
theorem d_E_compare_41 : decode b_E_compare 41 = .ok (.aload_n 0, 1) := by decide +kernel
theorem d_E_compare_42 : decode b_E_compare 42 = .ok (.getfield 60, 3) := by decide +kernel
theorem d_E_compare_45 : decode b_E_compare 45 = .ok (.iload_n 2, 1) := by decide +kernel
theorem d_E_compare_46 : decode b_E_compare 46 = .ok (.iload_n 3, 1) := by decide +kernel
theorem d_E_compare_47 : decode b_E_compare 47 = .ok (.invokevirtual 229, 3) := by decide +kernel
theorem d_E_compare_50 : decode b_E_compare 50 = .ok (.ireturn, 1) := by decide +kernel
theorem mf_E_compare : zMF y_E_compare b_E_compare 4 (some .int) 3 := ⟨zGW_in 1228 (by decide +kernel) (by decide +kernel), zGW_in 124 (by decide +kernel) (by decide +kernel), by decide +kernel⟩
theorem in_E_compare : Cond.instanceMethod y_E_compare ∈ zGW := zGW_in 1226 (by decide +kernel) (by decide +kernel)
theorem se_E_compare : Cond.selects y_E_compare.cls y_E_compare y_E_compare ∈ zGW := zGW_in 1227 (by decide +kernel) (by decide +kernel)
def y_E_nextDraw : MethodName := ⟨zNm 0, "nextDraw", "(I)I"⟩
abbrev b_E_nextDraw : ByteArray := prog_1_method_54_code
theorem d_E_nextDraw_0 : decode b_E_nextDraw 0 = .ok (.iload_n 0, 1) := by decide +kernel
theorem d_E_nextDraw_1 : decode b_E_nextDraw 1 = .ok (.i2l, 1) := by decide +kernel
theorem d_E_nextDraw_2 : decode b_E_nextDraw 2 = .ok (.ldc2_w 412, 3) := by decide +kernel
theorem d_E_nextDraw_5 : decode b_E_nextDraw 5 = .ok (.lmul, 1) := by decide +kernel
theorem d_E_nextDraw_6 : decode b_E_nextDraw 6 = .ok (.ldc2_w 414, 3) := by decide +kernel
theorem d_E_nextDraw_9 : decode b_E_nextDraw 9 = .ok (.ladd, 1) := by decide +kernel
theorem d_E_nextDraw_10 : decode b_E_nextDraw 10 = .ok (.ldc2_w 416, 3) := by decide +kernel
theorem d_E_nextDraw_13 : decode b_E_nextDraw 13 = .ok (.lrem, 1) := by decide +kernel
theorem d_E_nextDraw_14 : decode b_E_nextDraw 14 = .ok (.l2i, 1) := by decide +kernel
theorem d_E_nextDraw_15 : decode b_E_nextDraw 15 = .ok (.ireturn, 1) := by decide +kernel
theorem mf_E_nextDraw : zMF y_E_nextDraw b_E_nextDraw 1 (some .int) 1 := ⟨zGW_in 1237 (by decide +kernel) (by decide +kernel), zGW_in 124 (by decide +kernel) (by decide +kernel), by decide +kernel⟩
theorem st_E_nextDraw : Cond.static y_E_nextDraw ∈ zGW := zGW_in 1236 (by decide +kernel) (by decide +kernel)
def y_E_actOnPaper : MethodName := ⟨zNm 0, "actOnPaper", "(IIII)I"⟩
abbrev b_E_actOnPaper : ByteArray := prog_1_method_55_code
theorem d_E_actOnPaper_0 : decode b_E_actOnPaper 0 = .ok (.aload_n 0, 1) := by decide +kernel
theorem d_E_actOnPaper_1 : decode b_E_actOnPaper 1 = .ok (.getfield 19, 3) := by decide +kernel
theorem d_E_actOnPaper_4 : decode b_E_actOnPaper 4 = .ok (.getfield 113, 3) := by decide +kernel
theorem d_E_actOnPaper_7 : decode b_E_actOnPaper 7 = .ok (.istore 5, 2) := by decide +kernel
theorem d_E_actOnPaper_9 : decode b_E_actOnPaper 9 = .ok (.iload 5, 2) := by decide +kernel
theorem d_E_actOnPaper_11 : decode b_E_actOnPaper 11 = .ok (.ifCond .gt 5, 3) := by decide +kernel
theorem d_E_actOnPaper_14 : decode b_E_actOnPaper 14 = .ok (.iconst 0, 1) := by decide +kernel
theorem d_E_actOnPaper_15 : decode b_E_actOnPaper 15 = .ok (.ireturn, 1) := by decide +kernel
theorem d_E_actOnPaper_16 : decode b_E_actOnPaper 16 = .ok (.iload_n 1, 1) := by decide +kernel
theorem d_E_actOnPaper_17 : decode b_E_actOnPaper 17 = .ok (.iload 5, 2) := by decide +kernel
theorem d_E_actOnPaper_19 : decode b_E_actOnPaper 19 = .ok (.irem, 1) := by decide +kernel
theorem d_E_actOnPaper_20 : decode b_E_actOnPaper 20 = .ok (.istore 6, 2) := by decide +kernel
theorem d_E_actOnPaper_22 : decode b_E_actOnPaper 22 = .ok (.iload 4, 2) := by decide +kernel
theorem d_E_actOnPaper_24 : decode b_E_actOnPaper 24 = .ok (.ifCond .ne 20, 3) := by decide +kernel
theorem d_E_actOnPaper_27 : decode b_E_actOnPaper 27 = .ok (.aload_n 0, 1) := by decide +kernel
theorem d_E_actOnPaper_28 : decode b_E_actOnPaper 28 = .ok (.getfield 19, 3) := by decide +kernel
theorem d_E_actOnPaper_31 : decode b_E_actOnPaper 31 = .ok (.iload 6, 2) := by decide +kernel
theorem d_E_actOnPaper_33 : decode b_E_actOnPaper 33 = .ok (.iload_n 2, 1) := by decide +kernel
theorem d_E_actOnPaper_34 : decode b_E_actOnPaper 34 = .ok (.iload 5, 2) := by decide +kernel
theorem d_E_actOnPaper_36 : decode b_E_actOnPaper 36 = .ok (.irem, 1) := by decide +kernel
theorem d_E_actOnPaper_37 : decode b_E_actOnPaper 37 = .ok (.invokevirtual 373, 3) := by decide +kernel
theorem d_E_actOnPaper_40 : decode b_E_actOnPaper 40 = .ok (.pop, 1) := by decide +kernel
theorem d_E_actOnPaper_41 : decode b_E_actOnPaper 41 = .ok (.goto 59, 3) := by decide +kernel
theorem d_E_actOnPaper_44 : decode b_E_actOnPaper 44 = .ok (.iload 4, 2) := by decide +kernel
theorem d_E_actOnPaper_46 : decode b_E_actOnPaper 46 = .ok (.iconst 1, 1) := by decide +kernel
theorem d_E_actOnPaper_47 : decode b_E_actOnPaper 47 = .ok (.if_icmp .ne 20, 3) := by decide +kernel
theorem d_E_actOnPaper_50 : decode b_E_actOnPaper 50 = .ok (.aload_n 0, 1) := by decide +kernel
theorem d_E_actOnPaper_51 : decode b_E_actOnPaper 51 = .ok (.getfield 19, 3) := by decide +kernel
theorem d_E_actOnPaper_54 : decode b_E_actOnPaper 54 = .ok (.iload 6, 2) := by decide +kernel
theorem d_E_actOnPaper_56 : decode b_E_actOnPaper 56 = .ok (.iload_n 3, 1) := by decide +kernel
theorem d_E_actOnPaper_57 : decode b_E_actOnPaper 57 = .ok (.bipush 10, 2) := by decide +kernel
theorem d_E_actOnPaper_59 : decode b_E_actOnPaper 59 = .ok (.irem, 1) := by decide +kernel
theorem d_E_actOnPaper_60 : decode b_E_actOnPaper 60 = .ok (.invokevirtual 376, 3) := by decide +kernel
theorem d_E_actOnPaper_63 : decode b_E_actOnPaper 63 = .ok (.pop, 1) := by decide +kernel
theorem d_E_actOnPaper_64 : decode b_E_actOnPaper 64 = .ok (.goto 36, 3) := by decide +kernel
theorem d_E_actOnPaper_67 : decode b_E_actOnPaper 67 = .ok (.iload 4, 2) := by decide +kernel
theorem d_E_actOnPaper_69 : decode b_E_actOnPaper 69 = .ok (.iconst 2, 1) := by decide +kernel
theorem d_E_actOnPaper_70 : decode b_E_actOnPaper 70 = .ok (.if_icmp .ne 30, 3) := by decide +kernel
theorem d_E_actOnPaper_73 : decode b_E_actOnPaper 73 = .ok (.aload_n 0, 1) := by decide +kernel
theorem d_E_actOnPaper_74 : decode b_E_actOnPaper 74 = .ok (.getfield 19, 3) := by decide +kernel
theorem d_E_actOnPaper_77 : decode b_E_actOnPaper 77 = .ok (.iload 6, 2) := by decide +kernel
theorem d_E_actOnPaper_79 : decode b_E_actOnPaper 79 = .ok (.aload_n 0, 1) := by decide +kernel
theorem d_E_actOnPaper_80 : decode b_E_actOnPaper 80 = .ok (.getfield 53, 3) := by decide +kernel
theorem d_E_actOnPaper_83 : decode b_E_actOnPaper 83 = .ok (.invokevirtual 369, 3) := by decide +kernel
theorem d_E_actOnPaper_86 : decode b_E_actOnPaper 86 = .ok (.istore 7, 2) := by decide +kernel
theorem d_E_actOnPaper_88 : decode b_E_actOnPaper 88 = .ok (.iload 7, 2) := by decide +kernel
theorem d_E_actOnPaper_90 : decode b_E_actOnPaper 90 = .ok (.ifCond .le 8, 3) := by decide +kernel
theorem d_E_actOnPaper_93 : decode b_E_actOnPaper 93 = .ok (.iload 7, 2) := by decide +kernel
theorem d_E_actOnPaper_95 : decode b_E_actOnPaper 95 = .ok (.goto 4, 3) := by decide +kernel
theorem d_E_actOnPaper_98 : decode b_E_actOnPaper 98 = .ok (.iconst 0, 1) := by decide +kernel
theorem d_E_actOnPaper_99 : decode b_E_actOnPaper 99 = .ok (.ireturn, 1) := by decide +kernel
theorem d_E_actOnPaper_100 : decode b_E_actOnPaper 100 = .ok (.iconst 0, 1) := by decide +kernel
theorem d_E_actOnPaper_101 : decode b_E_actOnPaper 101 = .ok (.ireturn, 1) := by decide +kernel
theorem mf_E_actOnPaper : zMF y_E_actOnPaper b_E_actOnPaper 8 (some .int) 4 := ⟨zGW_in 1244 (by decide +kernel) (by decide +kernel), zGW_in 124 (by decide +kernel) (by decide +kernel), by decide +kernel⟩
theorem in_E_actOnPaper : Cond.instanceMethod y_E_actOnPaper ∈ zGW := zGW_in 1243 (by decide +kernel) (by decide +kernel)
theorem se_E_actOnPaper : Cond.selects y_E_actOnPaper.cls y_E_actOnPaper y_E_actOnPaper ∈ zGW := zGW_in 37 (by decide +kernel) (by decide +kernel)
def y_E_years : MethodName := ⟨zNm 0, "years", "(II)I"⟩
abbrev b_E_years : ByteArray := prog_1_method_36_code
theorem d_E_years_0 : decode b_E_years 0 = .ok (.iload_n 1, 1) := by decide +kernel
theorem d_E_years_1 : decode b_E_years 1 = .ok (.ifCond .lt 21, 3) := by decide +kernel
theorem d_E_years_4 : decode b_E_years 4 = .ok (.iload_n 1, 1) := by decide +kernel
theorem d_E_years_5 : decode b_E_years 5 = .ok (.ldc_w 325, 3) := by decide +kernel
theorem d_E_years_8 : decode b_E_years 8 = .ok (.if_icmp .gt 14, 3) := by decide +kernel
theorem d_E_years_11 : decode b_E_years 11 = .ok (.iload_n 2, 1) := by decide +kernel
theorem d_E_years_12 : decode b_E_years 12 = .ok (.iconst 1, 1) := by decide +kernel
theorem d_E_years_13 : decode b_E_years 13 = .ok (.if_icmp .lt 9, 3) := by decide +kernel
theorem d_E_years_16 : decode b_E_years 16 = .ok (.iload_n 2, 1) := by decide +kernel
theorem d_E_years_17 : decode b_E_years 17 = .ok (.bipush 60, 2) := by decide +kernel
theorem d_E_years_19 : decode b_E_years 19 = .ok (.if_icmp .le 9, 3) := by decide +kernel
theorem d_E_years_22 : decode b_E_years 22 = .ok (.aload_n 0, 1) := by decide +kernel
theorem d_E_years_23 : decode b_E_years 23 = .ok (.iconst (-1), 1) := by decide +kernel
theorem d_E_years_24 : decode b_E_years 24 = .ok (.invokevirtual 109, 3) := by decide +kernel
theorem d_E_years_27 : decode b_E_years 27 = .ok (.ireturn, 1) := by decide +kernel
theorem d_E_years_28 : decode b_E_years 28 = .ok (.aload_n 0, 1) := by decide +kernel
theorem d_E_years_29 : decode b_E_years 29 = .ok (.getfield 12, 3) := by decide +kernel
theorem d_E_years_32 : decode b_E_years 32 = .ok (.getfield 113, 3) := by decide +kernel
theorem d_E_years_35 : decode b_E_years 35 = .ok (.ifCond .ne 10, 3) := by decide +kernel
theorem d_E_years_38 : decode b_E_years 38 = .ok (.aload_n 0, 1) := by decide +kernel
theorem d_E_years_39 : decode b_E_years 39 = .ok (.bipush (-3), 2) := by decide +kernel
theorem d_E_years_41 : decode b_E_years 41 = .ok (.invokevirtual 109, 3) := by decide +kernel
theorem d_E_years_44 : decode b_E_years 44 = .ok (.ireturn, 1) := by decide +kernel
theorem d_E_years_45 : decode b_E_years 45 = .ok (.aload_n 0, 1) := by decide +kernel
theorem d_E_years_46 : decode b_E_years 46 = .ok (.getfield 19, 3) := by decide +kernel
theorem d_E_years_49 : decode b_E_years 49 = .ok (.aload_n 0, 1) := by decide +kernel
theorem d_E_years_50 : decode b_E_years 50 = .ok (.getfield 12, 3) := by decide +kernel
theorem d_E_years_53 : decode b_E_years 53 = .ok (.invokevirtual 200, 3) := by decide +kernel
theorem d_E_years_56 : decode b_E_years 56 = .ok (.iconst 0, 1) := by decide +kernel
theorem d_E_years_57 : decode b_E_years 57 = .ok (.istore_n 3, 1) := by decide +kernel
theorem d_E_years_58 : decode b_E_years 58 = .ok (.iload_n 1, 1) := by decide +kernel
theorem d_E_years_59 : decode b_E_years 59 = .ok (.istore 4, 2) := by decide +kernel
theorem d_E_years_61 : decode b_E_years 61 = .ok (.iconst 0, 1) := by decide +kernel
theorem d_E_years_62 : decode b_E_years 62 = .ok (.istore 5, 2) := by decide +kernel
theorem d_E_years_64 : decode b_E_years 64 = .ok (.iload 5, 2) := by decide +kernel
theorem d_E_years_66 : decode b_E_years 66 = .ok (.iload_n 2, 1) := by decide +kernel
theorem d_E_years_67 : decode b_E_years 67 = .ok (.if_icmp .ge 79, 3) := by decide +kernel
theorem d_E_years_70 : decode b_E_years 70 = .ok (.aload_n 0, 1) := by decide +kernel
theorem d_E_years_71 : decode b_E_years 71 = .ok (.getfield 19, 3) := by decide +kernel
theorem d_E_years_74 : decode b_E_years 74 = .ok (.getfield 326, 3) := by decide +kernel
theorem d_E_years_77 : decode b_E_years 77 = .ok (.sipush 999, 3) := by decide +kernel
theorem d_E_years_80 : decode b_E_years 80 = .ok (.if_icmp .ge 66, 3) := by decide +kernel
theorem d_E_years_83 : decode b_E_years 83 = .ok (.iload 4, 2) := by decide +kernel
theorem d_E_years_85 : decode b_E_years 85 = .ok (.invokestatic 329, 3) := by decide +kernel
theorem d_E_years_88 : decode b_E_years 88 = .ok (.istore 6, 2) := by decide +kernel
theorem d_E_years_90 : decode b_E_years 90 = .ok (.iload 6, 2) := by decide +kernel
theorem d_E_years_92 : decode b_E_years 92 = .ok (.invokestatic 329, 3) := by decide +kernel
theorem d_E_years_95 : decode b_E_years 95 = .ok (.istore 7, 2) := by decide +kernel
theorem d_E_years_97 : decode b_E_years 97 = .ok (.iload 7, 2) := by decide +kernel
theorem d_E_years_99 : decode b_E_years 99 = .ok (.invokestatic 329, 3) := by decide +kernel
theorem d_E_years_102 : decode b_E_years 102 = .ok (.istore 8, 2) := by decide +kernel
theorem d_E_years_104 : decode b_E_years 104 = .ok (.iload 8, 2) := by decide +kernel
theorem d_E_years_106 : decode b_E_years 106 = .ok (.invokestatic 329, 3) := by decide +kernel
theorem d_E_years_109 : decode b_E_years 109 = .ok (.istore 4, 2) := by decide +kernel
theorem d_E_years_111 : decode b_E_years 111 = .ok (.iload_n 3, 1) := by decide +kernel
theorem d_E_years_112 : decode b_E_years 112 = .ok (.aload_n 0, 1) := by decide +kernel
theorem d_E_years_113 : decode b_E_years 113 = .ok (.iload 6, 2) := by decide +kernel
theorem d_E_years_115 : decode b_E_years 115 = .ok (.iload 7, 2) := by decide +kernel
theorem d_E_years_117 : decode b_E_years 117 = .ok (.iload 8, 2) := by decide +kernel
theorem d_E_years_119 : decode b_E_years 119 = .ok (.iload 4, 2) := by decide +kernel
theorem d_E_years_121 : decode b_E_years 121 = .ok (.iconst 4, 1) := by decide +kernel
theorem d_E_years_122 : decode b_E_years 122 = .ok (.irem, 1) := by decide +kernel
theorem d_E_years_123 : decode b_E_years 123 = .ok (.invokevirtual 332, 3) := by decide +kernel
theorem d_E_years_126 : decode b_E_years 126 = .ok (.iadd, 1) := by decide +kernel
theorem d_E_years_127 : decode b_E_years 127 = .ok (.istore_n 3, 1) := by decide +kernel
theorem d_E_years_128 : decode b_E_years 128 = .ok (.aload_n 0, 1) := by decide +kernel
theorem d_E_years_129 : decode b_E_years 129 = .ok (.getfield 19, 3) := by decide +kernel
theorem d_E_years_132 : decode b_E_years 132 = .ok (.aload_n 0, 1) := by decide +kernel
theorem d_E_years_133 : decode b_E_years 133 = .ok (.getfield 53, 3) := by decide +kernel
theorem d_E_years_136 : decode b_E_years 136 = .ok (.invokevirtual 336, 3) := by decide +kernel
theorem d_E_years_139 : decode b_E_years 139 = .ok (.pop, 1) := by decide +kernel
theorem d_E_years_140 : decode b_E_years 140 = .ok (.iinc 5 1, 3) := by decide +kernel
theorem d_E_years_143 : decode b_E_years 143 = .ok (.goto (-79), 3) := by decide +kernel
theorem d_E_years_146 : decode b_E_years 146 = .ok (.aload_n 0, 1) := by decide +kernel
theorem d_E_years_147 : decode b_E_years 147 = .ok (.iload_n 3, 1) := by decide +kernel
theorem d_E_years_148 : decode b_E_years 148 = .ok (.invokevirtual 123, 3) := by decide +kernel
theorem d_E_years_151 : decode b_E_years 151 = .ok (.ireturn, 1) := by decide +kernel
theorem mf_E_years : zMF y_E_years b_E_years 9 (some .int) 2 := ⟨zGW_in 1233 (by decide +kernel) (by decide +kernel), zGW_in 124 (by decide +kernel) (by decide +kernel), by decide +kernel⟩
theorem in_E_years : Cond.instanceMethod y_E_years ∈ zGW := zGW_in 1231 (by decide +kernel) (by decide +kernel)
theorem se_E_years : Cond.selects y_E_years.cls y_E_years y_E_years ∈ zGW := zGW_in 1232 (by decide +kernel) (by decide +kernel)
def y_E_drawn : MethodName := ⟨zNm 0, "drawn", "(II)I"⟩
abbrev b_E_drawn : ByteArray := prog_1_method_37_code
theorem d_E_drawn_0 : decode b_E_drawn 0 = .ok (.aload_n 0, 1) := by decide +kernel
theorem d_E_drawn_1 : decode b_E_drawn 1 = .ok (.getfield 19, 3) := by decide +kernel
theorem d_E_drawn_4 : decode b_E_drawn 4 = .ok (.iload_n 1, 1) := by decide +kernel
theorem d_E_drawn_5 : decode b_E_drawn 5 = .ok (.invokevirtual 126, 3) := by decide +kernel
theorem d_E_drawn_8 : decode b_E_drawn 8 = .ok (.ifCond .ne 5, 3) := by decide +kernel
theorem d_E_drawn_11 : decode b_E_drawn 11 = .ok (.iconst (-1), 1) := by decide +kernel
theorem d_E_drawn_12 : decode b_E_drawn 12 = .ok (.ireturn, 1) := by decide +kernel
theorem d_E_drawn_13 : decode b_E_drawn 13 = .ok (.iload_n 2, 1) := by decide +kernel
theorem d_E_drawn_14 : decode b_E_drawn 14 = .ok (.ifCond .ne 12, 3) := by decide +kernel
theorem d_E_drawn_17 : decode b_E_drawn 17 = .ok (.aload_n 0, 1) := by decide +kernel
theorem d_E_drawn_18 : decode b_E_drawn 18 = .ok (.getfield 19, 3) := by decide +kernel
theorem d_E_drawn_21 : decode b_E_drawn 21 = .ok (.iload_n 1, 1) := by decide +kernel
theorem d_E_drawn_22 : decode b_E_drawn 22 = .ok (.invokevirtual 137, 3) := by decide +kernel
theorem d_E_drawn_25 : decode b_E_drawn 25 = .ok (.ireturn, 1) := by decide +kernel
theorem d_E_drawn_26 : decode b_E_drawn 26 = .ok (.iload_n 2, 1) := by decide +kernel
theorem d_E_drawn_27 : decode b_E_drawn 27 = .ok (.iconst 1, 1) := by decide +kernel
theorem d_E_drawn_28 : decode b_E_drawn 28 = .ok (.if_icmp .ne 20, 3) := by decide +kernel
theorem d_E_drawn_31 : decode b_E_drawn 31 = .ok (.aload_n 0, 1) := by decide +kernel
theorem d_E_drawn_32 : decode b_E_drawn 32 = .ok (.getfield 19, 3) := by decide +kernel
theorem d_E_drawn_35 : decode b_E_drawn 35 = .ok (.getfield 248, 3) := by decide +kernel
theorem d_E_drawn_38 : decode b_E_drawn 38 = .ok (.iload_n 1, 1) := by decide +kernel
theorem d_E_drawn_39 : decode b_E_drawn 39 = .ok (.if_icmp .ne 7, 3) := by decide +kernel
theorem d_E_drawn_42 : decode b_E_drawn 42 = .ok (.iconst 1, 1) := by decide +kernel
theorem d_E_drawn_43 : decode b_E_drawn 43 = .ok (.goto 4, 3) := by decide +kernel
theorem d_E_drawn_46 : decode b_E_drawn 46 = .ok (.iconst 0, 1) := by decide +kernel
theorem d_E_drawn_47 : decode b_E_drawn 47 = .ok (.ireturn, 1) := by decide +kernel
theorem d_E_drawn_48 : decode b_E_drawn 48 = .ok (.iconst (-1), 1) := by decide +kernel
theorem d_E_drawn_49 : decode b_E_drawn 49 = .ok (.ireturn, 1) := by decide +kernel
theorem mf_E_drawn : zMF y_E_drawn b_E_drawn 3 (some .int) 2 := ⟨zGW_in 1248 (by decide +kernel) (by decide +kernel), zGW_in 124 (by decide +kernel) (by decide +kernel), by decide +kernel⟩
theorem in_E_drawn : Cond.instanceMethod y_E_drawn ∈ zGW := zGW_in 1246 (by decide +kernel) (by decide +kernel)
theorem se_E_drawn : Cond.selects y_E_drawn.cls y_E_drawn y_E_drawn ∈ zGW := zGW_in 1247 (by decide +kernel) (by decide +kernel)
def y_E_image : MethodName := ⟨zNm 0, "image", "(I)I"⟩
abbrev b_E_image : ByteArray := prog_1_method_38_code
theorem d_E_image_0 : decode b_E_image 0 = .ok (.iload_n 1, 1) := by decide +kernel
theorem d_E_image_1 : decode b_E_image 1 = .ok (.ifCond .lt 8, 3) := by decide +kernel
theorem d_E_image_4 : decode b_E_image 4 = .ok (.iload_n 1, 1) := by decide +kernel
theorem d_E_image_5 : decode b_E_image 5 = .ok (.iconst 2, 1) := by decide +kernel
theorem d_E_image_6 : decode b_E_image 6 = .ok (.if_icmp .lt 9, 3) := by decide +kernel
theorem d_E_image_9 : decode b_E_image 9 = .ok (.aload_n 0, 1) := by decide +kernel
theorem d_E_image_10 : decode b_E_image 10 = .ok (.iconst (-1), 1) := by decide +kernel
theorem d_E_image_11 : decode b_E_image 11 = .ok (.invokevirtual 109, 3) := by decide +kernel
theorem d_E_image_14 : decode b_E_image 14 = .ok (.ireturn, 1) := by decide +kernel
theorem d_E_image_15 : decode b_E_image 15 = .ok (.aload_n 0, 1) := by decide +kernel
theorem d_E_image_16 : decode b_E_image 16 = .ok (.getfield 22, 3) := by decide +kernel
theorem d_E_image_19 : decode b_E_image 19 = .ok (.iload_n 1, 1) := by decide +kernel
theorem d_E_image_20 : decode b_E_image 20 = .ok (.aaload, 1) := by decide +kernel
theorem d_E_image_21 : decode b_E_image 21 = .ok (.aload_n 0, 1) := by decide +kernel
theorem d_E_image_22 : decode b_E_image 22 = .ok (.getfield 12, 3) := by decide +kernel
theorem d_E_image_25 : decode b_E_image 25 = .ok (.invokevirtual 200, 3) := by decide +kernel
theorem d_E_image_28 : decode b_E_image 28 = .ok (.aload_n 0, 1) := by decide +kernel
theorem d_E_image_29 : decode b_E_image 29 = .ok (.getfield 22, 3) := by decide +kernel
theorem d_E_image_32 : decode b_E_image 32 = .ok (.iload_n 1, 1) := by decide +kernel
theorem d_E_image_33 : decode b_E_image 33 = .ok (.aaload, 1) := by decide +kernel
theorem d_E_image_34 : decode b_E_image 34 = .ok (.iconst 1, 1) := by decide +kernel
theorem d_E_image_35 : decode b_E_image 35 = .ok (.putfield 340, 3) := by decide +kernel
theorem d_E_image_38 : decode b_E_image 38 = .ok (.aload_n 0, 1) := by decide +kernel
theorem d_E_image_39 : decode b_E_image 39 = .ok (.iconst 0, 1) := by decide +kernel
theorem d_E_image_40 : decode b_E_image 40 = .ok (.invokevirtual 123, 3) := by decide +kernel
theorem d_E_image_43 : decode b_E_image 43 = .ok (.ireturn, 1) := by decide +kernel
theorem mf_E_image : zMF y_E_image b_E_image 2 (some .int) 1 := ⟨zGW_in 1252 (by decide +kernel) (by decide +kernel), zGW_in 124 (by decide +kernel) (by decide +kernel), by decide +kernel⟩
theorem in_E_image : Cond.instanceMethod y_E_image ∈ zGW := zGW_in 1250 (by decide +kernel) (by decide +kernel)
theorem se_E_image : Cond.selects y_E_image.cls y_E_image y_E_image ∈ zGW := zGW_in 1251 (by decide +kernel) (by decide +kernel)
def y_E_back : MethodName := ⟨zNm 0, "back", "(I)I"⟩
abbrev b_E_back : ByteArray := prog_1_method_39_code
theorem d_E_back_0 : decode b_E_back 0 = .ok (.iload_n 1, 1) := by decide +kernel
theorem d_E_back_1 : decode b_E_back 1 = .ok (.ifCond .lt 8, 3) := by decide +kernel
theorem d_E_back_4 : decode b_E_back 4 = .ok (.iload_n 1, 1) := by decide +kernel
theorem d_E_back_5 : decode b_E_back 5 = .ok (.iconst 2, 1) := by decide +kernel
theorem d_E_back_6 : decode b_E_back 6 = .ok (.if_icmp .lt 9, 3) := by decide +kernel
theorem d_E_back_9 : decode b_E_back 9 = .ok (.aload_n 0, 1) := by decide +kernel
theorem d_E_back_10 : decode b_E_back 10 = .ok (.iconst (-1), 1) := by decide +kernel
theorem d_E_back_11 : decode b_E_back 11 = .ok (.invokevirtual 109, 3) := by decide +kernel
theorem d_E_back_14 : decode b_E_back 14 = .ok (.ireturn, 1) := by decide +kernel
theorem d_E_back_15 : decode b_E_back 15 = .ok (.aload_n 0, 1) := by decide +kernel
theorem d_E_back_16 : decode b_E_back 16 = .ok (.getfield 22, 3) := by decide +kernel
theorem d_E_back_19 : decode b_E_back 19 = .ok (.iload_n 1, 1) := by decide +kernel
theorem d_E_back_20 : decode b_E_back 20 = .ok (.aaload, 1) := by decide +kernel
theorem d_E_back_21 : decode b_E_back 21 = .ok (.getfield 340, 3) := by decide +kernel
theorem d_E_back_24 : decode b_E_back 24 = .ok (.ifCond .ne 10, 3) := by decide +kernel
theorem d_E_back_27 : decode b_E_back 27 = .ok (.aload_n 0, 1) := by decide +kernel
theorem d_E_back_28 : decode b_E_back 28 = .ok (.bipush (-2), 2) := by decide +kernel
theorem d_E_back_30 : decode b_E_back 30 = .ok (.invokevirtual 109, 3) := by decide +kernel
theorem d_E_back_33 : decode b_E_back 33 = .ok (.ireturn, 1) := by decide +kernel
theorem d_E_back_34 : decode b_E_back 34 = .ok (.aload_n 0, 1) := by decide +kernel
theorem d_E_back_35 : decode b_E_back 35 = .ok (.getfield 12, 3) := by decide +kernel
theorem d_E_back_38 : decode b_E_back 38 = .ok (.aload_n 0, 1) := by decide +kernel
theorem d_E_back_39 : decode b_E_back 39 = .ok (.getfield 22, 3) := by decide +kernel
theorem d_E_back_42 : decode b_E_back 42 = .ok (.iload_n 1, 1) := by decide +kernel
theorem d_E_back_43 : decode b_E_back 43 = .ok (.aaload, 1) := by decide +kernel
theorem d_E_back_44 : decode b_E_back 44 = .ok (.invokevirtual 200, 3) := by decide +kernel
theorem d_E_back_47 : decode b_E_back 47 = .ok (.aload_n 0, 1) := by decide +kernel
theorem d_E_back_48 : decode b_E_back 48 = .ok (.getfield 29, 3) := by decide +kernel
theorem d_E_back_51 : decode b_E_back 51 = .ok (.invokevirtual 116, 3) := by decide +kernel
theorem d_E_back_54 : decode b_E_back 54 = .ok (.aload_n 0, 1) := by decide +kernel
theorem d_E_back_55 : decode b_E_back 55 = .ok (.iconst 0, 1) := by decide +kernel
theorem d_E_back_56 : decode b_E_back 56 = .ok (.invokevirtual 123, 3) := by decide +kernel
theorem d_E_back_59 : decode b_E_back 59 = .ok (.ireturn, 1) := by decide +kernel
theorem mf_E_back : zMF y_E_back b_E_back 2 (some .int) 1 := ⟨zGW_in 1256 (by decide +kernel) (by decide +kernel), zGW_in 124 (by decide +kernel) (by decide +kernel), by decide +kernel⟩
theorem in_E_back : Cond.instanceMethod y_E_back ∈ zGW := zGW_in 1254 (by decide +kernel) (by decide +kernel)
theorem se_E_back : Cond.selects y_E_back.cls y_E_back y_E_back ∈ zGW := zGW_in 1255 (by decide +kernel) (by decide +kernel)
def y_Ps_channels : MethodName := ⟨zNm 5, "channels", "()I"⟩
abbrev b_Ps_channels : ByteArray := prog_6_method_13_code
theorem d_Ps_channels_0 : decode b_Ps_channels 0 = .ok (.iconst 0, 1) := by decide +kernel
theorem d_Ps_channels_1 : decode b_Ps_channels 1 = .ok (.istore_n 1, 1) := by decide +kernel
theorem d_Ps_channels_2 : decode b_Ps_channels 2 = .ok (.iconst 0, 1) := by decide +kernel
theorem d_Ps_channels_3 : decode b_Ps_channels 3 = .ok (.istore_n 2, 1) := by decide +kernel
theorem d_Ps_channels_4 : decode b_Ps_channels 4 = .ok (.iload_n 2, 1) := by decide +kernel
theorem d_Ps_channels_5 : decode b_Ps_channels 5 = .ok (.aload_n 0, 1) := by decide +kernel
theorem d_Ps_channels_6 : decode b_Ps_channels 6 = .ok (.getfield 19, 3) := by decide +kernel
theorem d_Ps_channels_9 : decode b_Ps_channels 9 = .ok (.arraylength, 1) := by decide +kernel
theorem d_Ps_channels_10 : decode b_Ps_channels 10 = .ok (.if_icmp .ge 21, 3) := by decide +kernel
theorem d_Ps_channels_13 : decode b_Ps_channels 13 = .ok (.aload_n 0, 1) := by decide +kernel
theorem d_Ps_channels_14 : decode b_Ps_channels 14 = .ok (.getfield 19, 3) := by decide +kernel
theorem d_Ps_channels_17 : decode b_Ps_channels 17 = .ok (.iload_n 2, 1) := by decide +kernel
theorem d_Ps_channels_18 : decode b_Ps_channels 18 = .ok (.iaload, 1) := by decide +kernel
theorem d_Ps_channels_19 : decode b_Ps_channels 19 = .ok (.ifCond .le 6, 3) := by decide +kernel
theorem d_Ps_channels_22 : decode b_Ps_channels 22 = .ok (.iinc 1 1, 3) := by decide +kernel
theorem d_Ps_channels_25 : decode b_Ps_channels 25 = .ok (.iinc 2 1, 3) := by decide +kernel
theorem d_Ps_channels_28 : decode b_Ps_channels 28 = .ok (.goto (-24), 3) := by decide +kernel
theorem d_Ps_channels_31 : decode b_Ps_channels 31 = .ok (.iload_n 1, 1) := by decide +kernel
theorem d_Ps_channels_32 : decode b_Ps_channels 32 = .ok (.ireturn, 1) := by decide +kernel
theorem mf_Ps_channels : zMF y_Ps_channels b_Ps_channels 3 (some .int) 0 := ⟨zGW_in 1264 (by decide +kernel) (by decide +kernel), zGW_in 125 (by decide +kernel) (by decide +kernel), by decide +kernel⟩
theorem in_Ps_channels : Cond.instanceMethod y_Ps_channels ∈ zGW := zGW_in 1262 (by decide +kernel) (by decide +kernel)
theorem se_Ps_channels : Cond.selects y_Ps_channels.cls y_Ps_channels y_Ps_channels ∈ zGW := zGW_in 1263 (by decide +kernel) (by decide +kernel)
def y_E_refusalsBy : MethodName := ⟨zNm 0, "refusalsBy", "(I)I"⟩
abbrev b_E_refusalsBy : ByteArray := prog_1_method_45_code
theorem d_E_refusalsBy_0 : decode b_E_refusalsBy 0 = .ok (.iload_n 1, 1) := by decide +kernel
theorem d_E_refusalsBy_1 : decode b_E_refusalsBy 1 = .ok (.ineg, 1) := by decide +kernel
theorem d_E_refusalsBy_2 : decode b_E_refusalsBy 2 = .ok (.iconst 1, 1) := by decide +kernel
theorem d_E_refusalsBy_3 : decode b_E_refusalsBy 3 = .ok (.isub, 1) := by decide +kernel
theorem d_E_refusalsBy_4 : decode b_E_refusalsBy 4 = .ok (.istore_n 2, 1) := by decide +kernel
theorem d_E_refusalsBy_5 : decode b_E_refusalsBy 5 = .ok (.iload_n 2, 1) := by decide +kernel
theorem d_E_refusalsBy_6 : decode b_E_refusalsBy 6 = .ok (.ifCond .lt 21, 3) := by decide +kernel
theorem d_E_refusalsBy_9 : decode b_E_refusalsBy 9 = .ok (.iload_n 2, 1) := by decide +kernel
theorem d_E_refusalsBy_10 : decode b_E_refusalsBy 10 = .ok (.aload_n 0, 1) := by decide +kernel
theorem d_E_refusalsBy_11 : decode b_E_refusalsBy 11 = .ok (.getfield 93, 3) := by decide +kernel
theorem d_E_refusalsBy_14 : decode b_E_refusalsBy 14 = .ok (.arraylength, 1) := by decide +kernel
theorem d_E_refusalsBy_15 : decode b_E_refusalsBy 15 = .ok (.if_icmp .ge 12, 3) := by decide +kernel
theorem d_E_refusalsBy_18 : decode b_E_refusalsBy 18 = .ok (.aload_n 0, 1) := by decide +kernel
theorem d_E_refusalsBy_19 : decode b_E_refusalsBy 19 = .ok (.getfield 93, 3) := by decide +kernel
theorem d_E_refusalsBy_22 : decode b_E_refusalsBy 22 = .ok (.iload_n 2, 1) := by decide +kernel
theorem d_E_refusalsBy_23 : decode b_E_refusalsBy 23 = .ok (.iaload, 1) := by decide +kernel
theorem d_E_refusalsBy_24 : decode b_E_refusalsBy 24 = .ok (.goto 4, 3) := by decide +kernel
theorem d_E_refusalsBy_27 : decode b_E_refusalsBy 27 = .ok (.iconst 0, 1) := by decide +kernel
theorem d_E_refusalsBy_28 : decode b_E_refusalsBy 28 = .ok (.ireturn, 1) := by decide +kernel
theorem mf_E_refusalsBy : zMF y_E_refusalsBy b_E_refusalsBy 3 (some .int) 1 := ⟨zGW_in 1268 (by decide +kernel) (by decide +kernel), zGW_in 124 (by decide +kernel) (by decide +kernel), by decide +kernel⟩
theorem in_E_refusalsBy : Cond.instanceMethod y_E_refusalsBy ∈ zGW := zGW_in 1267 (by decide +kernel) (by decide +kernel)
theorem se_E_refusalsBy : Cond.selects y_E_refusalsBy.cls y_E_refusalsBy y_E_refusalsBy ∈ zGW := zGW_in 38 (by decide +kernel) (by decide +kernel)
def y_E_count : MethodName := ⟨zNm 0, "count", "(I)I"⟩
abbrev b_E_count : ByteArray := prog_1_method_40_code
theorem d_E_count_0 : decode b_E_count 0 = .ok (.iload_n 1, 1) := by decide +kernel
theorem d_E_count_1 : decode b_E_count 1 = .ok (.tableswitch 204 0 16 #[83, 91, 99, 107, 118, 126, 134, 142, 150, 156, 163, 170, 177, 184, 192, 192, 192], 83) := by decide +kernel
theorem d_E_count_84 : decode b_E_count 84 = .ok (.aload_n 0, 1) := by decide +kernel
theorem d_E_count_85 : decode b_E_count 85 = .ok (.getfield 12, 3) := by decide +kernel
theorem d_E_count_88 : decode b_E_count 88 = .ok (.getfield 113, 3) := by decide +kernel
theorem d_E_count_91 : decode b_E_count 91 = .ok (.ireturn, 1) := by decide +kernel
theorem d_E_count_92 : decode b_E_count 92 = .ok (.aload_n 0, 1) := by decide +kernel
theorem d_E_count_93 : decode b_E_count 93 = .ok (.getfield 12, 3) := by decide +kernel
theorem d_E_count_96 : decode b_E_count 96 = .ok (.getfield 248, 3) := by decide +kernel
theorem d_E_count_99 : decode b_E_count 99 = .ok (.ireturn, 1) := by decide +kernel
theorem d_E_count_100 : decode b_E_count 100 = .ok (.aload_n 0, 1) := by decide +kernel
theorem d_E_count_101 : decode b_E_count 101 = .ok (.getfield 12, 3) := by decide +kernel
theorem d_E_count_104 : decode b_E_count 104 = .ok (.invokevirtual 344, 3) := by decide +kernel
theorem d_E_count_107 : decode b_E_count 107 = .ok (.ireturn, 1) := by decide +kernel
theorem d_E_count_108 : decode b_E_count 108 = .ok (.aload_n 0, 1) := by decide +kernel
theorem d_E_count_109 : decode b_E_count 109 = .ok (.getfield 12, 3) := by decide +kernel
theorem d_E_count_112 : decode b_E_count 112 = .ok (.getfield 347, 3) := by decide +kernel
theorem d_E_count_115 : decode b_E_count 115 = .ok (.invokestatic 351, 3) := by decide +kernel
theorem d_E_count_118 : decode b_E_count 118 = .ok (.ireturn, 1) := by decide +kernel
theorem d_E_count_119 : decode b_E_count 119 = .ok (.aload_n 0, 1) := by decide +kernel
theorem d_E_count_120 : decode b_E_count 120 = .ok (.getfield 12, 3) := by decide +kernel
theorem d_E_count_123 : decode b_E_count 123 = .ok (.getfield 283, 3) := by decide +kernel
theorem d_E_count_126 : decode b_E_count 126 = .ok (.ireturn, 1) := by decide +kernel
theorem d_E_count_127 : decode b_E_count 127 = .ok (.aload_n 0, 1) := by decide +kernel
theorem d_E_count_128 : decode b_E_count 128 = .ok (.getfield 12, 3) := by decide +kernel
theorem d_E_count_131 : decode b_E_count 131 = .ok (.getfield 180, 3) := by decide +kernel
theorem d_E_count_134 : decode b_E_count 134 = .ok (.ireturn, 1) := by decide +kernel
theorem d_E_count_135 : decode b_E_count 135 = .ok (.aload_n 0, 1) := by decide +kernel
theorem d_E_count_136 : decode b_E_count 136 = .ok (.getfield 29, 3) := by decide +kernel
theorem d_E_count_139 : decode b_E_count 139 = .ok (.getfield 357, 3) := by decide +kernel
theorem d_E_count_142 : decode b_E_count 142 = .ok (.ireturn, 1) := by decide +kernel
theorem d_E_count_143 : decode b_E_count 143 = .ok (.aload_n 0, 1) := by decide +kernel
theorem d_E_count_144 : decode b_E_count 144 = .ok (.getfield 39, 3) := by decide +kernel
theorem d_E_count_147 : decode b_E_count 147 = .ok (.getfield 170, 3) := by decide +kernel
theorem d_E_count_150 : decode b_E_count 150 = .ok (.ireturn, 1) := by decide +kernel
theorem d_E_count_151 : decode b_E_count 151 = .ok (.aload_n 0, 1) := by decide +kernel
theorem d_E_count_152 : decode b_E_count 152 = .ok (.iconst (-1), 1) := by decide +kernel
theorem d_E_count_153 : decode b_E_count 153 = .ok (.invokevirtual 360, 3) := by decide +kernel
theorem d_E_count_156 : decode b_E_count 156 = .ok (.ireturn, 1) := by decide +kernel
theorem d_E_count_157 : decode b_E_count 157 = .ok (.aload_n 0, 1) := by decide +kernel
theorem d_E_count_158 : decode b_E_count 158 = .ok (.bipush (-2), 2) := by decide +kernel
theorem d_E_count_160 : decode b_E_count 160 = .ok (.invokevirtual 360, 3) := by decide +kernel
theorem d_E_count_163 : decode b_E_count 163 = .ok (.ireturn, 1) := by decide +kernel
theorem d_E_count_164 : decode b_E_count 164 = .ok (.aload_n 0, 1) := by decide +kernel
theorem d_E_count_165 : decode b_E_count 165 = .ok (.bipush (-3), 2) := by decide +kernel
theorem d_E_count_167 : decode b_E_count 167 = .ok (.invokevirtual 360, 3) := by decide +kernel
theorem d_E_count_170 : decode b_E_count 170 = .ok (.ireturn, 1) := by decide +kernel
theorem d_E_count_171 : decode b_E_count 171 = .ok (.aload_n 0, 1) := by decide +kernel
theorem d_E_count_172 : decode b_E_count 172 = .ok (.bipush (-5), 2) := by decide +kernel
theorem d_E_count_174 : decode b_E_count 174 = .ok (.invokevirtual 360, 3) := by decide +kernel
theorem d_E_count_177 : decode b_E_count 177 = .ok (.ireturn, 1) := by decide +kernel
theorem d_E_count_178 : decode b_E_count 178 = .ok (.aload_n 0, 1) := by decide +kernel
theorem d_E_count_179 : decode b_E_count 179 = .ok (.bipush (-6), 2) := by decide +kernel
theorem d_E_count_181 : decode b_E_count 181 = .ok (.invokevirtual 360, 3) := by decide +kernel
theorem d_E_count_184 : decode b_E_count 184 = .ok (.ireturn, 1) := by decide +kernel
theorem d_E_count_185 : decode b_E_count 185 = .ok (.aload_n 0, 1) := by decide +kernel
theorem d_E_count_186 : decode b_E_count 186 = .ok (.getfield 12, 3) := by decide +kernel
theorem d_E_count_189 : decode b_E_count 189 = .ok (.getfield 213, 3) := by decide +kernel
theorem d_E_count_192 : decode b_E_count 192 = .ok (.ireturn, 1) := by decide +kernel
theorem d_E_count_193 : decode b_E_count 193 = .ok (.aload_n 0, 1) := by decide +kernel
theorem d_E_count_194 : decode b_E_count 194 = .ok (.getfield 12, 3) := by decide +kernel
theorem d_E_count_197 : decode b_E_count 197 = .ok (.iload_n 1, 1) := by decide +kernel
theorem d_E_count_198 : decode b_E_count 198 = .ok (.bipush 14, 2) := by decide +kernel
theorem d_E_count_200 : decode b_E_count 200 = .ok (.isub, 1) := by decide +kernel
theorem d_E_count_201 : decode b_E_count 201 = .ok (.invokevirtual 163, 3) := by decide +kernel
theorem d_E_count_204 : decode b_E_count 204 = .ok (.ireturn, 1) := by decide +kernel
theorem d_E_count_205 : decode b_E_count 205 = .ok (.iconst (-1), 1) := by decide +kernel
theorem d_E_count_206 : decode b_E_count 206 = .ok (.ireturn, 1) := by decide +kernel
theorem mf_E_count : zMF y_E_count b_E_count 2 (some .int) 1 := ⟨zGW_in 1260 (by decide +kernel) (by decide +kernel), zGW_in 124 (by decide +kernel) (by decide +kernel), by decide +kernel⟩
theorem in_E_count : Cond.instanceMethod y_E_count ∈ zGW := zGW_in 1258 (by decide +kernel) (by decide +kernel)
theorem se_E_count : Cond.selects y_E_count.cls y_E_count y_E_count ∈ zGW := zGW_in 1259 (by decide +kernel) (by decide +kernel)
def y_E_status : MethodName := ⟨zNm 0, "status", "()I"⟩
abbrev b_E_status : ByteArray := prog_1_method_41_code
theorem d_E_status_0 : decode b_E_status 0 = .ok (.aload_n 0, 1) := by decide +kernel
theorem d_E_status_1 : decode b_E_status 1 = .ok (.getfield 106, 3) := by decide +kernel
theorem d_E_status_4 : decode b_E_status 4 = .ok (.ireturn, 1) := by decide +kernel
theorem mf_E_status : zMF y_E_status b_E_status 1 (some .int) 0 := ⟨zGW_in 1272 (by decide +kernel) (by decide +kernel), zGW_in 124 (by decide +kernel) (by decide +kernel), by decide +kernel⟩
theorem in_E_status : Cond.instanceMethod y_E_status ∈ zGW := zGW_in 1270 (by decide +kernel) (by decide +kernel)
theorem se_E_status : Cond.selects y_E_status.cls y_E_status y_E_status ∈ zGW := zGW_in 1271 (by decide +kernel) (by decide +kernel)
theorem lk_0_289 : Cond.methodLink (zNm 0) 289 y_Ru_fill ∈ zGW := zGW_in 1173 (by decide +kernel) (by decide +kernel)
theorem lk_0_292 : Cond.methodLink (zNm 0) 292 y_Ru_origins ∈ zGW := zGW_in 1181 (by decide +kernel) (by decide +kernel)
theorem lk_0_295 : Cond.methodLink (zNm 0) 295 y_Ru_startAt ∈ zGW := zGW_in 1189 (by decide +kernel) (by decide +kernel)
theorem lk_8_46 : Cond.methodLink (zNm 8) 46 y_Ru_comes ∈ zGW := zGW_in 1206 (by decide +kernel) (by decide +kernel)
theorem zc_8_41 : Cond.constant (zNm 8) 41 (1000000 : Int32) ∈ zGW := zGW_in 1201 (by decide +kernel) (by decide +kernel)
theorem lk_8_42 : Cond.methodLink (zNm 8) 42 y_Ru_leftAt ∈ zGW := zGW_in 1202 (by decide +kernel) (by decide +kernel)
theorem lk_0_298 : Cond.methodLink (zNm 0) 298 y_Ru_bestEar ∈ zGW := zGW_in 1197 (by decide +kernel) (by decide +kernel)
theorem lk_0_302 : Cond.methodLink (zNm 0) 302 y_Ru_leftAt ∈ zGW := zGW_in 1210 (by decide +kernel) (by decide +kernel)
theorem zc_0_410 : Cond.constantLong (zNm 0) 410 (10 : Int64) ∈ zGW := zGW_in 1224 (by decide +kernel) (by decide +kernel)
theorem zc_0_306 : Cond.constantLong (zNm 0) 306 (-1 : Int64) ∈ zGW := zGW_in 1215 (by decide +kernel) (by decide +kernel)
theorem lk_0_308 : Cond.methodLink (zNm 0) 308 y_Ar_fillL ∈ zGW := zGW_in 1216 (by decide +kernel) (by decide +kernel)
theorem zc_0_313 : Cond.constantLong (zNm 0) 313 (1000000000000 : Int64) ∈ zGW := zGW_in 1219 (by decide +kernel) (by decide +kernel)
theorem lk_0_315 : Cond.methodLink (zNm 0) 315 y_E_pullString ∈ zGW := zGW_in 1220 (by decide +kernel) (by decide +kernel)
theorem lk_0_318 : Cond.methodLink (zNm 0) 318 y_Ps_lawOf ∈ zGW := zGW_in 1229 (by decide +kernel) (by decide +kernel)
theorem zc_0_412 : Cond.constantLong (zNm 0) 412 (1103 : Int64) ∈ zGW := zGW_in 1238 (by decide +kernel) (by decide +kernel)
theorem zc_0_414 : Cond.constantLong (zNm 0) 414 (12345 : Int64) ∈ zGW := zGW_in 1239 (by decide +kernel) (by decide +kernel)
theorem zc_0_416 : Cond.constantLong (zNm 0) 416 (1000003 : Int64) ∈ zGW := zGW_in 1240 (by decide +kernel) (by decide +kernel)
theorem zc_0_325 : Cond.constant (zNm 0) 325 (1000000 : Int32) ∈ zGW := zGW_in 1234 (by decide +kernel) (by decide +kernel)
theorem lk_0_329 : Cond.methodLink (zNm 0) 329 y_E_nextDraw ∈ zGW := zGW_in 1235 (by decide +kernel) (by decide +kernel)
theorem lk_0_332 : Cond.methodLink (zNm 0) 332 y_E_actOnPaper ∈ zGW := zGW_in 1241 (by decide +kernel) (by decide +kernel)
theorem lk_0_344 : Cond.methodLink (zNm 0) 344 y_Ps_channels ∈ zGW := zGW_in 1261 (by decide +kernel) (by decide +kernel)
theorem lk_0_360 : Cond.methodLink (zNm 0) 360 y_E_refusalsBy ∈ zGW := zGW_in 1265 (by decide +kernel) (by decide +kernel)
def f_Ru_origins_4 (fu : Nat) : Nat → Int32 → Int32 → zSt → Option Int32
  | 0, _, _, _ => none
  | n + 1, a1, a2, S => if (zI S 67 1) ≤ a2 then some a1 else zgd (0 ≤ a2 ∧ a2.toNatClampNeg < 9) (if (zI S 68 a2.toNatClampNeg) = (-1 : Int32) then f_Ru_origins_4 fu n a1 (a2 + (1 : Int32)) S else f_Ru_origins_4 fu n (a1 ||| ((1 : Int32) <<< (a2 &&& 31))) (a2 + (1 : Int32)) S)
def f_Ru_origins (fu : Nat) (S : zSt) : Option Int32 := f_Ru_origins_4 fu fu (0 : Int32) (0 : Int32) S
set_option maxRecDepth 100000 in
set_option maxHeartbeats 4000000 in
theorem c_Ru_origins_4 {p : Program} {l : Launch} {e : Env} {s : State} {m : MethodId} {args : Array Value} {below : List Frame} {meth : Method} {c : Code} {G : zG} (C : zC p s m args meth c G b_Ru_origins 3 y_Ru_origins.cls) (hret : meth.sig.returnType = (some .int)) {fu : Nat} {r : Int32} : ∀ (n : Nat) (a1 : Int32) (a2 : Int32) (S : zSt) , f_Ru_origins_4 fu n a1 a2 S = some r → zJ p l e rm_Ru_origins s m args below meth c G true 3 0 0 (zQm below G args s rm_Ru_origins true (some (zi r)) S) S 4 [(0, zr (some 67)), (1, zi a1), (2, zi a2)] [] := by
  intro n
  induction n with
  | zero =>
    intro a1 a2 S h
    cases h
  | succ n ih =>
    intro a1 a2 S h
    rw [f_Ru_origins_4] at h
    refine z_iload_n C 2 rfl d_Ru_origins_4 rfl ?_
    refine z_aload_n C 0 rfl d_Ru_origins_5 rfl ?_
    refine z_getI C 8 (by decide) 1 (by decide) rfl zo_67 zk_67 zfl_8_15 d_Ru_origins_6 ?_
    rcases zite h with ⟨c1, h⟩ | ⟨c1, h⟩
    · refine z_icmp_get C 34 c1 d_Ru_origins_9 (by decide) ?_
      refine z_iload_n C 1 rfl d_Ru_origins_34 rfl ?_
      cases h
      exact z_iret C .int hret rfl ⟨Nat.zero_le _, Nat.zero_le _⟩ d_Ru_origins_35
    · refine z_icmp_gef C 34 c1 d_Ru_origins_9 (by decide) ?_
      refine z_aload_n C 0 rfl d_Ru_origins_12 rfl ?_
      refine z_getF2 C 8 (by decide) 0 (by decide) rfl 1 9 rfl (68) rfl zp_67 zk_67 zfl_8_9 d_Ru_origins_13 ?_
      refine z_iload_n C 2 rfl d_Ru_origins_16 rfl ?_
      refine z_fact (fun hSR => ?_)
      obtain ⟨g2, h⟩ := zgd_some h
      refine z_ialoadS C zo_68 zk_68 (za_68 hSR) g2 d_Ru_origins_17 ?_
      refine z_iconst C (-1 : Int32) (by decide) d_Ru_origins_18 ?_
      rcases zite h with ⟨c3, h⟩ | ⟨c3, h⟩
      · refine z_icmp_eqt C 28 c3 d_Ru_origins_19 (by decide) ?_
        refine z_iinc C 2 (a2 + (1 : Int32)) [(2, zi (a2 + (1 : Int32))), (0, zr (some 67)), (1, zi a1)] rfl d_Ru_origins_28 (by first | rfl | decide) (by decide) rfl ?_
        refine z_goto C 4 d_Ru_origins_31 (by decide) ?_
        refine zq_lsub [1, 2, 0] [(0, zr (some 67)), (1, zi a1), (2, zi (a2 + (1 : Int32)))] rfl ?_
        exact ih a1 (a2 + (1 : Int32)) S h
      · refine z_icmp_eqf C 28 c3 d_Ru_origins_19 (by decide) ?_
        refine z_iload_n C 1 rfl d_Ru_origins_22 rfl ?_
        refine z_iconst C (1 : Int32) (by decide) d_Ru_origins_23 ?_
        refine z_iload_n C 2 rfl d_Ru_origins_24 rfl ?_
        refine z_ishl C d_Ru_origins_25 ?_
        refine z_ior C d_Ru_origins_26 ?_
        refine z_istore_n C [(1, zi (a1 ||| ((1 : Int32) <<< (a2 &&& 31)))), (0, zr (some 67)), (2, zi a2)] d_Ru_origins_27 rfl (by decide) rfl ?_
        refine z_iinc C 2 (a2 + (1 : Int32)) [(2, zi (a2 + (1 : Int32))), (1, zi (a1 ||| ((1 : Int32) <<< (a2 &&& 31)))), (0, zr (some 67))] rfl d_Ru_origins_28 (by first | rfl | decide) (by decide) rfl ?_
        refine z_goto C 4 d_Ru_origins_31 (by decide) ?_
        refine zq_lsub [2, 1, 0] [(0, zr (some 67)), (1, zi (a1 ||| ((1 : Int32) <<< (a2 &&& 31)))), (2, zi (a2 + (1 : Int32)))] rfl ?_
        exact ih (a1 ||| ((1 : Int32) <<< (a2 &&& 31))) (a2 + (1 : Int32)) S h
set_option maxRecDepth 100000 in
set_option maxHeartbeats 4000000 in
theorem m_Ru_origins (l : Launch) {fu : Nat} {S : zSt} {r : Int32} (h : f_Ru_origins fu  S = some r) : zPM l y_Ru_origins b_Ru_origins 3 (some .int) rm_Ru_origins true true [zr (some 67)] S (some (zi r)) S := by
  refine zPM_of (by decide) (Nat.le_of_ble_eq_true rfl) (fun p e s m args below meth c G C hret hname => ?_)
  unfold f_Ru_origins at h
  refine (?_ : zJ p l e rm_Ru_origins s m args below meth c G true 3 0 0 (zQm below G args s rm_Ru_origins true (some (zi r)) S) S 0 [(0, zr (some 67))] [])
  refine z_iconst C (0 : Int32) (by decide) d_Ru_origins_0 ?_
  refine z_istore_n C [(1, zi (0 : Int32)), (0, zr (some 67))] d_Ru_origins_1 rfl (by decide) rfl ?_
  refine z_iconst C (0 : Int32) (by decide) d_Ru_origins_2 ?_
  refine z_istore_n C [(2, zi (0 : Int32)), (1, zi (0 : Int32)), (0, zr (some 67))] d_Ru_origins_3 rfl (by decide) rfl ?_
  refine zq_lsub [2, 1, 0] [(0, zr (some 67)), (1, zi (0 : Int32)), (2, zi (0 : Int32))] rfl ?_
  exact c_Ru_origins_4 C hret fu  (0 : Int32) (0 : Int32) S h
def f_E_canBe (fu : Nat) (S : zSt) : Option (Int32 × zSt) := zb1 (f_E_fillPaper fu S) (fun S2 => zb1 (f_Ru_fill fu 1 S2) (fun S4 => zb1 (f_Ru_origins fu S4) (fun r6 => some (r6, S4))))
set_option maxRecDepth 100000 in
set_option maxHeartbeats 4000000 in
theorem m_E_canBe (l : Launch) {fu : Nat} {S : zSt} {r : Int32} {S1 : zSt} (h : f_E_canBe fu  S = some (r, S1)) : zPM l y_E_canBe b_E_canBe 1 (some .int) rm_E_canBe true true [zr (some 0)] S (some (zi r)) S1 := by
  refine zPM_of (by decide) (Nat.le_of_ble_eq_true rfl) (fun p e s m args below meth c G C hret hname => ?_)
  unfold f_E_canBe at h
  refine (?_ : zJ p l e rm_E_canBe s m args below meth c G true 1 0 0 (zQm below G args s rm_E_canBe true (some (zi r)) S1) S 0 [(0, zr (some 0))] [])
  refine z_aload_n C 0 rfl d_E_canBe_0 rfl ?_
  obtain ⟨S2, h1, h⟩ := zb1_some h
  refine z_cV C 0 (by decide) (m_E_fillPaper l h1) mf_E_fillPaper lk_0_226 in_E_fillPaper se_E_fillPaper rfl zo_0 zk_0 ⟨rfl, rfl⟩ ⟨by decide, by decide⟩ ⟨Nat.zero_le _, Nat.zero_le _⟩ rfl _ [] rfl (Nat.le_of_ble_eq_true rfl) d_E_canBe_1 ?_
  refine z_aload_n C 0 rfl d_E_canBe_4 rfl ?_
  refine z_getF2 C 0 (by decide) 12 (by decide) rfl 67 0 rfl (67) rfl zp_0 zk_0 zfl_0_81 d_E_canBe_5 ?_
  refine z_aload_n C 0 rfl d_E_canBe_8 rfl ?_
  refine z_getF2 C 0 (by decide) 9 (by decide) rfl 55 0 rfl (55) rfl zp_0 zk_0 zfl_0_60 d_E_canBe_9 ?_
  refine z_aload_n C 0 rfl d_E_canBe_12 rfl ?_
  refine z_getF2 C 0 (by decide) 0 (by decide) rfl 1 0 rfl (1) rfl zp_0 zk_0 zfl_0_12 d_E_canBe_13 ?_
  obtain ⟨S4, h3, h⟩ := zb1_some h
  refine z_cV C 8 (by decide) (m_Ru_fill l zk_1 (Nat.le_of_ble_eq_true rfl) h3) mf_Ru_fill lk_0_289 in_Ru_fill se_Ru_fill rfl zo_67 zk_67 ⟨rfl, rfl⟩ ⟨by decide, by decide⟩ ⟨Nat.zero_le _, Nat.zero_le _⟩ rfl _ [] rfl (Nat.le_of_ble_eq_true rfl) d_E_canBe_16 ?_
  refine z_aload_n C 0 rfl d_E_canBe_19 rfl ?_
  refine z_getF2 C 0 (by decide) 12 (by decide) rfl 67 0 rfl (67) rfl zp_0 zk_0 zfl_0_81 d_E_canBe_20 ?_
  obtain ⟨r6, h5, h⟩ := zb1_some h
  refine z_cV C 8 (by decide) (m_Ru_origins l h5) mf_Ru_origins lk_0_292 in_Ru_origins se_Ru_origins rfl zo_67 zk_67 ⟨rfl, rfl⟩ ⟨by decide, by decide⟩ ⟨Nat.zero_le _, Nat.zero_le _⟩ rfl _ [] rfl (Nat.le_of_ble_eq_true rfl) d_E_canBe_23 ?_
  cases h
  exact z_iret C .int hret rfl ⟨Nat.zero_le _, Nat.zero_le _⟩ d_E_canBe_26
def f_Ru_startAt (a1 : Int32) (S : zSt) : Option Int32 := if a1 < 0 then some (-1 : Int32) else if (zI S 67 1) ≤ a1 then some (-1 : Int32) else zgd (0 ≤ a1 ∧ a1.toNatClampNeg < 9) (some (zI S 68 a1.toNatClampNeg))
set_option maxRecDepth 100000 in
set_option maxHeartbeats 4000000 in
theorem m_Ru_startAt (l : Launch) {a1 : Int32} {S : zSt} {r : Int32} (h : f_Ru_startAt a1 S = some r) : zPM l y_Ru_startAt b_Ru_startAt 2 (some .int) rm_Ru_startAt true true [zr (some 67), zi a1] S (some (zi r)) S := by
  refine zPM_of (by decide) (Nat.le_of_ble_eq_true rfl) (fun p e s m args below meth c G C hret hname => ?_)
  unfold f_Ru_startAt at h
  refine (?_ : zJ p l e rm_Ru_startAt s m args below meth c G true 2 0 0 (zQm below G args s rm_Ru_startAt true (some (zi r)) S) S 0 [(0, zr (some 67)), (1, zi a1)] [])
  refine z_iload_n C 1 rfl d_Ru_startAt_0 rfl ?_
  rcases zite h with ⟨c1, h⟩ | ⟨c1, h⟩
  · refine z_if_ltt C 21 c1 d_Ru_startAt_1 (by decide) ?_
    refine z_iconst C (-1 : Int32) (by decide) d_Ru_startAt_21 ?_
    cases h
    exact z_iret C .int hret rfl ⟨Nat.zero_le _, Nat.zero_le _⟩ d_Ru_startAt_22
  · refine z_if_ltf C 21 c1 d_Ru_startAt_1 (by decide) ?_
    refine z_iload_n C 1 rfl d_Ru_startAt_4 rfl ?_
    refine z_aload_n C 0 rfl d_Ru_startAt_5 rfl ?_
    refine z_getI C 8 (by decide) 1 (by decide) rfl zo_67 zk_67 zfl_8_15 d_Ru_startAt_6 ?_
    rcases zite h with ⟨c2, h⟩ | ⟨c2, h⟩
    · refine z_icmp_get C 21 c2 d_Ru_startAt_9 (by decide) ?_
      refine z_iconst C (-1 : Int32) (by decide) d_Ru_startAt_21 ?_
      cases h
      exact z_iret C .int hret rfl ⟨Nat.zero_le _, Nat.zero_le _⟩ d_Ru_startAt_22
    · refine z_icmp_gef C 21 c2 d_Ru_startAt_9 (by decide) ?_
      refine z_aload_n C 0 rfl d_Ru_startAt_12 rfl ?_
      refine z_getF2 C 8 (by decide) 0 (by decide) rfl 1 9 rfl (68) rfl zp_67 zk_67 zfl_8_9 d_Ru_startAt_13 ?_
      refine z_iload_n C 1 rfl d_Ru_startAt_16 rfl ?_
      refine z_fact (fun hSR => ?_)
      obtain ⟨g3, h⟩ := zgd_some h
      refine z_ialoadS C zo_68 zk_68 (za_68 hSR) g3 d_Ru_startAt_17 ?_
      refine z_goto C 22 d_Ru_startAt_18 (by decide) ?_
      cases h
      exact z_iret C .int hret rfl ⟨Nat.zero_le _, Nat.zero_le _⟩ d_Ru_startAt_22
def f_E_since (fu : Nat) (a1 : Int32) (S : zSt) : Option (Int32 × zSt) := if (zI S 1 9) = 0 then some ((-1 : Int32), S) else zb1 (f_Ps_has 1 a1 S) (fun r3 => if r3 = 0 then some ((-1 : Int32), S) else zb1 (f_E_fillPaper fu S) (fun S6 => zb1 (f_Ru_fill fu 1 S6) (fun S8 => zb1 (f_Ru_startAt a1 S8) (fun r10 => some (r10, S8)))))
set_option maxRecDepth 100000 in
set_option maxHeartbeats 4000000 in
theorem m_E_since (l : Launch) {fu : Nat} {a1 : Int32} {S : zSt} {r : Int32} {S1 : zSt} (h : f_E_since fu a1 S = some (r, S1)) : zPM l y_E_since b_E_since 2 (some .int) rm_E_since true true [zr (some 0), zi a1] S (some (zi r)) S1 := by
  refine zPM_of (by decide) (Nat.le_of_ble_eq_true rfl) (fun p e s m args below meth c G C hret hname => ?_)
  unfold f_E_since at h
  refine (?_ : zJ p l e rm_E_since s m args below meth c G true 2 0 0 (zQm below G args s rm_E_since true (some (zi r)) S1) S 0 [(0, zr (some 0)), (1, zi a1)] [])
  refine z_aload_n C 0 rfl d_E_since_0 rfl ?_
  refine z_getF2 C 0 (by decide) 0 (by decide) rfl 1 0 rfl (1) rfl zp_0 zk_0 zfl_0_12 d_E_since_1 ?_
  refine z_getI C 5 (by decide) 9 (by decide) rfl zo_1 zk_1 zfl_0_283 d_E_since_4 ?_
  rcases zite h with ⟨c1, h⟩ | ⟨c1, h⟩
  · refine z_if_eqt C 21 c1 d_E_since_7 (by decide) ?_
    refine z_iconst C (-1 : Int32) (by decide) d_E_since_21 ?_
    cases h
    exact z_iret C .int hret rfl ⟨Nat.zero_le _, Nat.zero_le _⟩ d_E_since_22
  · refine z_if_eqf C 21 c1 d_E_since_7 (by decide) ?_
    refine z_aload_n C 0 rfl d_E_since_10 rfl ?_
    refine z_getF2 C 0 (by decide) 0 (by decide) rfl 1 0 rfl (1) rfl zp_0 zk_0 zfl_0_12 d_E_since_11 ?_
    refine z_iload_n C 1 rfl d_E_since_14 rfl ?_
    obtain ⟨r3, h2, h⟩ := zb1_some h
    refine z_cV C 5 (by decide) (m_Ps_has l zk_1 (Nat.le_of_ble_eq_true rfl) h2) mf_Ps_has lk_0_126 in_Ps_has se_Ps_has rfl zo_1 zk_1 ⟨rfl, rfl⟩ ⟨by decide, by decide⟩ ⟨Nat.zero_le _, Nat.zero_le _⟩ rfl _ [] rfl (Nat.le_of_ble_eq_true rfl) d_E_since_15 ?_
    rcases zite h with ⟨c4, h⟩ | ⟨c4, h⟩
    · refine z_if_nef C 23 c4 d_E_since_18 (by decide) ?_
      refine z_iconst C (-1 : Int32) (by decide) d_E_since_21 ?_
      cases h
      exact z_iret C .int hret rfl ⟨Nat.zero_le _, Nat.zero_le _⟩ d_E_since_22
    · refine z_if_net C 23 c4 d_E_since_18 (by decide) ?_
      refine z_aload_n C 0 rfl d_E_since_23 rfl ?_
      obtain ⟨S6, h5, h⟩ := zb1_some h
      refine z_cV C 0 (by decide) (m_E_fillPaper l h5) mf_E_fillPaper lk_0_226 in_E_fillPaper se_E_fillPaper rfl zo_0 zk_0 ⟨rfl, rfl⟩ ⟨by decide, by decide⟩ ⟨Nat.zero_le _, Nat.zero_le _⟩ rfl _ [] rfl (Nat.le_of_ble_eq_true rfl) d_E_since_24 ?_
      refine z_aload_n C 0 rfl d_E_since_27 rfl ?_
      refine z_getF2 C 0 (by decide) 12 (by decide) rfl 67 0 rfl (67) rfl zp_0 zk_0 zfl_0_81 d_E_since_28 ?_
      refine z_aload_n C 0 rfl d_E_since_31 rfl ?_
      refine z_getF2 C 0 (by decide) 9 (by decide) rfl 55 0 rfl (55) rfl zp_0 zk_0 zfl_0_60 d_E_since_32 ?_
      refine z_aload_n C 0 rfl d_E_since_35 rfl ?_
      refine z_getF2 C 0 (by decide) 0 (by decide) rfl 1 0 rfl (1) rfl zp_0 zk_0 zfl_0_12 d_E_since_36 ?_
      obtain ⟨S8, h7, h⟩ := zb1_some h
      refine z_cV C 8 (by decide) (m_Ru_fill l zk_1 (Nat.le_of_ble_eq_true rfl) h7) mf_Ru_fill lk_0_289 in_Ru_fill se_Ru_fill rfl zo_67 zk_67 ⟨rfl, rfl⟩ ⟨by decide, by decide⟩ ⟨Nat.zero_le _, Nat.zero_le _⟩ rfl _ [] rfl (Nat.le_of_ble_eq_true rfl) d_E_since_39 ?_
      refine z_aload_n C 0 rfl d_E_since_42 rfl ?_
      refine z_getF2 C 0 (by decide) 12 (by decide) rfl 67 0 rfl (67) rfl zp_0 zk_0 zfl_0_81 d_E_since_43 ?_
      refine z_iload_n C 1 rfl d_E_since_46 rfl ?_
      obtain ⟨r10, h9, h⟩ := zb1_some h
      refine z_cV C 8 (by decide) (m_Ru_startAt l h9) mf_Ru_startAt lk_0_295 in_Ru_startAt se_Ru_startAt rfl zo_67 zk_67 ⟨rfl, rfl⟩ ⟨by decide, by decide⟩ ⟨Nat.zero_le _, Nat.zero_le _⟩ rfl _ [] rfl (Nat.le_of_ble_eq_true rfl) d_E_since_47 ?_
      cases h
      exact z_iret C .int hret rfl ⟨Nat.zero_le _, Nat.zero_le _⟩ d_E_since_50
def f_Ru_comes (a2 : Int32) (a3 : Int32) (S : zSt) : Option Int32 := zb1 (f_Pa_soonest a2 a3 S) (fun r2 => if r2 = (-1 : Int32) then some (-1 : Int32) else zgd (0 ≤ a2 ∧ a2.toNatClampNeg < 9) (some ((zI S 68 a2.toNatClampNeg) + r2)))
set_option maxRecDepth 100000 in
set_option maxHeartbeats 4000000 in
theorem m_Ru_comes (l : Launch) {a2 : Int32} {a3 : Int32} {S : zSt} {r : Int32} (h : f_Ru_comes a2 a3 S = some r) : zPM l y_Ru_comes b_Ru_comes 5 (some .int) rm_Ru_comes true true [zr (some 67), zr (some 55), zi a2, zi a3] S (some (zi r)) S := by
  refine zPM_of (by decide) (Nat.le_of_ble_eq_true rfl) (fun p e s m args below meth c G C hret hname => ?_)
  unfold f_Ru_comes at h
  refine (?_ : zJ p l e rm_Ru_comes s m args below meth c G true 5 0 0 (zQm below G args s rm_Ru_comes true (some (zi r)) S) S 0 [(0, zr (some 67)), (1, zr (some 55)), (2, zi a2), (3, zi a3)] [])
  refine z_aload_n C 1 rfl d_Ru_comes_0 rfl ?_
  refine z_iload_n C 2 rfl d_Ru_comes_1 rfl ?_
  refine z_iload_n C 3 rfl d_Ru_comes_2 rfl ?_
  obtain ⟨r2, h1, h⟩ := zb1_some h
  refine z_cV C 4 (by decide) (m_Pa_soonest l h1) mf_Pa_soonest lk_8_34 in_Pa_soonest se_Pa_soonest rfl zo_55 zk_55 ⟨rfl, rfl⟩ ⟨by decide, by decide⟩ ⟨Nat.zero_le _, Nat.zero_le _⟩ rfl _ [] rfl (Nat.le_of_ble_eq_true rfl) d_Ru_comes_3 ?_
  refine z_istore C [(4, zi r2), (0, zr (some 67)), (1, zr (some 55)), (2, zi a2), (3, zi a3)] d_Ru_comes_6 (by decide) rfl ?_
  refine z_iload C 0 rfl d_Ru_comes_8 ?_
  refine z_iconst C (-1 : Int32) (by decide) d_Ru_comes_10 ?_
  rcases zite h with ⟨c3, h⟩ | ⟨c3, h⟩
  · refine z_icmp_nef C 18 c3 d_Ru_comes_11 (by decide) ?_
    refine z_iconst C (-1 : Int32) (by decide) d_Ru_comes_14 ?_
    refine z_goto C 27 d_Ru_comes_15 (by decide) ?_
    cases h
    exact z_iret C .int hret rfl ⟨Nat.zero_le _, Nat.zero_le _⟩ d_Ru_comes_27
  · refine z_icmp_net C 18 c3 d_Ru_comes_11 (by decide) ?_
    refine z_aload_n C 1 rfl d_Ru_comes_18 rfl ?_
    refine z_getF2 C 8 (by decide) 0 (by decide) rfl 1 9 rfl (68) rfl zp_67 zk_67 zfl_8_9 d_Ru_comes_19 ?_
    refine z_iload_n C 3 rfl d_Ru_comes_22 rfl ?_
    refine z_fact (fun hSR => ?_)
    obtain ⟨g4, h⟩ := zgd_some h
    refine z_ialoadS C zo_68 zk_68 (za_68 hSR) g4 d_Ru_comes_23 ?_
    refine z_iload C 0 rfl d_Ru_comes_24 ?_
    refine z_iadd C d_Ru_comes_26 ?_
    cases h
    exact z_iret C .int hret rfl ⟨Nat.zero_le _, Nat.zero_le _⟩ d_Ru_comes_27
def f_Ru_leftAt_79 (fu : Nat) (k5 : Int32 → Int32 → Int32 → zSt → Option Int32) (a2 : Int32) (a3 : Int32) (a4 : Int32) (a5 : Int32) (S : zSt) : Option Int32 := if a5 ≤ a3 then k5 a2 a3 (a4 + (1 : Int32)) S else k5 a2 a5 (a4 + (1 : Int32)) S
def f_Ru_leftAt_20 (fu : Nat) (k5 : Int32 → Int32 → Int32 → zSt → Option Int32) : Nat → Int32 → Int32 → Int32 → Int32 → Int32 → zSt → Option Int32
  | 0, _, _, _, _, _, _ => none
  | n + 1, a2, a3, a4, a5, a6, S => zgd (0 ≤ a4 ∧ a4.toNatClampNeg < 9) (if (zI S 68 a4.toNatClampNeg) = (-1 : Int32) then f_Ru_leftAt_79 fu k5 a2 a3 a4 a5 S else if (zI S 67 1) ≤ a6 then f_Ru_leftAt_79 fu k5 a2 a3 a4 a5 S else zgd (0 ≤ a6 ∧ a6.toNatClampNeg < 9) (if (zI S 68 a6.toNatClampNeg) = (-1 : Int32) then f_Ru_leftAt_20 fu k5 n a2 a3 a4 a5 (a6 + (1 : Int32)) S else zb1 (f_Ru_comes a4 a2 S) (fun r7 => zb1 (f_Ru_comes a6 a2 S) (fun r9 => if r7 = r9 then f_Ru_leftAt_20 fu k5 n a2 a3 a4 (a5 + (1 : Int32)) (a6 + (1 : Int32)) S else f_Ru_leftAt_20 fu k5 n a2 a3 a4 a5 (a6 + (1 : Int32)) S))))
def f_Ru_leftAt_5 (fu : Nat) : Nat → Int32 → Int32 → Int32 → zSt → Option Int32
  | 0, _, _, _, _ => none
  | n + 1, a2, a3, a4, S => if (zI S 67 1) ≤ a4 then some a3 else f_Ru_leftAt_20 fu (f_Ru_leftAt_5 fu n) fu a2 a3 a4 (0 : Int32) (0 : Int32) S
def f_Ru_leftAt (fu : Nat) (a2 : Int32) (S : zSt) : Option Int32 := f_Ru_leftAt_5 fu fu a2 (0 : Int32) (0 : Int32) S
set_option maxRecDepth 100000 in
set_option maxHeartbeats 4000000 in
theorem c_Ru_leftAt_79 {p : Program} {l : Launch} {e : Env} {s : State} {m : MethodId} {args : Array Value} {below : List Frame} {meth : Method} {c : Code} {G : zG} (C : zC p s m args meth c G b_Ru_leftAt 7 y_Ru_leftAt.cls) (hret : meth.sig.returnType = (some .int)) {fu : Nat} {r : Int32} {k5 : Int32 → Int32 → Int32 → zSt → Option Int32} (hk5 : ∀ (a2 : Int32) (a3 : Int32) (a4 : Int32) (S : zSt) , k5 a2 a3 a4 S = some r → zJ p l e rm_Ru_leftAt s m args below meth c G true 7 0 0 (zQm below G args s rm_Ru_leftAt true (some (zi r)) S) S 5 [(0, zr (some 67)), (1, zr (some 55)), (2, zi a2), (3, zi a3), (4, zi a4)] []) : ∀ (a2 : Int32) (a3 : Int32) (a4 : Int32) (a5 : Int32) (S : zSt) , f_Ru_leftAt_79 fu k5 a2 a3 a4 a5 S = some r → zJ p l e rm_Ru_leftAt s m args below meth c G true 7 0 0 (zQm below G args s rm_Ru_leftAt true (some (zi r)) S) S 79 [(0, zr (some 67)), (1, zr (some 55)), (2, zi a2), (3, zi a3), (4, zi a4), (5, zi a5)] [] := by
  intro a2 a3 a4 a5 S h
  unfold f_Ru_leftAt_79 at h
  refine z_iload C 5 rfl d_Ru_leftAt_79 ?_
  refine z_iload_n C 3 rfl d_Ru_leftAt_81 rfl ?_
  rcases zite h with ⟨c1, h⟩ | ⟨c1, h⟩
  · refine z_icmp_let C 90 c1 d_Ru_leftAt_82 (by decide) ?_
    refine z_iload_n C 3 rfl d_Ru_leftAt_90 rfl ?_
    refine z_istore_n C [(3, zi a3), (0, zr (some 67)), (1, zr (some 55)), (2, zi a2), (4, zi a4), (5, zi a5)] d_Ru_leftAt_91 rfl (by decide) rfl ?_
    refine z_iinc C 4 (a4 + (1 : Int32)) [(4, zi (a4 + (1 : Int32))), (3, zi a3), (0, zr (some 67)), (1, zr (some 55)), (2, zi a2), (5, zi a5)] rfl d_Ru_leftAt_92 (by first | rfl | decide) (by decide) rfl ?_
    refine z_goto C 5 d_Ru_leftAt_95 (by decide) ?_
    refine zq_lsub [2, 3, 4, 1, 0] [(0, zr (some 67)), (1, zr (some 55)), (2, zi a2), (3, zi a3), (4, zi (a4 + (1 : Int32)))] rfl ?_
    exact hk5 a2 a3 (a4 + (1 : Int32)) S h
  · refine z_icmp_lef C 90 c1 d_Ru_leftAt_82 (by decide) ?_
    refine z_iload C 5 rfl d_Ru_leftAt_85 ?_
    refine z_goto C 91 d_Ru_leftAt_87 (by decide) ?_
    refine z_istore_n C [(3, zi a5), (0, zr (some 67)), (1, zr (some 55)), (2, zi a2), (4, zi a4), (5, zi a5)] d_Ru_leftAt_91 rfl (by decide) rfl ?_
    refine z_iinc C 4 (a4 + (1 : Int32)) [(4, zi (a4 + (1 : Int32))), (3, zi a5), (0, zr (some 67)), (1, zr (some 55)), (2, zi a2), (5, zi a5)] rfl d_Ru_leftAt_92 (by first | rfl | decide) (by decide) rfl ?_
    refine z_goto C 5 d_Ru_leftAt_95 (by decide) ?_
    refine zq_lsub [2, 3, 4, 1, 0] [(0, zr (some 67)), (1, zr (some 55)), (2, zi a2), (3, zi a5), (4, zi (a4 + (1 : Int32)))] rfl ?_
    exact hk5 a2 a5 (a4 + (1 : Int32)) S h
set_option maxRecDepth 100000 in
set_option maxHeartbeats 4000000 in
theorem c_Ru_leftAt_20 {p : Program} {l : Launch} {e : Env} {s : State} {m : MethodId} {args : Array Value} {below : List Frame} {meth : Method} {c : Code} {G : zG} (C : zC p s m args meth c G b_Ru_leftAt 7 y_Ru_leftAt.cls) (hret : meth.sig.returnType = (some .int)) {fu : Nat} {r : Int32} {k5 : Int32 → Int32 → Int32 → zSt → Option Int32} (hk5 : ∀ (a2 : Int32) (a3 : Int32) (a4 : Int32) (S : zSt) , k5 a2 a3 a4 S = some r → zJ p l e rm_Ru_leftAt s m args below meth c G true 7 0 0 (zQm below G args s rm_Ru_leftAt true (some (zi r)) S) S 5 [(0, zr (some 67)), (1, zr (some 55)), (2, zi a2), (3, zi a3), (4, zi a4)] []) : ∀ (n : Nat) (a2 : Int32) (a3 : Int32) (a4 : Int32) (a5 : Int32) (a6 : Int32) (S : zSt) , f_Ru_leftAt_20 fu k5 n a2 a3 a4 a5 a6 S = some r → zJ p l e rm_Ru_leftAt s m args below meth c G true 7 0 0 (zQm below G args s rm_Ru_leftAt true (some (zi r)) S) S 20 [(0, zr (some 67)), (1, zr (some 55)), (2, zi a2), (3, zi a3), (4, zi a4), (5, zi a5), (6, zi a6)] [] := by
  intro n
  induction n with
  | zero =>
    intro a2 a3 a4 a5 a6 S h
    cases h
  | succ n ih =>
    intro a2 a3 a4 a5 a6 S h
    rw [f_Ru_leftAt_20] at h
    refine z_aload_n C 0 rfl d_Ru_leftAt_20 rfl ?_
    refine z_getF2 C 8 (by decide) 0 (by decide) rfl 1 9 rfl (68) rfl zp_67 zk_67 zfl_8_9 d_Ru_leftAt_21 ?_
    refine z_iload C 4 rfl d_Ru_leftAt_24 ?_
    refine z_fact (fun hSR => ?_)
    obtain ⟨g1, h⟩ := zgd_some h
    refine z_ialoadS C zo_68 zk_68 (za_68 hSR) g1 d_Ru_leftAt_26 ?_
    refine z_iconst C (-1 : Int32) (by decide) d_Ru_leftAt_27 ?_
    rcases zite h with ⟨c2, h⟩ | ⟨c2, h⟩
    · refine z_icmp_eqt C 79 c2 d_Ru_leftAt_28 (by decide) ?_
      refine zq_lsub [0, 1, 2, 3, 4, 5] [(0, zr (some 67)), (1, zr (some 55)), (2, zi a2), (3, zi a3), (4, zi a4), (5, zi a5)] rfl ?_
      exact c_Ru_leftAt_79 C hret hk5  a2 a3 a4 a5 S h
    · refine z_icmp_eqf C 79 c2 d_Ru_leftAt_28 (by decide) ?_
      refine z_iload C 6 rfl d_Ru_leftAt_31 ?_
      refine z_aload_n C 0 rfl d_Ru_leftAt_33 rfl ?_
      refine z_getI C 8 (by decide) 1 (by decide) rfl zo_67 zk_67 zfl_8_15 d_Ru_leftAt_34 ?_
      rcases zite h with ⟨c3, h⟩ | ⟨c3, h⟩
      · refine z_icmp_get C 79 c3 d_Ru_leftAt_37 (by decide) ?_
        refine zq_lsub [0, 1, 2, 3, 4, 5] [(0, zr (some 67)), (1, zr (some 55)), (2, zi a2), (3, zi a3), (4, zi a4), (5, zi a5)] rfl ?_
        exact c_Ru_leftAt_79 C hret hk5  a2 a3 a4 a5 S h
      · refine z_icmp_gef C 79 c3 d_Ru_leftAt_37 (by decide) ?_
        refine z_aload_n C 0 rfl d_Ru_leftAt_40 rfl ?_
        refine z_getF2 C 8 (by decide) 0 (by decide) rfl 1 9 rfl (68) rfl zp_67 zk_67 zfl_8_9 d_Ru_leftAt_41 ?_
        refine z_iload C 6 rfl d_Ru_leftAt_44 ?_
        refine z_fact (fun hSR => ?_)
        obtain ⟨g4, h⟩ := zgd_some h
        refine z_ialoadS C zo_68 zk_68 (za_68 hSR) g4 d_Ru_leftAt_46 ?_
        refine z_iconst C (-1 : Int32) (by decide) d_Ru_leftAt_47 ?_
        rcases zite h with ⟨c5, h⟩ | ⟨c5, h⟩
        · refine z_icmp_eqt C 73 c5 d_Ru_leftAt_48 (by decide) ?_
          refine z_iinc C 6 (a6 + (1 : Int32)) [(6, zi (a6 + (1 : Int32))), (0, zr (some 67)), (1, zr (some 55)), (2, zi a2), (3, zi a3), (4, zi a4), (5, zi a5)] rfl d_Ru_leftAt_73 (by first | rfl | decide) (by decide) rfl ?_
          refine z_goto C 20 d_Ru_leftAt_76 (by decide) ?_
          refine zq_lsub [1, 2, 3, 4, 5, 6, 0] [(0, zr (some 67)), (1, zr (some 55)), (2, zi a2), (3, zi a3), (4, zi a4), (5, zi a5), (6, zi (a6 + (1 : Int32)))] rfl ?_
          exact ih a2 a3 a4 a5 (a6 + (1 : Int32)) S h
        · refine z_icmp_eqf C 73 c5 d_Ru_leftAt_48 (by decide) ?_
          refine z_aload_n C 0 rfl d_Ru_leftAt_51 rfl ?_
          refine z_aload_n C 1 rfl d_Ru_leftAt_52 rfl ?_
          refine z_iload C 4 rfl d_Ru_leftAt_53 ?_
          refine z_iload_n C 2 rfl d_Ru_leftAt_55 rfl ?_
          obtain ⟨r7, h6, h⟩ := zb1_some h
          refine z_cV C 8 (by decide) (m_Ru_comes l h6) mf_Ru_comes lk_8_46 in_Ru_comes se_Ru_comes rfl zo_67 zk_67 ⟨rfl, rfl⟩ ⟨by decide, by decide⟩ ⟨Nat.zero_le _, Nat.zero_le _⟩ rfl _ [] rfl (Nat.le_of_ble_eq_true rfl) d_Ru_leftAt_56 ?_
          refine z_aload_n C 0 rfl d_Ru_leftAt_59 rfl ?_
          refine z_aload_n C 1 rfl d_Ru_leftAt_60 rfl ?_
          refine z_iload C 6 rfl d_Ru_leftAt_61 ?_
          refine z_iload_n C 2 rfl d_Ru_leftAt_63 rfl ?_
          obtain ⟨r9, h8, h⟩ := zb1_some h
          refine z_cV C 8 (by decide) (m_Ru_comes l h8) mf_Ru_comes lk_8_46 in_Ru_comes se_Ru_comes rfl zo_67 zk_67 ⟨rfl, rfl⟩ ⟨by decide, by decide⟩ ⟨Nat.zero_le _, Nat.zero_le _⟩ rfl _ [zi r7] rfl (Nat.le_of_ble_eq_true rfl) d_Ru_leftAt_64 ?_
          rcases zite h with ⟨c10, h⟩ | ⟨c10, h⟩
          · refine z_icmp_nef C 73 c10 d_Ru_leftAt_67 (by decide) ?_
            refine z_iinc C 5 (a5 + (1 : Int32)) [(5, zi (a5 + (1 : Int32))), (0, zr (some 67)), (1, zr (some 55)), (2, zi a2), (3, zi a3), (4, zi a4), (6, zi a6)] rfl d_Ru_leftAt_70 (by first | rfl | decide) (by decide) rfl ?_
            refine z_iinc C 6 (a6 + (1 : Int32)) [(6, zi (a6 + (1 : Int32))), (5, zi (a5 + (1 : Int32))), (0, zr (some 67)), (1, zr (some 55)), (2, zi a2), (3, zi a3), (4, zi a4)] rfl d_Ru_leftAt_73 (by first | rfl | decide) (by decide) rfl ?_
            refine z_goto C 20 d_Ru_leftAt_76 (by decide) ?_
            refine zq_lsub [2, 3, 4, 5, 6, 1, 0] [(0, zr (some 67)), (1, zr (some 55)), (2, zi a2), (3, zi a3), (4, zi a4), (5, zi (a5 + (1 : Int32))), (6, zi (a6 + (1 : Int32)))] rfl ?_
            exact ih a2 a3 a4 (a5 + (1 : Int32)) (a6 + (1 : Int32)) S h
          · refine z_icmp_net C 73 c10 d_Ru_leftAt_67 (by decide) ?_
            refine z_iinc C 6 (a6 + (1 : Int32)) [(6, zi (a6 + (1 : Int32))), (0, zr (some 67)), (1, zr (some 55)), (2, zi a2), (3, zi a3), (4, zi a4), (5, zi a5)] rfl d_Ru_leftAt_73 (by first | rfl | decide) (by decide) rfl ?_
            refine z_goto C 20 d_Ru_leftAt_76 (by decide) ?_
            refine zq_lsub [1, 2, 3, 4, 5, 6, 0] [(0, zr (some 67)), (1, zr (some 55)), (2, zi a2), (3, zi a3), (4, zi a4), (5, zi a5), (6, zi (a6 + (1 : Int32)))] rfl ?_
            exact ih a2 a3 a4 a5 (a6 + (1 : Int32)) S h
set_option maxRecDepth 100000 in
set_option maxHeartbeats 4000000 in
theorem c_Ru_leftAt_5 {p : Program} {l : Launch} {e : Env} {s : State} {m : MethodId} {args : Array Value} {below : List Frame} {meth : Method} {c : Code} {G : zG} (C : zC p s m args meth c G b_Ru_leftAt 7 y_Ru_leftAt.cls) (hret : meth.sig.returnType = (some .int)) {fu : Nat} {r : Int32} : ∀ (n : Nat) (a2 : Int32) (a3 : Int32) (a4 : Int32) (S : zSt) , f_Ru_leftAt_5 fu n a2 a3 a4 S = some r → zJ p l e rm_Ru_leftAt s m args below meth c G true 7 0 0 (zQm below G args s rm_Ru_leftAt true (some (zi r)) S) S 5 [(0, zr (some 67)), (1, zr (some 55)), (2, zi a2), (3, zi a3), (4, zi a4)] [] := by
  intro n
  induction n with
  | zero =>
    intro a2 a3 a4 S h
    cases h
  | succ n ih =>
    intro a2 a3 a4 S h
    rw [f_Ru_leftAt_5] at h
    refine z_iload C 4 rfl d_Ru_leftAt_5 ?_
    refine z_aload_n C 0 rfl d_Ru_leftAt_7 rfl ?_
    refine z_getI C 8 (by decide) 1 (by decide) rfl zo_67 zk_67 zfl_8_15 d_Ru_leftAt_8 ?_
    rcases zite h with ⟨c1, h⟩ | ⟨c1, h⟩
    · refine z_icmp_get C 98 c1 d_Ru_leftAt_11 (by decide) ?_
      refine z_iload_n C 3 rfl d_Ru_leftAt_98 rfl ?_
      cases h
      exact z_iret C .int hret rfl ⟨Nat.zero_le _, Nat.zero_le _⟩ d_Ru_leftAt_99
    · refine z_icmp_gef C 98 c1 d_Ru_leftAt_11 (by decide) ?_
      refine z_iconst C (0 : Int32) (by decide) d_Ru_leftAt_14 ?_
      refine z_istore C [(5, zi (0 : Int32)), (0, zr (some 67)), (1, zr (some 55)), (2, zi a2), (3, zi a3), (4, zi a4)] d_Ru_leftAt_15 (by decide) rfl ?_
      refine z_iconst C (0 : Int32) (by decide) d_Ru_leftAt_17 ?_
      refine z_istore C [(6, zi (0 : Int32)), (5, zi (0 : Int32)), (0, zr (some 67)), (1, zr (some 55)), (2, zi a2), (3, zi a3), (4, zi a4)] d_Ru_leftAt_18 (by decide) rfl ?_
      refine zq_lsub [2, 3, 4, 5, 6, 1, 0] [(0, zr (some 67)), (1, zr (some 55)), (2, zi a2), (3, zi a3), (4, zi a4), (5, zi (0 : Int32)), (6, zi (0 : Int32))] rfl ?_
      exact c_Ru_leftAt_20 C hret (fun z0 z1 z2 zS zh => ih z0 z1 z2 zS zh) fu  a2 a3 a4 (0 : Int32) (0 : Int32) S h
set_option maxRecDepth 100000 in
set_option maxHeartbeats 4000000 in
theorem m_Ru_leftAt (l : Launch) {fu : Nat} {a2 : Int32} {S : zSt} {r : Int32} (h : f_Ru_leftAt fu a2 S = some r) : zPM l y_Ru_leftAt b_Ru_leftAt 7 (some .int) rm_Ru_leftAt true true [zr (some 67), zr (some 55), zi a2] S (some (zi r)) S := by
  refine zPM_of (by decide) (Nat.le_of_ble_eq_true rfl) (fun p e s m args below meth c G C hret hname => ?_)
  unfold f_Ru_leftAt at h
  refine (?_ : zJ p l e rm_Ru_leftAt s m args below meth c G true 7 0 0 (zQm below G args s rm_Ru_leftAt true (some (zi r)) S) S 0 [(0, zr (some 67)), (1, zr (some 55)), (2, zi a2)] [])
  refine z_iconst C (0 : Int32) (by decide) d_Ru_leftAt_0 ?_
  refine z_istore_n C [(3, zi (0 : Int32)), (0, zr (some 67)), (1, zr (some 55)), (2, zi a2)] d_Ru_leftAt_1 rfl (by decide) rfl ?_
  refine z_iconst C (0 : Int32) (by decide) d_Ru_leftAt_2 ?_
  refine z_istore C [(4, zi (0 : Int32)), (3, zi (0 : Int32)), (0, zr (some 67)), (1, zr (some 55)), (2, zi a2)] d_Ru_leftAt_3 (by decide) rfl ?_
  refine zq_lsub [2, 3, 4, 1, 0] [(0, zr (some 67)), (1, zr (some 55)), (2, zi a2), (3, zi (0 : Int32)), (4, zi (0 : Int32))] rfl ?_
  exact c_Ru_leftAt_5 C hret fu  a2 (0 : Int32) (0 : Int32) S h
def f_Ru_bestEar_8 (fu : Nat) : Nat → Int32 → Int32 → Int32 → zSt → Option Int32
  | 0, _, _, _, _ => none
  | n + 1, a2, a3, a4, S => if (zI S 67 1) ≤ a4 then some a2 else zb1 (f_Ru_leftAt fu a4 S) (fun r3 => if r3 ≤ 0 then f_Ru_bestEar_8 fu n a2 a3 (a4 + (1 : Int32)) S else if a3 ≤ r3 then f_Ru_bestEar_8 fu n a2 a3 (a4 + (1 : Int32)) S else f_Ru_bestEar_8 fu n a4 r3 (a4 + (1 : Int32)) S)
def f_Ru_bestEar (fu : Nat) (S : zSt) : Option Int32 := f_Ru_bestEar_8 fu fu (-1 : Int32) (1000000 : Int32) (0 : Int32) S
set_option maxRecDepth 100000 in
set_option maxHeartbeats 4000000 in
theorem c_Ru_bestEar_8 {p : Program} {l : Launch} {e : Env} {s : State} {m : MethodId} {args : Array Value} {below : List Frame} {meth : Method} {c : Code} {G : zG} (C : zC p s m args meth c G b_Ru_bestEar 6 y_Ru_bestEar.cls) (hret : meth.sig.returnType = (some .int)) {fu : Nat} {r : Int32} : ∀ (n : Nat) (a2 : Int32) (a3 : Int32) (a4 : Int32) (S : zSt) , f_Ru_bestEar_8 fu n a2 a3 a4 S = some r → zJ p l e rm_Ru_bestEar s m args below meth c G true 6 0 0 (zQm below G args s rm_Ru_bestEar true (some (zi r)) S) S 8 [(0, zr (some 67)), (1, zr (some 55)), (2, zi a2), (3, zi a3), (4, zi a4)] [] := by
  intro n
  induction n with
  | zero =>
    intro a2 a3 a4 S h
    cases h
  | succ n ih =>
    intro a2 a3 a4 S h
    rw [f_Ru_bestEar_8] at h
    refine z_iload C 4 rfl d_Ru_bestEar_8 ?_
    refine z_aload_n C 0 rfl d_Ru_bestEar_10 rfl ?_
    refine z_getI C 8 (by decide) 1 (by decide) rfl zo_67 zk_67 zfl_8_15 d_Ru_bestEar_11 ?_
    rcases zite h with ⟨c1, h⟩ | ⟨c1, h⟩
    · refine z_icmp_get C 49 c1 d_Ru_bestEar_14 (by decide) ?_
      refine z_iload_n C 2 rfl d_Ru_bestEar_49 rfl ?_
      cases h
      exact z_iret C .int hret rfl ⟨Nat.zero_le _, Nat.zero_le _⟩ d_Ru_bestEar_50
    · refine z_icmp_gef C 49 c1 d_Ru_bestEar_14 (by decide) ?_
      refine z_aload_n C 0 rfl d_Ru_bestEar_17 rfl ?_
      refine z_aload_n C 1 rfl d_Ru_bestEar_18 rfl ?_
      refine z_iload C 4 rfl d_Ru_bestEar_19 ?_
      obtain ⟨r3, h2, h⟩ := zb1_some h
      refine z_cV C 8 (by decide) (m_Ru_leftAt l h2) mf_Ru_leftAt lk_8_42 in_Ru_leftAt se_Ru_leftAt rfl zo_67 zk_67 ⟨rfl, rfl⟩ ⟨by decide, by decide⟩ ⟨Nat.zero_le _, Nat.zero_le _⟩ rfl _ [] rfl (Nat.le_of_ble_eq_true rfl) d_Ru_bestEar_21 ?_
      refine z_istore C [(5, zi r3), (0, zr (some 67)), (1, zr (some 55)), (2, zi a2), (3, zi a3), (4, zi a4)] d_Ru_bestEar_24 (by decide) rfl ?_
      refine z_iload C 0 rfl d_Ru_bestEar_26 ?_
      rcases zite h with ⟨c4, h⟩ | ⟨c4, h⟩
      · refine z_if_let C 43 c4 d_Ru_bestEar_28 (by decide) ?_
        refine z_iinc C 5 (a4 + (1 : Int32)) [(4, zi (a4 + (1 : Int32))), (5, zi r3), (0, zr (some 67)), (1, zr (some 55)), (2, zi a2), (3, zi a3)] rfl d_Ru_bestEar_43 (by first | rfl | decide) (by decide) rfl ?_
        refine z_goto C 8 d_Ru_bestEar_46 (by decide) ?_
        refine zq_lsub [2, 3, 4, 5, 0] [(0, zr (some 67)), (1, zr (some 55)), (2, zi a2), (3, zi a3), (4, zi (a4 + (1 : Int32)))] rfl ?_
        exact ih a2 a3 (a4 + (1 : Int32)) S h
      · refine z_if_lef C 43 c4 d_Ru_bestEar_28 (by decide) ?_
        refine z_iload C 0 rfl d_Ru_bestEar_31 ?_
        refine z_iload_n C 4 rfl d_Ru_bestEar_33 rfl ?_
        rcases zite h with ⟨c5, h⟩ | ⟨c5, h⟩
        · refine z_icmp_get C 43 c5 d_Ru_bestEar_34 (by decide) ?_
          refine z_iinc C 5 (a4 + (1 : Int32)) [(4, zi (a4 + (1 : Int32))), (5, zi r3), (0, zr (some 67)), (1, zr (some 55)), (2, zi a2), (3, zi a3)] rfl d_Ru_bestEar_43 (by first | rfl | decide) (by decide) rfl ?_
          refine z_goto C 8 d_Ru_bestEar_46 (by decide) ?_
          refine zq_lsub [2, 3, 4, 5, 0] [(0, zr (some 67)), (1, zr (some 55)), (2, zi a2), (3, zi a3), (4, zi (a4 + (1 : Int32)))] rfl ?_
          exact ih a2 a3 (a4 + (1 : Int32)) S h
        · refine z_icmp_gef C 43 c5 d_Ru_bestEar_34 (by decide) ?_
          refine z_iload C 5 rfl d_Ru_bestEar_37 ?_
          refine z_istore_n C [(2, zi a4), (5, zi r3), (0, zr (some 67)), (1, zr (some 55)), (3, zi a3), (4, zi a4)] d_Ru_bestEar_39 rfl (by decide) rfl ?_
          refine z_iload C 1 rfl d_Ru_bestEar_40 ?_
          refine z_istore_n C [(3, zi r3), (2, zi a4), (5, zi r3), (0, zr (some 67)), (1, zr (some 55)), (4, zi a4)] d_Ru_bestEar_42 rfl (by decide) rfl ?_
          refine z_iinc C 5 (a4 + (1 : Int32)) [(4, zi (a4 + (1 : Int32))), (3, zi r3), (2, zi a4), (5, zi r3), (0, zr (some 67)), (1, zr (some 55))] rfl d_Ru_bestEar_43 (by first | rfl | decide) (by decide) rfl ?_
          refine z_goto C 8 d_Ru_bestEar_46 (by decide) ?_
          refine zq_lsub [4, 5, 2, 1, 0] [(0, zr (some 67)), (1, zr (some 55)), (2, zi a4), (3, zi r3), (4, zi (a4 + (1 : Int32)))] rfl ?_
          exact ih a4 r3 (a4 + (1 : Int32)) S h
set_option maxRecDepth 100000 in
set_option maxHeartbeats 4000000 in
theorem m_Ru_bestEar (l : Launch) {fu : Nat} {S : zSt} {r : Int32} (h : f_Ru_bestEar fu  S = some r) : zPM l y_Ru_bestEar b_Ru_bestEar 6 (some .int) rm_Ru_bestEar true true [zr (some 67), zr (some 55)] S (some (zi r)) S := by
  refine zPM_of (by decide) (Nat.le_of_ble_eq_true rfl) (fun p e s m args below meth c G C hret hname => ?_)
  unfold f_Ru_bestEar at h
  refine (?_ : zJ p l e rm_Ru_bestEar s m args below meth c G true 6 0 0 (zQm below G args s rm_Ru_bestEar true (some (zi r)) S) S 0 [(0, zr (some 67)), (1, zr (some 55))] [])
  refine z_iconst C (-1 : Int32) (by decide) d_Ru_bestEar_0 ?_
  refine z_istore_n C [(2, zi (-1 : Int32)), (0, zr (some 67)), (1, zr (some 55))] d_Ru_bestEar_1 rfl (by decide) rfl ?_
  refine z_ldc C zc_8_41 d_Ru_bestEar_2 ?_
  refine z_istore_n C [(3, zi (1000000 : Int32)), (2, zi (-1 : Int32)), (0, zr (some 67)), (1, zr (some 55))] d_Ru_bestEar_4 rfl (by decide) rfl ?_
  refine z_iconst C (0 : Int32) (by decide) d_Ru_bestEar_5 ?_
  refine z_istore C [(4, zi (0 : Int32)), (3, zi (1000000 : Int32)), (2, zi (-1 : Int32)), (0, zr (some 67)), (1, zr (some 55))] d_Ru_bestEar_6 (by decide) rfl ?_
  refine zq_lsub [3, 4, 2, 1, 0] [(0, zr (some 67)), (1, zr (some 55)), (2, zi (-1 : Int32)), (3, zi (1000000 : Int32)), (4, zi (0 : Int32))] rfl ?_
  exact c_Ru_bestEar_8 C hret fu  (-1 : Int32) (1000000 : Int32) (0 : Int32) S h
def f_E_listen_11 (fu : Nat) (a1 : Int32) (S : zSt) : Option (Int32 × zSt) := zb1 (f_E_fillPaper fu S) (fun S2 => zb1 (f_Ru_fill fu 1 S2) (fun S4 => zb1 (f_Ru_bestEar fu S4) (fun r6 => if a1 = 0 then some (r6, S4) else if r6 = (-1 : Int32) then some (r6, S4) else zb1 (f_Ru_leftAt fu r6 S4) (fun r10 => some (r10, S4)))))
def f_E_listen (fu : Nat) (a1 : Int32) (S : zSt) : Option (Int32 × zSt) := if a1 = 0 then f_E_listen_11 fu a1 S else if a1 = (1 : Int32) then f_E_listen_11 fu a1 S else some ((-1 : Int32), S)
set_option maxRecDepth 100000 in
set_option maxHeartbeats 4000000 in
theorem c_E_listen_11 {p : Program} {l : Launch} {e : Env} {s : State} {m : MethodId} {args : Array Value} {below : List Frame} {meth : Method} {c : Code} {G : zG} (C : zC p s m args meth c G b_E_listen 3 y_E_listen.cls) (hret : meth.sig.returnType = (some .int)) {fu : Nat} {r : Int32} {S1 : zSt} : ∀ (a1 : Int32) (S : zSt) , f_E_listen_11 fu a1 S = some (r, S1) → zJ p l e rm_E_listen s m args below meth c G true 3 0 0 (zQm below G args s rm_E_listen true (some (zi r)) S1) S 11 [(0, zr (some 0)), (1, zi a1)] [] := by
  intro a1 S h
  unfold f_E_listen_11 at h
  refine z_aload_n C 0 rfl d_E_listen_11 rfl ?_
  obtain ⟨S2, h1, h⟩ := zb1_some h
  refine z_cV C 0 (by decide) (m_E_fillPaper l h1) mf_E_fillPaper lk_0_226 in_E_fillPaper se_E_fillPaper rfl zo_0 zk_0 ⟨rfl, rfl⟩ ⟨by decide, by decide⟩ ⟨Nat.zero_le _, Nat.zero_le _⟩ rfl _ [] rfl (Nat.le_of_ble_eq_true rfl) d_E_listen_12 ?_
  refine z_aload_n C 0 rfl d_E_listen_15 rfl ?_
  refine z_getF2 C 0 (by decide) 12 (by decide) rfl 67 0 rfl (67) rfl zp_0 zk_0 zfl_0_81 d_E_listen_16 ?_
  refine z_aload_n C 0 rfl d_E_listen_19 rfl ?_
  refine z_getF2 C 0 (by decide) 9 (by decide) rfl 55 0 rfl (55) rfl zp_0 zk_0 zfl_0_60 d_E_listen_20 ?_
  refine z_aload_n C 0 rfl d_E_listen_23 rfl ?_
  refine z_getF2 C 0 (by decide) 0 (by decide) rfl 1 0 rfl (1) rfl zp_0 zk_0 zfl_0_12 d_E_listen_24 ?_
  obtain ⟨S4, h3, h⟩ := zb1_some h
  refine z_cV C 8 (by decide) (m_Ru_fill l zk_1 (Nat.le_of_ble_eq_true rfl) h3) mf_Ru_fill lk_0_289 in_Ru_fill se_Ru_fill rfl zo_67 zk_67 ⟨rfl, rfl⟩ ⟨by decide, by decide⟩ ⟨Nat.zero_le _, Nat.zero_le _⟩ rfl _ [] rfl (Nat.le_of_ble_eq_true rfl) d_E_listen_27 ?_
  refine z_aload_n C 0 rfl d_E_listen_30 rfl ?_
  refine z_getF2 C 0 (by decide) 12 (by decide) rfl 67 0 rfl (67) rfl zp_0 zk_0 zfl_0_81 d_E_listen_31 ?_
  refine z_aload_n C 0 rfl d_E_listen_34 rfl ?_
  refine z_getF2 C 0 (by decide) 9 (by decide) rfl 55 0 rfl (55) rfl zp_0 zk_0 zfl_0_60 d_E_listen_35 ?_
  obtain ⟨r6, h5, h⟩ := zb1_some h
  refine z_cV C 8 (by decide) (m_Ru_bestEar l h5) mf_Ru_bestEar lk_0_298 in_Ru_bestEar se_Ru_bestEar rfl zo_67 zk_67 ⟨rfl, rfl⟩ ⟨by decide, by decide⟩ ⟨Nat.zero_le _, Nat.zero_le _⟩ rfl _ [] rfl (Nat.le_of_ble_eq_true rfl) d_E_listen_38 ?_
  refine z_istore_n C [(2, zi r6), (0, zr (some 0)), (1, zi a1)] d_E_listen_41 rfl (by decide) rfl ?_
  refine z_iload_n C 2 rfl d_E_listen_42 rfl ?_
  rcases zite h with ⟨c7, h⟩ | ⟨c7, h⟩
  · refine z_if_eqt C 51 c7 d_E_listen_43 (by decide) ?_
    refine z_iload_n C 0 rfl d_E_listen_51 rfl ?_
    refine z_goto C 67 d_E_listen_52 (by decide) ?_
    cases h
    exact z_iret C .int hret rfl ⟨Nat.zero_le _, Nat.zero_le _⟩ d_E_listen_67
  · refine z_if_eqf C 51 c7 d_E_listen_43 (by decide) ?_
    refine z_iload_n C 0 rfl d_E_listen_46 rfl ?_
    refine z_iconst C (-1 : Int32) (by decide) d_E_listen_47 ?_
    rcases zite h with ⟨c8, h⟩ | ⟨c8, h⟩
    · refine z_icmp_nef C 55 c8 d_E_listen_48 (by decide) ?_
      refine z_iload_n C 0 rfl d_E_listen_51 rfl ?_
      refine z_goto C 67 d_E_listen_52 (by decide) ?_
      cases h
      exact z_iret C .int hret rfl ⟨Nat.zero_le _, Nat.zero_le _⟩ d_E_listen_67
    · refine z_icmp_net C 55 c8 d_E_listen_48 (by decide) ?_
      refine z_aload_n C 1 rfl d_E_listen_55 rfl ?_
      refine z_getF2 C 0 (by decide) 12 (by decide) rfl 67 0 rfl (67) rfl zp_0 zk_0 zfl_0_81 d_E_listen_56 ?_
      refine z_aload_n C 1 rfl d_E_listen_59 rfl ?_
      refine z_getF2 C 0 (by decide) 9 (by decide) rfl 55 0 rfl (55) rfl zp_0 zk_0 zfl_0_60 d_E_listen_60 ?_
      refine z_iload_n C 0 rfl d_E_listen_63 rfl ?_
      obtain ⟨r10, h9, h⟩ := zb1_some h
      refine z_cV C 8 (by decide) (m_Ru_leftAt l h9) mf_Ru_leftAt lk_0_302 in_Ru_leftAt se_Ru_leftAt rfl zo_67 zk_67 ⟨rfl, rfl⟩ ⟨by decide, by decide⟩ ⟨Nat.zero_le _, Nat.zero_le _⟩ rfl _ [] rfl (Nat.le_of_ble_eq_true rfl) d_E_listen_64 ?_
      cases h
      exact z_iret C .int hret rfl ⟨Nat.zero_le _, Nat.zero_le _⟩ d_E_listen_67
set_option maxRecDepth 100000 in
set_option maxHeartbeats 4000000 in
theorem m_E_listen (l : Launch) {fu : Nat} {a1 : Int32} {S : zSt} {r : Int32} {S1 : zSt} (h : f_E_listen fu a1 S = some (r, S1)) : zPM l y_E_listen b_E_listen 3 (some .int) rm_E_listen true true [zr (some 0), zi a1] S (some (zi r)) S1 := by
  refine zPM_of (by decide) (Nat.le_of_ble_eq_true rfl) (fun p e s m args below meth c G C hret hname => ?_)
  unfold f_E_listen at h
  refine (?_ : zJ p l e rm_E_listen s m args below meth c G true 3 0 0 (zQm below G args s rm_E_listen true (some (zi r)) S1) S 0 [(0, zr (some 0)), (1, zi a1)] [])
  refine z_iload_n C 1 rfl d_E_listen_0 rfl ?_
  rcases zite h with ⟨c1, h⟩ | ⟨c1, h⟩
  · refine z_if_eqt C 11 c1 d_E_listen_1 (by decide) ?_
    refine zq_lsub [0, 1] [(0, zr (some 0)), (1, zi a1)] rfl ?_
    exact c_E_listen_11 C hret  a1 S h
  · refine z_if_eqf C 11 c1 d_E_listen_1 (by decide) ?_
    refine z_iload_n C 1 rfl d_E_listen_4 rfl ?_
    refine z_iconst C (1 : Int32) (by decide) d_E_listen_5 ?_
    rcases zite h with ⟨c2, h⟩ | ⟨c2, h⟩
    · refine z_icmp_eqt C 11 c2 d_E_listen_6 (by decide) ?_
      refine zq_lsub [0, 1] [(0, zr (some 0)), (1, zi a1)] rfl ?_
      exact c_E_listen_11 C hret  a1 S h
    · refine z_icmp_eqf C 11 c2 d_E_listen_6 (by decide) ?_
      refine z_iconst C (-1 : Int32) (by decide) d_E_listen_9 ?_
      cases h
      exact z_iret C .int hret rfl ⟨Nat.zero_le _, Nat.zero_le _⟩ d_E_listen_10
def f_Ar_fillL_6 (fu : Nat) (a0 : Nat) : Nat → Int64 → Int32 → Int32 → zSt → Option zSt
  | 0, _, _, _, _ => none
  | n + 1, a1, a3, a4, S => if a4 ≤ a3 then some S else zgd (0 ≤ a3 ∧ a3.toNatClampNeg < zA S a0) (f_Ar_fillL_6 fu a0 n a1 (a3 + (1 : Int32)) a4 (zwL S a0 a3.toNatClampNeg a1))
def f_Ar_fillL (fu : Nat) (a0 : Nat) (a1 : Int64) (S : zSt) : Option zSt := f_Ar_fillL_6 fu a0 fu a1 (0 : Int32) ((zA S a0).toInt32) S
set_option maxRecDepth 100000 in
set_option maxHeartbeats 4000000 in
theorem c_Ar_fillL_6 {p : Program} {l : Launch} {e : Env} {s : State} {m : MethodId} {args : Array Value} {below : List Frame} {meth : Method} {c : Code} {G : zG} (C : zC p s m args meth c G b_Ar_fillL 5 y_Ar_fillL.cls) (hret : meth.sig.returnType = none) {fu : Nat} {a0 : Nat} {S1 : zSt} (ha0 : zK a0 = 51) : ∀ (n : Nat) (a1 : Int64) (a3 : Int32) (a4 : Int32) (S : zSt) (ga0 : a0 < zN0 ∨ a0 < zN S) , f_Ar_fillL_6 fu a0 n a1 a3 a4 S = some S1 → zJ p l e rm_Ar_fillL s m args below meth c G true 5 0 0 (zQm below G args s rm_Ar_fillL true none S1) S 6 [(0, zr (some a0)), (1, zl a1), (3, zi a3), (4, zi a4)] [] := by
  intro n
  induction n with
  | zero =>
    intro a1 a3 a4 S ga0 h
    cases h
  | succ n ih =>
    intro a1 a3 a4 S ga0 h
    rw [f_Ar_fillL_6] at h
    refine z_iload_n C 2 rfl d_Ar_fillL_6 rfl ?_
    refine z_iload C 3 rfl d_Ar_fillL_7 ?_
    rcases zite h with ⟨c1, h⟩ | ⟨c1, h⟩
    · refine z_icmp_get C 22 c1 d_Ar_fillL_9 (by decide) ?_
      cases h
      exact z_vret C hret ⟨Nat.zero_le _, Nat.zero_le _⟩ d_Ar_fillL_22
    · refine z_icmp_gef C 22 c1 d_Ar_fillL_9 (by decide) ?_
      refine z_aload_n C 0 rfl d_Ar_fillL_12 rfl ?_
      refine z_iload_n C 2 rfl d_Ar_fillL_13 rfl ?_
      refine z_lload_n C 1 rfl d_Ar_fillL_14 rfl ?_
      obtain ⟨g2, h⟩ := zgd_some h
      refine z_lastoreS C (ga0.imp (fun z => ⟨rfl, z⟩) id) ha0 rfl g2 d_Ar_fillL_15 ?_
      refine z_iinc C 2 (a3 + (1 : Int32)) [(3, zi (a3 + (1 : Int32))), (0, zr (some a0)), (1, zl a1), (4, zi a4)] rfl d_Ar_fillL_16 (by first | rfl | decide) (by decide) rfl ?_
      refine z_goto C 6 d_Ar_fillL_19 (by decide) ?_
      refine zq_lsub [1, 2, 0, 3] [(0, zr (some a0)), (1, zl a1), (3, zi (a3 + (1 : Int32))), (4, zi a4)] rfl ?_
      exact ih a1 (a3 + (1 : Int32)) a4 (zwL S a0 a3.toNatClampNeg a1) ga0 h
set_option maxRecDepth 100000 in
set_option maxHeartbeats 4000000 in
theorem m_Ar_fillL (l : Launch) {fu : Nat} {a0 : Nat} {a1 : Int64} {S : zSt} {S1 : zSt} (ha0 : zK a0 = 51) (ga0 : a0 < zN0 ∨ a0 < zN S) (h : f_Ar_fillL fu a0 a1 S = some S1) : zPM l y_Ar_fillL b_Ar_fillL 5 none rm_Ar_fillL true true [zr (some a0), zl a1] S none S1 := by
  refine zPM_of (by decide) (Nat.le_of_ble_eq_true rfl) (fun p e s m args below meth c G C hret hname => ?_)
  unfold f_Ar_fillL at h
  refine (?_ : zJ p l e rm_Ar_fillL s m args below meth c G true 5 0 0 (zQm below G args s rm_Ar_fillL true none S1) S 0 [(0, zr (some a0)), (1, zl a1)] [])
  refine z_iconst C (0 : Int32) (by decide) d_Ar_fillL_0 ?_
  refine z_istore_n C [(3, zi (0 : Int32)), (0, zr (some a0)), (1, zl a1)] d_Ar_fillL_1 rfl (by decide) rfl ?_
  refine z_aload_n C 1 rfl d_Ar_fillL_2 rfl ?_
  refine z_alen51 C (ga0.imp (fun z => ⟨rfl, z⟩) id) ha0 d_Ar_fillL_3 ?_
  refine z_istore C [(4, zi ((zA S a0).toInt32)), (3, zi (0 : Int32)), (0, zr (some a0)), (1, zl a1)] d_Ar_fillL_4 (by decide) rfl ?_
  refine zq_lsub [2, 3, 1, 0] [(0, zr (some a0)), (1, zl a1), (3, zi (0 : Int32)), (4, zi ((zA S a0).toInt32))] rfl ?_
  exact c_Ar_fillL_6 C hret ha0 fu  a1 (0 : Int32) ((zA S a0).toInt32) S ga0 h
def f_E_pullString_43 (fu : Nat) (k16 : Int32 → Int32 → zSt → Option zSt) (a1 : Int32) (a2 : Int32) (k0 : Int64) (S : zSt) : Option zSt := zgd (0 ≤ a2 ∧ a2.toNatClampNeg < 20) (zgd (0 ≤ a2 ∧ a2.toNatClampNeg < 20) (k16 a1 (a2 + (-1 : Int32)) (zwL S 70 a2.toNatClampNeg ((((zL S 70 a2.toNatClampNeg) * (((10 : Int32) - a1).toInt64)) / (10 : Int64)) + k0))))
def f_E_pullString_16 (fu : Nat) : Nat → Int32 → Int32 → zSt → Option zSt
  | 0, _, _, _ => none
  | n + 1, a1, a2, S => if a2 < 0 then some S else if a2 ≤ 0 then f_E_pullString_43 fu (f_E_pullString_16 fu n) a1 a2 (0 : Int64) S else zgd (0 ≤ (a2 - (1 : Int32)) ∧ (a2 - (1 : Int32)).toNatClampNeg < 20) (f_E_pullString_43 fu (f_E_pullString_16 fu n) a1 a2 (((zL S 70 (a2 - (1 : Int32)).toNatClampNeg) * a1.toInt64) / (10 : Int64)) S)
def f_E_pullString (fu : Nat) (S : zSt) : Option zSt := f_E_pullString_16 fu fu (zI S 1 7) ((20 : Int32) - (1 : Int32)) S
set_option maxRecDepth 100000 in
set_option maxHeartbeats 4000000 in
theorem c_E_pullString_43 {p : Program} {l : Launch} {e : Env} {s : State} {m : MethodId} {args : Array Value} {below : List Frame} {meth : Method} {c : Code} {G : zG} (C : zC p s m args meth c G b_E_pullString 5 y_E_pullString.cls) (hret : meth.sig.returnType = none) {fu : Nat} {S1 : zSt} {k16 : Int32 → Int32 → zSt → Option zSt} (hk16 : ∀ (a1 : Int32) (a2 : Int32) (S : zSt) , k16 a1 a2 S = some S1 → zJ p l e rm_E_pullString s m args below meth c G true 5 0 0 (zQm below G args s rm_E_pullString true none S1) S 16 [(0, zr (some 0)), (1, zi a1), (2, zi a2)] []) : ∀ (a1 : Int32) (a2 : Int32) (k0 : Int64) (S : zSt) , f_E_pullString_43 fu k16 a1 a2 k0 S = some S1 → zJ p l e rm_E_pullString s m args below meth c G true 5 0 0 (zQm below G args s rm_E_pullString true none S1) S 43 [(0, zr (some 0)), (1, zi a1), (2, zi a2)] [zl k0] := by
  intro a1 a2 k0 S h
  unfold f_E_pullString_43 at h
  refine z_lstore_n C [(3, zl k0), (0, zr (some 0)), (1, zi a1), (2, zi a2)] d_E_pullString_43 rfl (by decide) rfl ?_
  refine z_aload_n C 1 rfl d_E_pullString_44 rfl ?_
  refine z_getF2 C 0 (by decide) 14 (by decide) rfl 70 20 rfl (70) rfl zp_0 zk_0 zfl_0_89 d_E_pullString_45 ?_
  refine z_iload_n C 3 rfl d_E_pullString_48 rfl ?_
  refine z_aload_n C 1 rfl d_E_pullString_49 rfl ?_
  refine z_getF2 C 0 (by decide) 14 (by decide) rfl 70 20 rfl (70) rfl zp_0 zk_0 zfl_0_89 d_E_pullString_50 ?_
  refine z_iload_n C 3 rfl d_E_pullString_53 rfl ?_
  refine z_fact (fun hSR => ?_)
  obtain ⟨g1, h⟩ := zgd_some h
  refine z_laloadS C zo_70 zk_70 (za_70 hSR) g1 d_E_pullString_54 ?_
  refine z_bipush C (10 : Int32) (by decide) d_E_pullString_55 ?_
  refine z_iload_n C 2 rfl d_E_pullString_57 rfl ?_
  refine z_isub C d_E_pullString_58 ?_
  refine z_i2l C d_E_pullString_59 ?_
  refine z_lmul C d_E_pullString_60 ?_
  refine z_ldc2 C zc_0_410 d_E_pullString_61 ?_
  refine z_ldiv C (by decide) d_E_pullString_64 ?_
  refine z_lload_n C 0 rfl d_E_pullString_65 rfl ?_
  refine z_ladd C d_E_pullString_66 ?_
  refine z_fact (fun hSR => ?_)
  obtain ⟨g2, h⟩ := zgd_some h
  refine z_lastoreS C zo_70 zk_70 (za_70 hSR) g2 d_E_pullString_67 ?_
  refine z_iinc C 3 (a2 + (-1 : Int32)) [(2, zi (a2 + (-1 : Int32))), (3, zl k0), (0, zr (some 0)), (1, zi a1)] rfl d_E_pullString_68 (by first | rfl | decide) (by decide) rfl ?_
  refine z_goto C 16 d_E_pullString_71 (by decide) ?_
  refine zq_lsub [2, 3, 0] [(0, zr (some 0)), (1, zi a1), (2, zi (a2 + (-1 : Int32)))] rfl ?_
  exact hk16 a1 (a2 + (-1 : Int32)) (zwL S 70 a2.toNatClampNeg ((((zL S 70 a2.toNatClampNeg) * (((10 : Int32) - a1).toInt64)) / (10 : Int64)) + k0)) h
set_option maxRecDepth 100000 in
set_option maxHeartbeats 4000000 in
theorem c_E_pullString_16 {p : Program} {l : Launch} {e : Env} {s : State} {m : MethodId} {args : Array Value} {below : List Frame} {meth : Method} {c : Code} {G : zG} (C : zC p s m args meth c G b_E_pullString 5 y_E_pullString.cls) (hret : meth.sig.returnType = none) {fu : Nat} {S1 : zSt} : ∀ (n : Nat) (a1 : Int32) (a2 : Int32) (S : zSt) , f_E_pullString_16 fu n a1 a2 S = some S1 → zJ p l e rm_E_pullString s m args below meth c G true 5 0 0 (zQm below G args s rm_E_pullString true none S1) S 16 [(0, zr (some 0)), (1, zi a1), (2, zi a2)] [] := by
  intro n
  induction n with
  | zero =>
    intro a1 a2 S h
    cases h
  | succ n ih =>
    intro a1 a2 S h
    rw [f_E_pullString_16] at h
    refine z_iload_n C 2 rfl d_E_pullString_16 rfl ?_
    rcases zite h with ⟨c1, h⟩ | ⟨c1, h⟩
    · refine z_if_ltt C 74 c1 d_E_pullString_17 (by decide) ?_
      cases h
      exact z_vret C hret ⟨Nat.zero_le _, Nat.zero_le _⟩ d_E_pullString_74
    · refine z_if_ltf C 74 c1 d_E_pullString_17 (by decide) ?_
      refine z_iload_n C 2 rfl d_E_pullString_20 rfl ?_
      rcases zite h with ⟨c2, h⟩ | ⟨c2, h⟩
      · refine z_if_let C 42 c2 d_E_pullString_21 (by decide) ?_
        refine z_lconst C (0 : Int64) (by decide) d_E_pullString_42 ?_
        refine zq_lsub [0, 1, 2] [(0, zr (some 0)), (1, zi a1), (2, zi a2)] rfl ?_
        exact c_E_pullString_43 C hret (fun z0 z1 zS zh => ih z0 z1 zS zh)  a1 a2 (0 : Int64) S h
      · refine z_if_lef C 42 c2 d_E_pullString_21 (by decide) ?_
        refine z_aload_n C 0 rfl d_E_pullString_24 rfl ?_
        refine z_getF2 C 0 (by decide) 14 (by decide) rfl 70 20 rfl (70) rfl zp_0 zk_0 zfl_0_89 d_E_pullString_25 ?_
        refine z_iload_n C 2 rfl d_E_pullString_28 rfl ?_
        refine z_iconst C (1 : Int32) (by decide) d_E_pullString_29 ?_
        refine z_isub C d_E_pullString_30 ?_
        refine z_fact (fun hSR => ?_)
        obtain ⟨g3, h⟩ := zgd_some h
        refine z_laloadS C zo_70 zk_70 (za_70 hSR) g3 d_E_pullString_31 ?_
        refine z_iload_n C 1 rfl d_E_pullString_32 rfl ?_
        refine z_i2l C d_E_pullString_33 ?_
        refine z_lmul C d_E_pullString_34 ?_
        refine z_ldc2 C zc_0_410 d_E_pullString_35 ?_
        refine z_ldiv C (by decide) d_E_pullString_38 ?_
        refine z_goto C 43 d_E_pullString_39 (by decide) ?_
        refine zq_lsub [0, 1, 2] [(0, zr (some 0)), (1, zi a1), (2, zi a2)] rfl ?_
        exact c_E_pullString_43 C hret (fun z0 z1 zS zh => ih z0 z1 zS zh)  a1 a2 (((zL S 70 (a2 - (1 : Int32)).toNatClampNeg) * a1.toInt64) / (10 : Int64)) S h
set_option maxRecDepth 100000 in
set_option maxHeartbeats 4000000 in
theorem m_E_pullString (l : Launch) {fu : Nat} {S : zSt} {S1 : zSt} (h : f_E_pullString fu  S = some S1) : zPM l y_E_pullString b_E_pullString 5 none rm_E_pullString true true [zr (some 0)] S none S1 := by
  refine zPM_of (by decide) (Nat.le_of_ble_eq_true rfl) (fun p e s m args below meth c G C hret hname => ?_)
  unfold f_E_pullString at h
  refine (?_ : zJ p l e rm_E_pullString s m args below meth c G true 5 0 0 (zQm below G args s rm_E_pullString true none S1) S 0 [(0, zr (some 0))] [])
  refine z_aload_n C 0 rfl d_E_pullString_0 rfl ?_
  refine z_getF2 C 0 (by decide) 0 (by decide) rfl 1 0 rfl (1) rfl zp_0 zk_0 zfl_0_12 d_E_pullString_1 ?_
  refine z_getI C 5 (by decide) 7 (by decide) rfl zo_1 zk_1 zfl_0_407 d_E_pullString_4 ?_
  refine z_istore_n C [(1, zi (zI S 1 7)), (0, zr (some 0))] d_E_pullString_7 rfl (by decide) rfl ?_
  refine z_aload_n C 1 rfl d_E_pullString_8 rfl ?_
  refine z_getF2 C 0 (by decide) 14 (by decide) rfl 70 20 rfl (70) rfl zp_0 zk_0 zfl_0_89 d_E_pullString_9 ?_
  refine z_fact (fun hSR => ?_)
  refine z_alen51S C (20 : Int32) (by decide) zo_70 zk_70 (za_70 hSR) d_E_pullString_12 ?_
  refine z_iconst C (1 : Int32) (by decide) d_E_pullString_13 ?_
  refine z_isub C d_E_pullString_14 ?_
  refine z_istore_n C [(2, zi ((20 : Int32) - (1 : Int32))), (1, zi (zI S 1 7)), (0, zr (some 0))] d_E_pullString_15 rfl (by decide) rfl ?_
  refine zq_lsub [2, 1, 0] [(0, zr (some 0)), (1, zi (zI S 1 7)), (2, zi ((20 : Int32) - (1 : Int32)))] rfl ?_
  exact c_E_pullString_16 C hret fu  (zI S 1 7) ((20 : Int32) - (1 : Int32)) S h
def f_E_few_64 (fu : Nat) : Nat → Int32 → Int64 → Int32 → zSt → Option (Int64 × zSt)
  | 0, _, _, _, _ => none
  | n + 1, a1, a3, a5, S => if a1 ≤ a5 then some (a3, S) else if (20 : Int32) ≤ a5 then some (a3, S) else zgd (0 ≤ a5 ∧ a5.toNatClampNeg < 20) (f_E_few_64 fu n a1 (a3 + (zL S 70 a5.toNatClampNeg)) (a5 + (1 : Int32)) S)
def f_E_few_59 (fu : Nat) (a1 : Int32) (S : zSt) : Option (Int64 × zSt) := f_E_few_64 fu fu a1 (0 : Int64) (0 : Int32) S
def f_E_few_44 (fu : Nat) : Nat → Int32 → Int32 → Int32 → zSt → Option (Int64 × zSt)
  | 0, _, _, _, _ => none
  | n + 1, a1, a2, a3, S => if a2 ≤ a3 then f_E_few_59 fu a1 S else zb1 (f_E_pullString fu S) (fun S3 => f_E_few_44 fu n a1 a2 (a3 + (1 : Int32)) S3)
def f_E_few (fu : Nat) (a1 : Int32) (a2 : Int32) (S : zSt) : Option (Int64 × zSt) := if a1 < (1 : Int32) then some ((-1 : Int64), S) else if (20 : Int32) < a1 then some ((-1 : Int64), S) else if a2 < 0 then some ((-1 : Int64), S) else if a2 ≤ (99 : Int32) then zb1 (f_Ar_fillL fu 70 (0 : Int64) S) (fun S6 => f_E_few_44 fu fu a1 a2 (0 : Int32) (zwL S6 70 (0 : Int32).toNatClampNeg (1000000000000 : Int64))) else some ((-1 : Int64), S)
set_option maxRecDepth 100000 in
set_option maxHeartbeats 4000000 in
theorem c_E_few_64 {p : Program} {l : Launch} {e : Env} {s : State} {m : MethodId} {args : Array Value} {below : List Frame} {meth : Method} {c : Code} {G : zG} (C : zC p s m args meth c G b_E_few 6 y_E_few.cls) (hret : meth.sig.returnType = (some .long)) {fu : Nat} {r : Int64} {S1 : zSt} : ∀ (n : Nat) (a1 : Int32) (a3 : Int64) (a5 : Int32) (S : zSt) , f_E_few_64 fu n a1 a3 a5 S = some (r, S1) → zJ p l e rm_E_few s m args below meth c G true 6 0 0 (zQm below G args s rm_E_few true (some (zl r)) S1) S 64 [(0, zr (some 0)), (1, zi a1), (3, zl a3), (5, zi a5)] [] := by
  intro n
  induction n with
  | zero =>
    intro a1 a3 a5 S h
    cases h
  | succ n ih =>
    intro a1 a3 a5 S h
    rw [f_E_few_64] at h
    refine z_iload C 3 rfl d_E_few_64 ?_
    refine z_iload_n C 1 rfl d_E_few_66 rfl ?_
    rcases zite h with ⟨c1, h⟩ | ⟨c1, h⟩
    · refine z_icmp_get C 96 c1 d_E_few_67 (by decide) ?_
      refine z_lload_n C 2 rfl d_E_few_96 rfl ?_
      cases h
      exact z_lret C hret ⟨Nat.zero_le _, Nat.zero_le _⟩ d_E_few_97
    · refine z_icmp_gef C 96 c1 d_E_few_67 (by decide) ?_
      refine z_iload C 3 rfl d_E_few_70 ?_
      refine z_aload_n C 0 rfl d_E_few_72 rfl ?_
      refine z_getF2 C 0 (by decide) 14 (by decide) rfl 70 20 rfl (70) rfl zp_0 zk_0 zfl_0_89 d_E_few_73 ?_
      refine z_fact (fun hSR => ?_)
      refine z_alen51S C (20 : Int32) (by decide) zo_70 zk_70 (za_70 hSR) d_E_few_76 ?_
      rcases zite h with ⟨c2, h⟩ | ⟨c2, h⟩
      · refine z_icmp_get C 96 c2 d_E_few_77 (by decide) ?_
        refine z_lload_n C 2 rfl d_E_few_96 rfl ?_
        cases h
        exact z_lret C hret ⟨Nat.zero_le _, Nat.zero_le _⟩ d_E_few_97
      · refine z_icmp_gef C 96 c2 d_E_few_77 (by decide) ?_
        refine z_lload_n C 2 rfl d_E_few_80 rfl ?_
        refine z_aload_n C 0 rfl d_E_few_81 rfl ?_
        refine z_getF2 C 0 (by decide) 14 (by decide) rfl 70 20 rfl (70) rfl zp_0 zk_0 zfl_0_89 d_E_few_82 ?_
        refine z_iload C 3 rfl d_E_few_85 ?_
        refine z_fact (fun hSR => ?_)
        obtain ⟨g3, h⟩ := zgd_some h
        refine z_laloadS C zo_70 zk_70 (za_70 hSR) g3 d_E_few_87 ?_
        refine z_ladd C d_E_few_88 ?_
        refine z_lstore_n C [(3, zl (a3 + (zL S 70 a5.toNatClampNeg))), (0, zr (some 0)), (1, zi a1), (5, zi a5)] d_E_few_89 rfl (by decide) rfl ?_
        refine z_iinc C 3 (a5 + (1 : Int32)) [(5, zi (a5 + (1 : Int32))), (3, zl (a3 + (zL S 70 a5.toNatClampNeg))), (0, zr (some 0)), (1, zi a1)] rfl d_E_few_90 (by first | rfl | decide) (by decide) rfl ?_
        refine z_goto C 64 d_E_few_93 (by decide) ?_
        refine zq_lsub [2, 3, 1, 0] [(0, zr (some 0)), (1, zi a1), (3, zl (a3 + (zL S 70 a5.toNatClampNeg))), (5, zi (a5 + (1 : Int32)))] rfl ?_
        exact ih a1 (a3 + (zL S 70 a5.toNatClampNeg)) (a5 + (1 : Int32)) S h
set_option maxRecDepth 100000 in
set_option maxHeartbeats 4000000 in
theorem c_E_few_59 {p : Program} {l : Launch} {e : Env} {s : State} {m : MethodId} {args : Array Value} {below : List Frame} {meth : Method} {c : Code} {G : zG} (C : zC p s m args meth c G b_E_few 6 y_E_few.cls) (hret : meth.sig.returnType = (some .long)) {fu : Nat} {r : Int64} {S1 : zSt} : ∀ (a1 : Int32) (S : zSt) , f_E_few_59 fu a1 S = some (r, S1) → zJ p l e rm_E_few s m args below meth c G true 6 0 0 (zQm below G args s rm_E_few true (some (zl r)) S1) S 59 [(0, zr (some 0)), (1, zi a1)] [] := by
  intro a1 S h
  unfold f_E_few_59 at h
  refine z_lconst C (0 : Int64) (by decide) d_E_few_59 ?_
  refine z_lstore_n C [(3, zl (0 : Int64)), (0, zr (some 0)), (1, zi a1)] d_E_few_60 rfl (by decide) rfl ?_
  refine z_iconst C (0 : Int32) (by decide) d_E_few_61 ?_
  refine z_istore C [(5, zi (0 : Int32)), (3, zl (0 : Int64)), (0, zr (some 0)), (1, zi a1)] d_E_few_62 (by decide) rfl ?_
  refine zq_lsub [2, 3, 1, 0] [(0, zr (some 0)), (1, zi a1), (3, zl (0 : Int64)), (5, zi (0 : Int32))] rfl ?_
  exact c_E_few_64 C hret fu  a1 (0 : Int64) (0 : Int32) S h
set_option maxRecDepth 100000 in
set_option maxHeartbeats 4000000 in
theorem c_E_few_44 {p : Program} {l : Launch} {e : Env} {s : State} {m : MethodId} {args : Array Value} {below : List Frame} {meth : Method} {c : Code} {G : zG} (C : zC p s m args meth c G b_E_few 6 y_E_few.cls) (hret : meth.sig.returnType = (some .long)) {fu : Nat} {r : Int64} {S1 : zSt} : ∀ (n : Nat) (a1 : Int32) (a2 : Int32) (a3 : Int32) (S : zSt) , f_E_few_44 fu n a1 a2 a3 S = some (r, S1) → zJ p l e rm_E_few s m args below meth c G true 6 0 0 (zQm below G args s rm_E_few true (some (zl r)) S1) S 44 [(0, zr (some 0)), (1, zi a1), (2, zi a2), (3, zi a3)] [] := by
  intro n
  induction n with
  | zero =>
    intro a1 a2 a3 S h
    cases h
  | succ n ih =>
    intro a1 a2 a3 S h
    rw [f_E_few_44] at h
    refine z_iload_n C 3 rfl d_E_few_44 rfl ?_
    refine z_iload_n C 2 rfl d_E_few_45 rfl ?_
    rcases zite h with ⟨c1, h⟩ | ⟨c1, h⟩
    · refine z_icmp_get C 59 c1 d_E_few_46 (by decide) ?_
      refine zq_lsub [0, 1] [(0, zr (some 0)), (1, zi a1)] rfl ?_
      exact c_E_few_59 C hret  a1 S h
    · refine z_icmp_gef C 59 c1 d_E_few_46 (by decide) ?_
      refine z_aload_n C 0 rfl d_E_few_49 rfl ?_
      obtain ⟨S3, h2, h⟩ := zb1_some h
      refine z_cV C 0 (by decide) (m_E_pullString l h2) mf_E_pullString lk_0_315 in_E_pullString se_E_pullString rfl zo_0 zk_0 ⟨rfl, rfl⟩ ⟨by decide, by decide⟩ ⟨Nat.zero_le _, Nat.zero_le _⟩ rfl _ [] rfl (Nat.le_of_ble_eq_true rfl) d_E_few_50 ?_
      refine z_iinc C 3 (a3 + (1 : Int32)) [(3, zi (a3 + (1 : Int32))), (0, zr (some 0)), (1, zi a1), (2, zi a2)] rfl d_E_few_53 (by first | rfl | decide) (by decide) rfl ?_
      refine z_goto C 44 d_E_few_56 (by decide) ?_
      refine zq_lsub [1, 2, 3, 0] [(0, zr (some 0)), (1, zi a1), (2, zi a2), (3, zi (a3 + (1 : Int32)))] rfl ?_
      exact ih a1 a2 (a3 + (1 : Int32)) S3 h
set_option maxRecDepth 100000 in
set_option maxHeartbeats 4000000 in
theorem m_E_few (l : Launch) {fu : Nat} {a1 : Int32} {a2 : Int32} {S : zSt} {r : Int64} {S1 : zSt} (h : f_E_few fu a1 a2 S = some (r, S1)) : zPM l y_E_few b_E_few 6 (some .long) rm_E_few true true [zr (some 0), zi a1, zi a2] S (some (zl r)) S1 := by
  refine zPM_of (by decide) (Nat.le_of_ble_eq_true rfl) (fun p e s m args below meth c G C hret hname => ?_)
  unfold f_E_few at h
  refine (?_ : zJ p l e rm_E_few s m args below meth c G true 6 0 0 (zQm below G args s rm_E_few true (some (zl r)) S1) S 0 [(0, zr (some 0)), (1, zi a1), (2, zi a2)] [])
  refine z_iload_n C 1 rfl d_E_few_0 rfl ?_
  refine z_iconst C (1 : Int32) (by decide) d_E_few_1 ?_
  rcases zite h with ⟨c1, h⟩ | ⟨c1, h⟩
  · refine z_icmp_ltt C 21 c1 d_E_few_2 (by decide) ?_
    refine z_ldc2 C zc_0_306 d_E_few_21 ?_
    cases h
    exact z_lret C hret ⟨Nat.zero_le _, Nat.zero_le _⟩ d_E_few_24
  · refine z_icmp_ltf C 21 c1 d_E_few_2 (by decide) ?_
    refine z_iload_n C 1 rfl d_E_few_5 rfl ?_
    refine z_bipush C (20 : Int32) (by decide) d_E_few_6 ?_
    rcases zite h with ⟨c2, h⟩ | ⟨c2, h⟩
    · refine z_icmp_gtt C 21 c2 d_E_few_8 (by decide) ?_
      refine z_ldc2 C zc_0_306 d_E_few_21 ?_
      cases h
      exact z_lret C hret ⟨Nat.zero_le _, Nat.zero_le _⟩ d_E_few_24
    · refine z_icmp_gtf C 21 c2 d_E_few_8 (by decide) ?_
      refine z_iload_n C 2 rfl d_E_few_11 rfl ?_
      rcases zite h with ⟨c3, h⟩ | ⟨c3, h⟩
      · refine z_if_ltt C 21 c3 d_E_few_12 (by decide) ?_
        refine z_ldc2 C zc_0_306 d_E_few_21 ?_
        cases h
        exact z_lret C hret ⟨Nat.zero_le _, Nat.zero_le _⟩ d_E_few_24
      · refine z_if_ltf C 21 c3 d_E_few_12 (by decide) ?_
        refine z_iload_n C 2 rfl d_E_few_15 rfl ?_
        refine z_bipush C (99 : Int32) (by decide) d_E_few_16 ?_
        rcases zite h with ⟨c4, h⟩ | ⟨c4, h⟩
        · refine z_icmp_let C 25 c4 d_E_few_18 (by decide) ?_
          refine z_aload_n C 0 rfl d_E_few_25 rfl ?_
          refine z_getF2 C 0 (by decide) 14 (by decide) rfl 70 20 rfl (70) rfl zp_0 zk_0 zfl_0_89 d_E_few_26 ?_
          refine z_lconst C (0 : Int64) (by decide) d_E_few_29 ?_
          obtain ⟨S6, h5, h⟩ := zb1_some h
          refine z_cS C (m_Ar_fillL l zk_70 zp_70 h5) mf_Ar_fillL lk_0_308 st_Ar_fillL ⟨rfl, rfl⟩ ⟨by decide, by decide⟩ ⟨Nat.zero_le _, Nat.zero_le _⟩ rfl _ [] rfl (Nat.le_of_ble_eq_true rfl) d_E_few_30 ?_
          refine z_aload_n C 0 rfl d_E_few_33 rfl ?_
          refine z_getF2 C 0 (by decide) 14 (by decide) rfl 70 20 rfl (70) rfl zp_0 zk_0 zfl_0_89 d_E_few_34 ?_
          refine z_iconst C (0 : Int32) (by decide) d_E_few_37 ?_
          refine z_ldc2 C zc_0_313 d_E_few_38 ?_
          refine z_fact (fun hSR => ?_)
          refine z_lastoreS C zo_70 zk_70 (za_70 hSR) (by decide) d_E_few_41 ?_
          refine z_iconst C (0 : Int32) (by decide) d_E_few_42 ?_
          refine z_istore_n C [(3, zi (0 : Int32)), (0, zr (some 0)), (1, zi a1), (2, zi a2)] d_E_few_43 rfl (by decide) rfl ?_
          refine zq_lsub [1, 2, 3, 0] [(0, zr (some 0)), (1, zi a1), (2, zi a2), (3, zi (0 : Int32))] rfl ?_
          exact c_E_few_44 C hret fu  a1 a2 (0 : Int32) (zwL S6 70 (0 : Int32).toNatClampNeg (1000000000000 : Int64)) h
        · refine z_icmp_lef C 25 c4 d_E_few_18 (by decide) ?_
          refine z_ldc2 C zc_0_306 d_E_few_21 ?_
          cases h
          exact z_lret C hret ⟨Nat.zero_le _, Nat.zero_le _⟩ d_E_few_24
def f_E_compare_18 (fu : Nat) (a1 : Int32) (a2 : Int32) (a3 : Int32) (S : zSt) : Option (Int32 × zSt) := zb1 (f_Ps_lawOf 1 a1 S) (fun r2 => zb1 (f_Pa_fill fu 1 r2 S) (fun S4 => zb1 (f_Pa_soonest a2 a3 S4) (fun r6 => some (r6, S4))))
def f_E_compare (fu : Nat) (a1 : Int32) (a2 : Int32) (a3 : Int32) (S : zSt) : Option (Int32 × zSt) := if a1 = (-1 : Int32) then f_E_compare_18 fu a1 a2 a3 S else zb1 (f_Ps_hasLaw 1 a1 S) (fun r3 => if r3 = 0 then some ((-1 : Int32), S) else f_E_compare_18 fu a1 a2 a3 S)
set_option maxRecDepth 100000 in
set_option maxHeartbeats 4000000 in
theorem c_E_compare_18 {p : Program} {l : Launch} {e : Env} {s : State} {m : MethodId} {args : Array Value} {below : List Frame} {meth : Method} {c : Code} {G : zG} (C : zC p s m args meth c G b_E_compare 4 y_E_compare.cls) (hret : meth.sig.returnType = (some .int)) {fu : Nat} {r : Int32} {S1 : zSt} : ∀ (a1 : Int32) (a2 : Int32) (a3 : Int32) (S : zSt) , f_E_compare_18 fu a1 a2 a3 S = some (r, S1) → zJ p l e rm_E_compare s m args below meth c G true 4 0 0 (zQm below G args s rm_E_compare true (some (zi r)) S1) S 18 [(0, zr (some 0)), (1, zi a1), (2, zi a2), (3, zi a3)] [] := by
  intro a1 a2 a3 S h
  unfold f_E_compare_18 at h
  refine z_aload_n C 0 rfl d_E_compare_18 rfl ?_
  refine z_getF2 C 0 (by decide) 9 (by decide) rfl 55 0 rfl (55) rfl zp_0 zk_0 zfl_0_60 d_E_compare_19 ?_
  refine z_aload_n C 0 rfl d_E_compare_22 rfl ?_
  refine z_getF2 C 0 (by decide) 0 (by decide) rfl 1 0 rfl (1) rfl zp_0 zk_0 zfl_0_12 d_E_compare_23 ?_
  refine z_aload_n C 0 rfl d_E_compare_26 rfl ?_
  refine z_getF2 C 0 (by decide) 0 (by decide) rfl 1 0 rfl (1) rfl zp_0 zk_0 zfl_0_12 d_E_compare_27 ?_
  refine z_iload_n C 1 rfl d_E_compare_30 rfl ?_
  obtain ⟨r2, h1, h⟩ := zb1_some h
  refine z_cV C 5 (by decide) (m_Ps_lawOf l zk_1 (Nat.le_of_ble_eq_true rfl) h1) mf_Ps_lawOf lk_0_318 in_Ps_lawOf se_Ps_lawOf rfl zo_1 zk_1 ⟨rfl, rfl⟩ ⟨by decide, by decide⟩ ⟨Nat.zero_le _, Nat.zero_le _⟩ rfl _ [zr (some 1), zr (some 55)] rfl (Nat.le_of_ble_eq_true rfl) d_E_compare_31 ?_
  refine z_aload_n C 0 rfl d_E_compare_34 rfl ?_
  refine z_getF2 C 0 (by decide) 8 (by decide) rfl 52 0 rfl (52) rfl zp_0 zk_0 zfl_0_53 d_E_compare_35 ?_
  obtain ⟨S4, h3, h⟩ := zb1_some h
  refine z_cV C 4 (by decide) (m_Pa_fill l zk_1 (Nat.le_of_ble_eq_true rfl) h3) mf_Pa_fill lk_0_322 in_Pa_fill se_Pa_fill rfl zo_55 zk_55 ⟨rfl, rfl⟩ ⟨by decide, by decide⟩ ⟨Nat.zero_le _, Nat.zero_le _⟩ rfl _ [] rfl (Nat.le_of_ble_eq_true rfl) d_E_compare_38 ?_
  refine z_aload_n C 0 rfl d_E_compare_41 rfl ?_
  refine z_getF2 C 0 (by decide) 9 (by decide) rfl 55 0 rfl (55) rfl zp_0 zk_0 zfl_0_60 d_E_compare_42 ?_
  refine z_iload_n C 2 rfl d_E_compare_45 rfl ?_
  refine z_iload_n C 3 rfl d_E_compare_46 rfl ?_
  obtain ⟨r6, h5, h⟩ := zb1_some h
  refine z_cV C 4 (by decide) (m_Pa_soonest l h5) mf_Pa_soonest lk_0_229 in_Pa_soonest se_Pa_soonest rfl zo_55 zk_55 ⟨rfl, rfl⟩ ⟨by decide, by decide⟩ ⟨Nat.zero_le _, Nat.zero_le _⟩ rfl _ [] rfl (Nat.le_of_ble_eq_true rfl) d_E_compare_47 ?_
  cases h
  exact z_iret C .int hret rfl ⟨Nat.zero_le _, Nat.zero_le _⟩ d_E_compare_50
set_option maxRecDepth 100000 in
set_option maxHeartbeats 4000000 in
theorem m_E_compare (l : Launch) {fu : Nat} {a1 : Int32} {a2 : Int32} {a3 : Int32} {S : zSt} {r : Int32} {S1 : zSt} (h : f_E_compare fu a1 a2 a3 S = some (r, S1)) : zPM l y_E_compare b_E_compare 4 (some .int) rm_E_compare true true [zr (some 0), zi a1, zi a2, zi a3] S (some (zi r)) S1 := by
  refine zPM_of (by decide) (Nat.le_of_ble_eq_true rfl) (fun p e s m args below meth c G C hret hname => ?_)
  unfold f_E_compare at h
  refine (?_ : zJ p l e rm_E_compare s m args below meth c G true 4 0 0 (zQm below G args s rm_E_compare true (some (zi r)) S1) S 0 [(0, zr (some 0)), (1, zi a1), (2, zi a2), (3, zi a3)] [])
  refine z_iload_n C 1 rfl d_E_compare_0 rfl ?_
  refine z_iconst C (-1 : Int32) (by decide) d_E_compare_1 ?_
  rcases zite h with ⟨c1, h⟩ | ⟨c1, h⟩
  · refine z_icmp_eqt C 18 c1 d_E_compare_2 (by decide) ?_
    refine zq_lsub [0, 1, 2, 3] [(0, zr (some 0)), (1, zi a1), (2, zi a2), (3, zi a3)] rfl ?_
    exact c_E_compare_18 C hret  a1 a2 a3 S h
  · refine z_icmp_eqf C 18 c1 d_E_compare_2 (by decide) ?_
    refine z_aload_n C 0 rfl d_E_compare_5 rfl ?_
    refine z_getF2 C 0 (by decide) 0 (by decide) rfl 1 0 rfl (1) rfl zp_0 zk_0 zfl_0_12 d_E_compare_6 ?_
    refine z_iload_n C 1 rfl d_E_compare_9 rfl ?_
    obtain ⟨r3, h2, h⟩ := zb1_some h
    refine z_cV C 5 (by decide) (m_Ps_hasLaw l zk_1 (Nat.le_of_ble_eq_true rfl) h2) mf_Ps_hasLaw lk_0_210 in_Ps_hasLaw se_Ps_hasLaw rfl zo_1 zk_1 ⟨rfl, rfl⟩ ⟨by decide, by decide⟩ ⟨Nat.zero_le _, Nat.zero_le _⟩ rfl _ [] rfl (Nat.le_of_ble_eq_true rfl) d_E_compare_10 ?_
    rcases zite h with ⟨c4, h⟩ | ⟨c4, h⟩
    · refine z_if_nef C 18 c4 d_E_compare_13 (by decide) ?_
      refine z_iconst C (-1 : Int32) (by decide) d_E_compare_16 ?_
      cases h
      exact z_iret C .int hret rfl ⟨Nat.zero_le _, Nat.zero_le _⟩ d_E_compare_17
    · refine z_if_net C 18 c4 d_E_compare_13 (by decide) ?_
      refine zq_lsub [0, 1, 2, 3] [(0, zr (some 0)), (1, zi a1), (2, zi a2), (3, zi a3)] rfl ?_
      exact c_E_compare_18 C hret  a1 a2 a3 S h
def f_E_nextDraw (a0 : Int32) : Option Int32 := some ((((a0.toInt64 * (1103 : Int64)) + (12345 : Int64)) - ((a0.toInt64 * (1103 : Int64)) + (12345 : Int64)) / (1000003 : Int64) * (1000003 : Int64)).toInt32)
set_option maxRecDepth 100000 in
set_option maxHeartbeats 4000000 in
theorem m_E_nextDraw (l : Launch) {a0 : Int32} {S : zSt} {r : Int32} (h : f_E_nextDraw a0 = some r) : zPM l y_E_nextDraw b_E_nextDraw 1 (some .int) rm_E_nextDraw true true [zi a0] S (some (zi r)) S := by
  refine zPM_of (by decide) (Nat.le_of_ble_eq_true rfl) (fun p e s m args below meth c G C hret hname => ?_)
  unfold f_E_nextDraw at h
  refine (?_ : zJ p l e rm_E_nextDraw s m args below meth c G true 1 0 0 (zQm below G args s rm_E_nextDraw true (some (zi r)) S) S 0 [(0, zi a0)] [])
  refine z_iload_n C 0 rfl d_E_nextDraw_0 rfl ?_
  refine z_i2l C d_E_nextDraw_1 ?_
  refine z_ldc2 C zc_0_412 d_E_nextDraw_2 ?_
  refine z_lmul C d_E_nextDraw_5 ?_
  refine z_ldc2 C zc_0_414 d_E_nextDraw_6 ?_
  refine z_ladd C d_E_nextDraw_9 ?_
  refine z_ldc2 C zc_0_416 d_E_nextDraw_10 ?_
  refine z_lrem C (by decide) d_E_nextDraw_13 ?_
  refine z_l2i C d_E_nextDraw_14 ?_
  cases h
  exact z_iret C .int hret rfl ⟨Nat.zero_le _, Nat.zero_le _⟩ d_E_nextDraw_15
def f_E_actOnPaper (fu : Nat) (a1 : Int32) (a2 : Int32) (a3 : Int32) (a4 : Int32) (S : zSt) : Option (Int32 × zSt) := if 0 < (zI S 13 0) then zgd (¬ (zI S 13 0) = 0) (if a4 = 0 then zgd (¬ (zI S 13 0) = 0) (zb2 (f_Ps_turnGate 13 (a1 - a1 / (zI S 13 0) * (zI S 13 0)) (a2 - a2 / (zI S 13 0) * (zI S 13 0)) S) (fun r15 S16 => some ((0 : Int32), S16))) else if a4 = (1 : Int32) then zb2 (f_Ps_muddy 13 (a1 - a1 / (zI S 13 0) * (zI S 13 0)) (a3 - a3 / (10 : Int32) * (10 : Int32)) S) (fun r11 S12 => some ((0 : Int32), S12)) else if a4 = (2 : Int32) then zb2 (f_Ps_goTo fu 13 (a1 - a1 / (zI S 13 0) * (zI S 13 0)) S) (fun r7 S8 => if r7 ≤ 0 then some ((0 : Int32), S8) else some (r7, S8)) else some ((0 : Int32), S)) else some ((0 : Int32), S)
set_option maxRecDepth 100000 in
set_option maxHeartbeats 4000000 in
theorem m_E_actOnPaper (l : Launch) {fu : Nat} {a1 : Int32} {a2 : Int32} {a3 : Int32} {a4 : Int32} {S : zSt} {r : Int32} {S1 : zSt} (h : f_E_actOnPaper fu a1 a2 a3 a4 S = some (r, S1)) : zPM l y_E_actOnPaper b_E_actOnPaper 8 (some .int) rm_E_actOnPaper true true [zr (some 0), zi a1, zi a2, zi a3, zi a4] S (some (zi r)) S1 := by
  refine zPM_of (by decide) (Nat.le_of_ble_eq_true rfl) (fun p e s m args below meth c G C hret hname => ?_)
  unfold f_E_actOnPaper at h
  refine (?_ : zJ p l e rm_E_actOnPaper s m args below meth c G true 8 0 0 (zQm below G args s rm_E_actOnPaper true (some (zi r)) S1) S 0 [(0, zr (some 0)), (1, zi a1), (2, zi a2), (3, zi a3), (4, zi a4)] [])
  refine z_aload_n C 0 rfl d_E_actOnPaper_0 rfl ?_
  refine z_getF2 C 0 (by decide) 2 (by decide) rfl 13 0 rfl (13) rfl zp_0 zk_0 zfl_0_19 d_E_actOnPaper_1 ?_
  refine z_getI C 5 (by decide) 0 (by decide) rfl zo_13 zk_13 zfl_0_113 d_E_actOnPaper_4 ?_
  refine z_istore C [(5, zi (zI S 13 0)), (0, zr (some 0)), (1, zi a1), (2, zi a2), (3, zi a3), (4, zi a4)] d_E_actOnPaper_7 (by decide) rfl ?_
  refine z_iload C 0 rfl d_E_actOnPaper_9 ?_
  rcases zite h with ⟨c1, h⟩ | ⟨c1, h⟩
  · refine z_if_gtt C 16 c1 d_E_actOnPaper_11 (by decide) ?_
    refine z_iload_n C 2 rfl d_E_actOnPaper_16 rfl ?_
    refine z_iload C 0 rfl d_E_actOnPaper_17 ?_
    obtain ⟨g2, h⟩ := zgd_some h
    refine z_irem C g2 d_E_actOnPaper_19 ?_
    refine z_istore C [(6, zi (a1 - a1 / (zI S 13 0) * (zI S 13 0))), (5, zi (zI S 13 0)), (0, zr (some 0)), (1, zi a1), (2, zi a2), (3, zi a3), (4, zi a4)] d_E_actOnPaper_20 (by decide) rfl ?_
    refine z_iload C 6 rfl d_E_actOnPaper_22 ?_
    rcases zite h with ⟨c3, h⟩ | ⟨c3, h⟩
    · refine z_if_nef C 44 c3 d_E_actOnPaper_24 (by decide) ?_
      refine z_aload_n C 2 rfl d_E_actOnPaper_27 rfl ?_
      refine z_getF2 C 0 (by decide) 2 (by decide) rfl 13 0 rfl (13) rfl zp_0 zk_0 zfl_0_19 d_E_actOnPaper_28 ?_
      refine z_iload C 0 rfl d_E_actOnPaper_31 ?_
      refine z_iload_n C 4 rfl d_E_actOnPaper_33 rfl ?_
      refine z_iload C 1 rfl d_E_actOnPaper_34 ?_
      obtain ⟨g13, h⟩ := zgd_some h
      refine z_irem C g13 d_E_actOnPaper_36 ?_
      obtain ⟨r15, S16, h14, h⟩ := zb2_some h
      refine z_cV C 5 (by decide) (m_Ps_turnGate l zk_13 (Nat.le_of_ble_eq_true rfl) h14) mf_Ps_turnGate lk_0_373 in_Ps_turnGate se_Ps_turnGate rfl zo_13 zk_13 ⟨rfl, rfl⟩ ⟨by decide, by decide⟩ ⟨Nat.zero_le _, Nat.zero_le _⟩ rfl _ [] rfl (Nat.le_of_ble_eq_true rfl) d_E_actOnPaper_37 ?_
      refine z_pop C rfl d_E_actOnPaper_40 ?_
      refine z_goto C 100 d_E_actOnPaper_41 (by decide) ?_
      refine z_iconst C (0 : Int32) (by decide) d_E_actOnPaper_100 ?_
      cases h
      exact z_iret C .int hret rfl ⟨Nat.zero_le _, Nat.zero_le _⟩ d_E_actOnPaper_101
    · refine z_if_net C 44 c3 d_E_actOnPaper_24 (by decide) ?_
      refine z_iload C 6 rfl d_E_actOnPaper_44 ?_
      refine z_iconst C (1 : Int32) (by decide) d_E_actOnPaper_46 ?_
      rcases zite h with ⟨c4, h⟩ | ⟨c4, h⟩
      · refine z_icmp_nef C 67 c4 d_E_actOnPaper_47 (by decide) ?_
        refine z_aload_n C 2 rfl d_E_actOnPaper_50 rfl ?_
        refine z_getF2 C 0 (by decide) 2 (by decide) rfl 13 0 rfl (13) rfl zp_0 zk_0 zfl_0_19 d_E_actOnPaper_51 ?_
        refine z_iload C 0 rfl d_E_actOnPaper_54 ?_
        refine z_iload_n C 5 rfl d_E_actOnPaper_56 rfl ?_
        refine z_bipush C (10 : Int32) (by decide) d_E_actOnPaper_57 ?_
        refine z_irem C (by decide) d_E_actOnPaper_59 ?_
        obtain ⟨r11, S12, h10, h⟩ := zb2_some h
        refine z_cV C 5 (by decide) (m_Ps_muddy l zk_13 (Nat.le_of_ble_eq_true rfl) h10) mf_Ps_muddy lk_0_376 in_Ps_muddy se_Ps_muddy rfl zo_13 zk_13 ⟨rfl, rfl⟩ ⟨by decide, by decide⟩ ⟨Nat.zero_le _, Nat.zero_le _⟩ rfl _ [] rfl (Nat.le_of_ble_eq_true rfl) d_E_actOnPaper_60 ?_
        refine z_pop C rfl d_E_actOnPaper_63 ?_
        refine z_goto C 100 d_E_actOnPaper_64 (by decide) ?_
        refine z_iconst C (0 : Int32) (by decide) d_E_actOnPaper_100 ?_
        cases h
        exact z_iret C .int hret rfl ⟨Nat.zero_le _, Nat.zero_le _⟩ d_E_actOnPaper_101
      · refine z_icmp_net C 67 c4 d_E_actOnPaper_47 (by decide) ?_
        refine z_iload C 6 rfl d_E_actOnPaper_67 ?_
        refine z_iconst C (2 : Int32) (by decide) d_E_actOnPaper_69 ?_
        rcases zite h with ⟨c5, h⟩ | ⟨c5, h⟩
        · refine z_icmp_nef C 100 c5 d_E_actOnPaper_70 (by decide) ?_
          refine z_aload_n C 2 rfl d_E_actOnPaper_73 rfl ?_
          refine z_getF2 C 0 (by decide) 2 (by decide) rfl 13 0 rfl (13) rfl zp_0 zk_0 zfl_0_19 d_E_actOnPaper_74 ?_
          refine z_iload C 0 rfl d_E_actOnPaper_77 ?_
          refine z_aload_n C 2 rfl d_E_actOnPaper_79 rfl ?_
          refine z_getF2 C 0 (by decide) 8 (by decide) rfl 52 0 rfl (52) rfl zp_0 zk_0 zfl_0_53 d_E_actOnPaper_80 ?_
          obtain ⟨r7, S8, h6, h⟩ := zb2_some h
          refine z_cV C 5 (by decide) (m_Ps_goTo l zk_13 (Nat.le_of_ble_eq_true rfl) h6) mf_Ps_goTo lk_0_369 in_Ps_goTo se_Ps_goTo rfl zo_13 zk_13 ⟨rfl, rfl⟩ ⟨by decide, by decide⟩ ⟨Nat.zero_le _, Nat.zero_le _⟩ rfl _ [] rfl (Nat.le_of_ble_eq_true rfl) d_E_actOnPaper_83 ?_
          refine z_istore C [(7, zi r7), (6, zi (a1 - a1 / (zI S 13 0) * (zI S 13 0))), (5, zi (zI S 13 0)), (0, zr (some 0)), (1, zi a1), (2, zi a2), (3, zi a3), (4, zi a4)] d_E_actOnPaper_86 (by decide) rfl ?_
          refine z_iload C 0 rfl d_E_actOnPaper_88 ?_
          rcases zite h with ⟨c9, h⟩ | ⟨c9, h⟩
          · refine z_if_let C 98 c9 d_E_actOnPaper_90 (by decide) ?_
            refine z_iconst C (0 : Int32) (by decide) d_E_actOnPaper_98 ?_
            cases h
            exact z_iret C .int hret rfl ⟨Nat.zero_le _, Nat.zero_le _⟩ d_E_actOnPaper_99
          · refine z_if_lef C 98 c9 d_E_actOnPaper_90 (by decide) ?_
            refine z_iload C 0 rfl d_E_actOnPaper_93 ?_
            refine z_goto C 99 d_E_actOnPaper_95 (by decide) ?_
            cases h
            exact z_iret C .int hret rfl ⟨Nat.zero_le _, Nat.zero_le _⟩ d_E_actOnPaper_99
        · refine z_icmp_net C 100 c5 d_E_actOnPaper_70 (by decide) ?_
          refine z_iconst C (0 : Int32) (by decide) d_E_actOnPaper_100 ?_
          cases h
          exact z_iret C .int hret rfl ⟨Nat.zero_le _, Nat.zero_le _⟩ d_E_actOnPaper_101
  · refine z_if_gtf C 16 c1 d_E_actOnPaper_11 (by decide) ?_
    refine z_iconst C (0 : Int32) (by decide) d_E_actOnPaper_14 ?_
    cases h
    exact z_iret C .int hret rfl ⟨Nat.zero_le _, Nat.zero_le _⟩ d_E_actOnPaper_15
def f_E_years_64 (fu : Nat) : Nat → Int32 → Int32 → Int32 → Int32 → zSt → Option (Int32 × zSt)
  | 0, _, _, _, _, _ => none
  | n + 1, a2, a3, a4, a5, S => if a2 ≤ a5 then zb2 (f_E_granted a3 S) (fun r3 S4 => some (r3, S4)) else if (999 : Int32) ≤ (zI S 13 6) then zb2 (f_E_granted a3 S) (fun r7 S8 => some (r7, S8)) else zb1 (f_E_nextDraw a4) (fun r10 => zb1 (f_E_nextDraw r10) (fun r12 => zb1 (f_E_nextDraw r12) (fun r14 => zb1 (f_E_nextDraw r14) (fun r16 => zb2 (f_E_actOnPaper fu r10 r12 r14 (r16 - r16 / (4 : Int32) * (4 : Int32)) S) (fun r18 S19 => zb2 (f_Ps_nextDay fu 13 S19) (fun r21 S22 => f_E_years_64 fu n a2 (a3 + r18) r16 (a5 + (1 : Int32)) S22))))))
def f_E_years (fu : Nat) (a1 : Int32) (a2 : Int32) (S : zSt) : Option (Int32 × zSt) := if a1 < 0 then zb2 (f_E_refused (-1 : Int32) S) (fun r3 S4 => some (r3, S4)) else if (1000000 : Int32) < a1 then zb2 (f_E_refused (-1 : Int32) S) (fun r7 S8 => some (r7, S8)) else if a2 < (1 : Int32) then zb2 (f_E_refused (-1 : Int32) S) (fun r11 S12 => some (r11, S12)) else if a2 ≤ (60 : Int32) then if (zI S 1 0) = 0 then zb2 (f_E_refused (-3 : Int32) S) (fun r18 S19 => some (r18, S19)) else zb1 (f_Ps_copyFrom fu 13 1 S) (fun S16 => f_E_years_64 fu fu a2 (0 : Int32) a1 (0 : Int32) S16) else zb2 (f_E_refused (-1 : Int32) S) (fun r21 S22 => some (r21, S22))
set_option maxRecDepth 100000 in
set_option maxHeartbeats 4000000 in
theorem c_E_years_64 {p : Program} {l : Launch} {e : Env} {s : State} {m : MethodId} {args : Array Value} {below : List Frame} {meth : Method} {c : Code} {G : zG} (C : zC p s m args meth c G b_E_years 9 y_E_years.cls) (hret : meth.sig.returnType = (some .int)) {fu : Nat} {r : Int32} {S1 : zSt} : ∀ (n : Nat) (a2 : Int32) (a3 : Int32) (a4 : Int32) (a5 : Int32) (S : zSt) , f_E_years_64 fu n a2 a3 a4 a5 S = some (r, S1) → zJ p l e rm_E_years s m args below meth c G true 9 0 0 (zQm below G args s rm_E_years true (some (zi r)) S1) S 64 [(0, zr (some 0)), (2, zi a2), (3, zi a3), (4, zi a4), (5, zi a5)] [] := by
  intro n
  induction n with
  | zero =>
    intro a2 a3 a4 a5 S h
    cases h
  | succ n ih =>
    intro a2 a3 a4 a5 S h
    rw [f_E_years_64] at h
    refine z_iload C 4 rfl d_E_years_64 ?_
    refine z_iload_n C 1 rfl d_E_years_66 rfl ?_
    rcases zite h with ⟨c1, h⟩ | ⟨c1, h⟩
    · refine z_icmp_get C 146 c1 d_E_years_67 (by decide) ?_
      refine z_aload_n C 0 rfl d_E_years_146 rfl ?_
      refine z_iload_n C 2 rfl d_E_years_147 rfl ?_
      obtain ⟨r3, S4, h2, h⟩ := zb2_some h
      refine z_cV C 0 (by decide) (m_E_granted l h2) mf_E_granted lk_0_123 in_E_granted se_E_granted rfl zo_0 zk_0 ⟨rfl, rfl⟩ ⟨by decide, by decide⟩ ⟨Nat.zero_le _, Nat.zero_le _⟩ rfl _ [] rfl (Nat.le_of_ble_eq_true rfl) d_E_years_148 ?_
      cases h
      exact z_iret C .int hret rfl ⟨Nat.zero_le _, Nat.zero_le _⟩ d_E_years_151
    · refine z_icmp_gef C 146 c1 d_E_years_67 (by decide) ?_
      refine z_aload_n C 0 rfl d_E_years_70 rfl ?_
      refine z_getF2 C 0 (by decide) 2 (by decide) rfl 13 0 rfl (13) rfl zp_0 zk_0 zfl_0_19 d_E_years_71 ?_
      refine z_getI C 5 (by decide) 6 (by decide) rfl zo_13 zk_13 zfl_0_326 d_E_years_74 ?_
      refine z_sipush C (999 : Int32) (by decide) d_E_years_77 ?_
      rcases zite h with ⟨c5, h⟩ | ⟨c5, h⟩
      · refine z_icmp_get C 146 c5 d_E_years_80 (by decide) ?_
        refine z_aload_n C 0 rfl d_E_years_146 rfl ?_
        refine z_iload_n C 2 rfl d_E_years_147 rfl ?_
        obtain ⟨r7, S8, h6, h⟩ := zb2_some h
        refine z_cV C 0 (by decide) (m_E_granted l h6) mf_E_granted lk_0_123 in_E_granted se_E_granted rfl zo_0 zk_0 ⟨rfl, rfl⟩ ⟨by decide, by decide⟩ ⟨Nat.zero_le _, Nat.zero_le _⟩ rfl _ [] rfl (Nat.le_of_ble_eq_true rfl) d_E_years_148 ?_
        cases h
        exact z_iret C .int hret rfl ⟨Nat.zero_le _, Nat.zero_le _⟩ d_E_years_151
      · refine z_icmp_gef C 146 c5 d_E_years_80 (by decide) ?_
        refine z_iload C 3 rfl d_E_years_83 ?_
        obtain ⟨r10, h9, h⟩ := zb1_some h
        refine z_cS C (m_E_nextDraw l h9) mf_E_nextDraw lk_0_329 st_E_nextDraw ⟨rfl, rfl⟩ ⟨by decide, by decide⟩ ⟨Nat.zero_le _, Nat.zero_le _⟩ rfl _ [] rfl (Nat.le_of_ble_eq_true rfl) d_E_years_85 ?_
        refine z_istore C [(6, zi r10), (0, zr (some 0)), (2, zi a2), (3, zi a3), (4, zi a4), (5, zi a5)] d_E_years_88 (by decide) rfl ?_
        refine z_iload C 0 rfl d_E_years_90 ?_
        obtain ⟨r12, h11, h⟩ := zb1_some h
        refine z_cS C (m_E_nextDraw l h11) mf_E_nextDraw lk_0_329 st_E_nextDraw ⟨rfl, rfl⟩ ⟨by decide, by decide⟩ ⟨Nat.zero_le _, Nat.zero_le _⟩ rfl _ [] rfl (Nat.le_of_ble_eq_true rfl) d_E_years_92 ?_
        refine z_istore C [(7, zi r12), (6, zi r10), (0, zr (some 0)), (2, zi a2), (3, zi a3), (4, zi a4), (5, zi a5)] d_E_years_95 (by decide) rfl ?_
        refine z_iload C 0 rfl d_E_years_97 ?_
        obtain ⟨r14, h13, h⟩ := zb1_some h
        refine z_cS C (m_E_nextDraw l h13) mf_E_nextDraw lk_0_329 st_E_nextDraw ⟨rfl, rfl⟩ ⟨by decide, by decide⟩ ⟨Nat.zero_le _, Nat.zero_le _⟩ rfl _ [] rfl (Nat.le_of_ble_eq_true rfl) d_E_years_99 ?_
        refine z_istore C [(8, zi r14), (7, zi r12), (6, zi r10), (0, zr (some 0)), (2, zi a2), (3, zi a3), (4, zi a4), (5, zi a5)] d_E_years_102 (by decide) rfl ?_
        refine z_iload C 0 rfl d_E_years_104 ?_
        obtain ⟨r16, h15, h⟩ := zb1_some h
        refine z_cS C (m_E_nextDraw l h15) mf_E_nextDraw lk_0_329 st_E_nextDraw ⟨rfl, rfl⟩ ⟨by decide, by decide⟩ ⟨Nat.zero_le _, Nat.zero_le _⟩ rfl _ [] rfl (Nat.le_of_ble_eq_true rfl) d_E_years_106 ?_
        refine z_istore C [(4, zi r16), (8, zi r14), (7, zi r12), (6, zi r10), (0, zr (some 0)), (2, zi a2), (3, zi a3), (5, zi a5)] d_E_years_109 (by decide) rfl ?_
        refine z_iload_n C 6 rfl d_E_years_111 rfl ?_
        refine z_aload_n C 4 rfl d_E_years_112 rfl ?_
        refine z_iload C 3 rfl d_E_years_113 ?_
        refine z_iload C 2 rfl d_E_years_115 ?_
        refine z_iload C 1 rfl d_E_years_117 ?_
        refine z_iload C 0 rfl d_E_years_119 ?_
        refine z_iconst C (4 : Int32) (by decide) d_E_years_121 ?_
        refine z_irem C (by decide) d_E_years_122 ?_
        obtain ⟨r18, S19, h17, h⟩ := zb2_some h
        refine z_cV C 0 (by decide) (m_E_actOnPaper l h17) mf_E_actOnPaper lk_0_332 in_E_actOnPaper se_E_actOnPaper rfl zo_0 zk_0 ⟨rfl, rfl⟩ ⟨by decide, by decide⟩ ⟨Nat.zero_le _, Nat.zero_le _⟩ rfl _ [zi a3] rfl (Nat.le_of_ble_eq_true rfl) d_E_years_123 ?_
        refine z_iadd C d_E_years_126 ?_
        refine z_istore_n C [(3, zi (a3 + r18)), (4, zi r16), (8, zi r14), (7, zi r12), (6, zi r10), (0, zr (some 0)), (2, zi a2), (5, zi a5)] d_E_years_127 rfl (by decide) rfl ?_
        refine z_aload_n C 5 rfl d_E_years_128 rfl ?_
        refine z_getF2 C 0 (by decide) 2 (by decide) rfl 13 0 rfl (13) rfl zp_0 zk_0 zfl_0_19 d_E_years_129 ?_
        refine z_aload_n C 5 rfl d_E_years_132 rfl ?_
        refine z_getF2 C 0 (by decide) 8 (by decide) rfl 52 0 rfl (52) rfl zp_0 zk_0 zfl_0_53 d_E_years_133 ?_
        obtain ⟨r21, S22, h20, h⟩ := zb2_some h
        refine z_cV C 5 (by decide) (m_Ps_nextDay l zk_13 (Nat.le_of_ble_eq_true rfl) h20) mf_Ps_nextDay lk_0_336 in_Ps_nextDay se_Ps_nextDay rfl zo_13 zk_13 ⟨rfl, rfl⟩ ⟨by decide, by decide⟩ ⟨Nat.zero_le _, Nat.zero_le _⟩ rfl _ [] rfl (Nat.le_of_ble_eq_true rfl) d_E_years_136 ?_
        refine z_pop C rfl d_E_years_139 ?_
        refine z_iinc C 7 (a5 + (1 : Int32)) [(5, zi (a5 + (1 : Int32))), (3, zi (a3 + r18)), (4, zi r16), (8, zi r14), (7, zi r12), (6, zi r10), (0, zr (some 0)), (2, zi a2)] rfl d_E_years_140 (by first | rfl | decide) (by decide) rfl ?_
        refine z_goto C 64 d_E_years_143 (by decide) ?_
        refine zq_lsub [6, 7, 1, 2, 0] [(0, zr (some 0)), (2, zi a2), (3, zi (a3 + r18)), (4, zi r16), (5, zi (a5 + (1 : Int32)))] rfl ?_
        exact ih a2 (a3 + r18) r16 (a5 + (1 : Int32)) S22 h
set_option maxRecDepth 100000 in
set_option maxHeartbeats 4000000 in
theorem m_E_years (l : Launch) {fu : Nat} {a1 : Int32} {a2 : Int32} {S : zSt} {r : Int32} {S1 : zSt} (h : f_E_years fu a1 a2 S = some (r, S1)) : zPM l y_E_years b_E_years 9 (some .int) rm_E_years true true [zr (some 0), zi a1, zi a2] S (some (zi r)) S1 := by
  refine zPM_of (by decide) (Nat.le_of_ble_eq_true rfl) (fun p e s m args below meth c G C hret hname => ?_)
  unfold f_E_years at h
  refine (?_ : zJ p l e rm_E_years s m args below meth c G true 9 0 0 (zQm below G args s rm_E_years true (some (zi r)) S1) S 0 [(0, zr (some 0)), (1, zi a1), (2, zi a2)] [])
  refine z_iload_n C 1 rfl d_E_years_0 rfl ?_
  rcases zite h with ⟨c1, h⟩ | ⟨c1, h⟩
  · refine z_if_ltt C 22 c1 d_E_years_1 (by decide) ?_
    refine z_aload_n C 0 rfl d_E_years_22 rfl ?_
    refine z_iconst C (-1 : Int32) (by decide) d_E_years_23 ?_
    obtain ⟨r3, S4, h2, h⟩ := zb2_some h
    refine z_cV C 0 (by decide) (m_E_refused l h2) mf_E_refused lk_0_109 in_E_refused se_E_refused rfl zo_0 zk_0 ⟨rfl, rfl⟩ ⟨by decide, by decide⟩ ⟨Nat.zero_le _, Nat.zero_le _⟩ rfl _ [] rfl (Nat.le_of_ble_eq_true rfl) d_E_years_24 ?_
    cases h
    exact z_iret C .int hret rfl ⟨Nat.zero_le _, Nat.zero_le _⟩ d_E_years_27
  · refine z_if_ltf C 22 c1 d_E_years_1 (by decide) ?_
    refine z_iload_n C 1 rfl d_E_years_4 rfl ?_
    refine z_ldcw C zc_0_325 d_E_years_5 ?_
    rcases zite h with ⟨c5, h⟩ | ⟨c5, h⟩
    · refine z_icmp_gtt C 22 c5 d_E_years_8 (by decide) ?_
      refine z_aload_n C 0 rfl d_E_years_22 rfl ?_
      refine z_iconst C (-1 : Int32) (by decide) d_E_years_23 ?_
      obtain ⟨r7, S8, h6, h⟩ := zb2_some h
      refine z_cV C 0 (by decide) (m_E_refused l h6) mf_E_refused lk_0_109 in_E_refused se_E_refused rfl zo_0 zk_0 ⟨rfl, rfl⟩ ⟨by decide, by decide⟩ ⟨Nat.zero_le _, Nat.zero_le _⟩ rfl _ [] rfl (Nat.le_of_ble_eq_true rfl) d_E_years_24 ?_
      cases h
      exact z_iret C .int hret rfl ⟨Nat.zero_le _, Nat.zero_le _⟩ d_E_years_27
    · refine z_icmp_gtf C 22 c5 d_E_years_8 (by decide) ?_
      refine z_iload_n C 2 rfl d_E_years_11 rfl ?_
      refine z_iconst C (1 : Int32) (by decide) d_E_years_12 ?_
      rcases zite h with ⟨c9, h⟩ | ⟨c9, h⟩
      · refine z_icmp_ltt C 22 c9 d_E_years_13 (by decide) ?_
        refine z_aload_n C 0 rfl d_E_years_22 rfl ?_
        refine z_iconst C (-1 : Int32) (by decide) d_E_years_23 ?_
        obtain ⟨r11, S12, h10, h⟩ := zb2_some h
        refine z_cV C 0 (by decide) (m_E_refused l h10) mf_E_refused lk_0_109 in_E_refused se_E_refused rfl zo_0 zk_0 ⟨rfl, rfl⟩ ⟨by decide, by decide⟩ ⟨Nat.zero_le _, Nat.zero_le _⟩ rfl _ [] rfl (Nat.le_of_ble_eq_true rfl) d_E_years_24 ?_
        cases h
        exact z_iret C .int hret rfl ⟨Nat.zero_le _, Nat.zero_le _⟩ d_E_years_27
      · refine z_icmp_ltf C 22 c9 d_E_years_13 (by decide) ?_
        refine z_iload_n C 2 rfl d_E_years_16 rfl ?_
        refine z_bipush C (60 : Int32) (by decide) d_E_years_17 ?_
        rcases zite h with ⟨c13, h⟩ | ⟨c13, h⟩
        · refine z_icmp_let C 28 c13 d_E_years_19 (by decide) ?_
          refine z_aload_n C 0 rfl d_E_years_28 rfl ?_
          refine z_getF2 C 0 (by decide) 0 (by decide) rfl 1 0 rfl (1) rfl zp_0 zk_0 zfl_0_12 d_E_years_29 ?_
          refine z_getI C 5 (by decide) 0 (by decide) rfl zo_1 zk_1 zfl_0_113 d_E_years_32 ?_
          rcases zite h with ⟨c14, h⟩ | ⟨c14, h⟩
          · refine z_if_nef C 45 c14 d_E_years_35 (by decide) ?_
            refine z_aload_n C 0 rfl d_E_years_38 rfl ?_
            refine z_bipush C (-3 : Int32) (by decide) d_E_years_39 ?_
            obtain ⟨r18, S19, h17, h⟩ := zb2_some h
            refine z_cV C 0 (by decide) (m_E_refused l h17) mf_E_refused lk_0_109 in_E_refused se_E_refused rfl zo_0 zk_0 ⟨rfl, rfl⟩ ⟨by decide, by decide⟩ ⟨Nat.zero_le _, Nat.zero_le _⟩ rfl _ [] rfl (Nat.le_of_ble_eq_true rfl) d_E_years_41 ?_
            cases h
            exact z_iret C .int hret rfl ⟨Nat.zero_le _, Nat.zero_le _⟩ d_E_years_44
          · refine z_if_net C 45 c14 d_E_years_35 (by decide) ?_
            refine z_aload_n C 0 rfl d_E_years_45 rfl ?_
            refine z_getF2 C 0 (by decide) 2 (by decide) rfl 13 0 rfl (13) rfl zp_0 zk_0 zfl_0_19 d_E_years_46 ?_
            refine z_aload_n C 0 rfl d_E_years_49 rfl ?_
            refine z_getF2 C 0 (by decide) 0 (by decide) rfl 1 0 rfl (1) rfl zp_0 zk_0 zfl_0_12 d_E_years_50 ?_
            obtain ⟨S16, h15, h⟩ := zb1_some h
            refine z_cV C 5 (by decide) (m_Ps_copyFrom l zk_13 (Nat.le_of_ble_eq_true rfl) zk_1 (Nat.le_of_ble_eq_true rfl) h15) mf_Ps_copyFrom lk_0_200 in_Ps_copyFrom se_Ps_copyFrom rfl zo_13 zk_13 ⟨rfl, rfl⟩ ⟨by decide, by decide⟩ ⟨Nat.zero_le _, Nat.zero_le _⟩ rfl _ [] rfl (Nat.le_of_ble_eq_true rfl) d_E_years_53 ?_
            refine z_iconst C (0 : Int32) (by decide) d_E_years_56 ?_
            refine z_istore_n C [(3, zi (0 : Int32)), (0, zr (some 0)), (1, zi a1), (2, zi a2)] d_E_years_57 rfl (by decide) rfl ?_
            refine z_iload_n C 2 rfl d_E_years_58 rfl ?_
            refine z_istore C [(4, zi a1), (3, zi (0 : Int32)), (0, zr (some 0)), (1, zi a1), (2, zi a2)] d_E_years_59 (by decide) rfl ?_
            refine z_iconst C (0 : Int32) (by decide) d_E_years_61 ?_
            refine z_istore C [(5, zi (0 : Int32)), (4, zi a1), (3, zi (0 : Int32)), (0, zr (some 0)), (1, zi a1), (2, zi a2)] d_E_years_62 (by decide) rfl ?_
            refine zq_lsub [3, 5, 2, 1, 0] [(0, zr (some 0)), (2, zi a2), (3, zi (0 : Int32)), (4, zi a1), (5, zi (0 : Int32))] rfl ?_
            exact c_E_years_64 C hret fu  a2 (0 : Int32) a1 (0 : Int32) S16 h
        · refine z_icmp_lef C 28 c13 d_E_years_19 (by decide) ?_
          refine z_aload_n C 0 rfl d_E_years_22 rfl ?_
          refine z_iconst C (-1 : Int32) (by decide) d_E_years_23 ?_
          obtain ⟨r21, S22, h20, h⟩ := zb2_some h
          refine z_cV C 0 (by decide) (m_E_refused l h20) mf_E_refused lk_0_109 in_E_refused se_E_refused rfl zo_0 zk_0 ⟨rfl, rfl⟩ ⟨by decide, by decide⟩ ⟨Nat.zero_le _, Nat.zero_le _⟩ rfl _ [] rfl (Nat.le_of_ble_eq_true rfl) d_E_years_24 ?_
          cases h
          exact z_iret C .int hret rfl ⟨Nat.zero_le _, Nat.zero_le _⟩ d_E_years_27
def f_E_drawn (a1 : Int32) (a2 : Int32) (S : zSt) : Option Int32 := zb1 (f_Ps_has 13 a1 S) (fun r2 => if r2 = 0 then some (-1 : Int32) else if a2 = 0 then zb1 (f_Ps_mudOf 13 a1 S) (fun r8 => some r8) else if a2 = (1 : Int32) then if (zI S 13 5) = a1 then some (1 : Int32) else some (0 : Int32) else some (-1 : Int32))
set_option maxRecDepth 100000 in
set_option maxHeartbeats 4000000 in
theorem m_E_drawn (l : Launch) {a1 : Int32} {a2 : Int32} {S : zSt} {r : Int32} (h : f_E_drawn a1 a2 S = some r) : zPM l y_E_drawn b_E_drawn 3 (some .int) rm_E_drawn true true [zr (some 0), zi a1, zi a2] S (some (zi r)) S := by
  refine zPM_of (by decide) (Nat.le_of_ble_eq_true rfl) (fun p e s m args below meth c G C hret hname => ?_)
  unfold f_E_drawn at h
  refine (?_ : zJ p l e rm_E_drawn s m args below meth c G true 3 0 0 (zQm below G args s rm_E_drawn true (some (zi r)) S) S 0 [(0, zr (some 0)), (1, zi a1), (2, zi a2)] [])
  refine z_aload_n C 0 rfl d_E_drawn_0 rfl ?_
  refine z_getF2 C 0 (by decide) 2 (by decide) rfl 13 0 rfl (13) rfl zp_0 zk_0 zfl_0_19 d_E_drawn_1 ?_
  refine z_iload_n C 1 rfl d_E_drawn_4 rfl ?_
  obtain ⟨r2, h1, h⟩ := zb1_some h
  refine z_cV C 5 (by decide) (m_Ps_has l zk_13 (Nat.le_of_ble_eq_true rfl) h1) mf_Ps_has lk_0_126 in_Ps_has se_Ps_has rfl zo_13 zk_13 ⟨rfl, rfl⟩ ⟨by decide, by decide⟩ ⟨Nat.zero_le _, Nat.zero_le _⟩ rfl _ [] rfl (Nat.le_of_ble_eq_true rfl) d_E_drawn_5 ?_
  rcases zite h with ⟨c3, h⟩ | ⟨c3, h⟩
  · refine z_if_nef C 13 c3 d_E_drawn_8 (by decide) ?_
    refine z_iconst C (-1 : Int32) (by decide) d_E_drawn_11 ?_
    cases h
    exact z_iret C .int hret rfl ⟨Nat.zero_le _, Nat.zero_le _⟩ d_E_drawn_12
  · refine z_if_net C 13 c3 d_E_drawn_8 (by decide) ?_
    refine z_iload_n C 2 rfl d_E_drawn_13 rfl ?_
    rcases zite h with ⟨c4, h⟩ | ⟨c4, h⟩
    · refine z_if_nef C 26 c4 d_E_drawn_14 (by decide) ?_
      refine z_aload_n C 0 rfl d_E_drawn_17 rfl ?_
      refine z_getF2 C 0 (by decide) 2 (by decide) rfl 13 0 rfl (13) rfl zp_0 zk_0 zfl_0_19 d_E_drawn_18 ?_
      refine z_iload_n C 1 rfl d_E_drawn_21 rfl ?_
      obtain ⟨r8, h7, h⟩ := zb1_some h
      refine z_cV C 5 (by decide) (m_Ps_mudOf l zk_13 (Nat.le_of_ble_eq_true rfl) h7) mf_Ps_mudOf lk_0_137 in_Ps_mudOf se_Ps_mudOf rfl zo_13 zk_13 ⟨rfl, rfl⟩ ⟨by decide, by decide⟩ ⟨Nat.zero_le _, Nat.zero_le _⟩ rfl _ [] rfl (Nat.le_of_ble_eq_true rfl) d_E_drawn_22 ?_
      cases h
      exact z_iret C .int hret rfl ⟨Nat.zero_le _, Nat.zero_le _⟩ d_E_drawn_25
    · refine z_if_net C 26 c4 d_E_drawn_14 (by decide) ?_
      refine z_iload_n C 2 rfl d_E_drawn_26 rfl ?_
      refine z_iconst C (1 : Int32) (by decide) d_E_drawn_27 ?_
      rcases zite h with ⟨c5, h⟩ | ⟨c5, h⟩
      · refine z_icmp_nef C 48 c5 d_E_drawn_28 (by decide) ?_
        refine z_aload_n C 0 rfl d_E_drawn_31 rfl ?_
        refine z_getF2 C 0 (by decide) 2 (by decide) rfl 13 0 rfl (13) rfl zp_0 zk_0 zfl_0_19 d_E_drawn_32 ?_
        refine z_getI C 5 (by decide) 5 (by decide) rfl zo_13 zk_13 zfl_0_248 d_E_drawn_35 ?_
        refine z_iload_n C 1 rfl d_E_drawn_38 rfl ?_
        rcases zite h with ⟨c6, h⟩ | ⟨c6, h⟩
        · refine z_icmp_nef C 46 c6 d_E_drawn_39 (by decide) ?_
          refine z_iconst C (1 : Int32) (by decide) d_E_drawn_42 ?_
          refine z_goto C 47 d_E_drawn_43 (by decide) ?_
          cases h
          exact z_iret C .int hret rfl ⟨Nat.zero_le _, Nat.zero_le _⟩ d_E_drawn_47
        · refine z_icmp_net C 46 c6 d_E_drawn_39 (by decide) ?_
          refine z_iconst C (0 : Int32) (by decide) d_E_drawn_46 ?_
          cases h
          exact z_iret C .int hret rfl ⟨Nat.zero_le _, Nat.zero_le _⟩ d_E_drawn_47
      · refine z_icmp_net C 48 c5 d_E_drawn_28 (by decide) ?_
        refine z_iconst C (-1 : Int32) (by decide) d_E_drawn_48 ?_
        cases h
        exact z_iret C .int hret rfl ⟨Nat.zero_le _, Nat.zero_le _⟩ d_E_drawn_49
def f_E_image (fu : Nat) (a1 : Int32) (S : zSt) : Option (Int32 × zSt) := if a1 < 0 then zb2 (f_E_refused (-1 : Int32) S) (fun r3 S4 => some (r3, S4)) else if a1 < (2 : Int32) then zgd (0 ≤ a1 ∧ a1.toNatClampNeg < 2) (zb1 (zR S 19 a1.toNatClampNeg) (fun q7 => zgd (zK q7 = 5 ∧ q7 < zN0) (zb1 (f_Ps_copyFrom fu q7 1 S) (fun S11 => zgd (0 ≤ a1 ∧ a1.toNatClampNeg < 2) (zb1 (zR S11 19 a1.toNatClampNeg) (fun q13 => zgd (zK q13 = 5 ∧ q13 < zN0) (zb2 (f_E_granted (0 : Int32) (zwI S11 q13 15 (1 : Int32))) (fun r17 S18 => some (r17, S18))))))))) else zb2 (f_E_refused (-1 : Int32) S) (fun r20 S21 => some (r20, S21))
set_option maxRecDepth 100000 in
set_option maxHeartbeats 4000000 in
theorem m_E_image (l : Launch) {fu : Nat} {a1 : Int32} {S : zSt} {r : Int32} {S1 : zSt} (h : f_E_image fu a1 S = some (r, S1)) : zPM l y_E_image b_E_image 2 (some .int) rm_E_image true true [zr (some 0), zi a1] S (some (zi r)) S1 := by
  refine zPM_of (by decide) (Nat.le_of_ble_eq_true rfl) (fun p e s m args below meth c G C hret hname => ?_)
  unfold f_E_image at h
  refine (?_ : zJ p l e rm_E_image s m args below meth c G true 2 0 0 (zQm below G args s rm_E_image true (some (zi r)) S1) S 0 [(0, zr (some 0)), (1, zi a1)] [])
  refine z_iload_n C 1 rfl d_E_image_0 rfl ?_
  rcases zite h with ⟨c1, h⟩ | ⟨c1, h⟩
  · refine z_if_ltt C 9 c1 d_E_image_1 (by decide) ?_
    refine z_aload_n C 0 rfl d_E_image_9 rfl ?_
    refine z_iconst C (-1 : Int32) (by decide) d_E_image_10 ?_
    obtain ⟨r3, S4, h2, h⟩ := zb2_some h
    refine z_cV C 0 (by decide) (m_E_refused l h2) mf_E_refused lk_0_109 in_E_refused se_E_refused rfl zo_0 zk_0 ⟨rfl, rfl⟩ ⟨by decide, by decide⟩ ⟨Nat.zero_le _, Nat.zero_le _⟩ rfl _ [] rfl (Nat.le_of_ble_eq_true rfl) d_E_image_11 ?_
    cases h
    exact z_iret C .int hret rfl ⟨Nat.zero_le _, Nat.zero_le _⟩ d_E_image_14
  · refine z_if_ltf C 9 c1 d_E_image_1 (by decide) ?_
    refine z_iload_n C 1 rfl d_E_image_4 rfl ?_
    refine z_iconst C (2 : Int32) (by decide) d_E_image_5 ?_
    rcases zite h with ⟨c5, h⟩ | ⟨c5, h⟩
    · refine z_icmp_ltt C 15 c5 d_E_image_6 (by decide) ?_
      refine z_aload_n C 0 rfl d_E_image_15 rfl ?_
      refine z_getF2 C 0 (by decide) 3 (by decide) rfl 19 2 rfl (19) rfl zp_0 zk_0 zfl_0_22 d_E_image_16 ?_
      refine z_iload_n C 1 rfl d_E_image_19 rfl ?_
      refine z_fact (fun hSR => ?_)
      obtain ⟨g6, h⟩ := zgd_some h
      refine z_paloadS C zo_19 zk_19 (za_19 hSR) g6 d_E_image_20 ?_
      obtain ⟨q7, e8, h⟩ := zb1_some h
      obtain ⟨g9, h⟩ := zgd_some h
      rw [e8]
      refine z_aload_n C 0 rfl d_E_image_21 rfl ?_
      refine z_getF2 C 0 (by decide) 0 (by decide) rfl 1 0 rfl (1) rfl zp_0 zk_0 zfl_0_12 d_E_image_22 ?_
      obtain ⟨S11, h10, h⟩ := zb1_some h
      refine z_cV C 5 (by decide) (m_Ps_copyFrom l g9.1 g9.2 zk_1 (Nat.le_of_ble_eq_true rfl) h10) mf_Ps_copyFrom lk_0_200 in_Ps_copyFrom se_Ps_copyFrom rfl (Or.inl ⟨rfl, g9.2⟩) g9.1 ⟨rfl, rfl⟩ ⟨by decide, by decide⟩ ⟨Nat.zero_le _, Nat.zero_le _⟩ rfl _ [] rfl (Nat.le_of_ble_eq_true rfl) d_E_image_25 ?_
      refine z_aload_n C 0 rfl d_E_image_28 rfl ?_
      refine z_getF2 C 0 (by decide) 3 (by decide) rfl 19 2 rfl (19) rfl zp_0 zk_0 zfl_0_22 d_E_image_29 ?_
      refine z_iload_n C 1 rfl d_E_image_32 rfl ?_
      refine z_fact (fun hSR => ?_)
      obtain ⟨g12, h⟩ := zgd_some h
      refine z_paloadS C zo_19 zk_19 (za_19 hSR) g12 d_E_image_33 ?_
      obtain ⟨q13, e14, h⟩ := zb1_some h
      obtain ⟨g15, h⟩ := zgd_some h
      rw [e14]
      refine z_iconst C (1 : Int32) (by decide) d_E_image_34 ?_
      refine z_putI C 5 (by decide) 15 (by decide) rfl (Or.inr (Or.inr rfl)) (Or.inl ⟨rfl, g15.2⟩) g15.1 zfl_0_340 (Or.inl rfl) d_E_image_35 ?_
      refine z_aload_n C 0 rfl d_E_image_38 rfl ?_
      refine z_iconst C (0 : Int32) (by decide) d_E_image_39 ?_
      obtain ⟨r17, S18, h16, h⟩ := zb2_some h
      refine z_cV C 0 (by decide) (m_E_granted l h16) mf_E_granted lk_0_123 in_E_granted se_E_granted rfl zo_0 zk_0 ⟨rfl, rfl⟩ ⟨by decide, by decide⟩ ⟨Nat.zero_le _, Nat.zero_le _⟩ rfl _ [] rfl (Nat.le_of_ble_eq_true rfl) d_E_image_40 ?_
      cases h
      exact z_iret C .int hret rfl ⟨Nat.zero_le _, Nat.zero_le _⟩ d_E_image_43
    · refine z_icmp_ltf C 15 c5 d_E_image_6 (by decide) ?_
      refine z_aload_n C 0 rfl d_E_image_9 rfl ?_
      refine z_iconst C (-1 : Int32) (by decide) d_E_image_10 ?_
      obtain ⟨r20, S21, h19, h⟩ := zb2_some h
      refine z_cV C 0 (by decide) (m_E_refused l h19) mf_E_refused lk_0_109 in_E_refused se_E_refused rfl zo_0 zk_0 ⟨rfl, rfl⟩ ⟨by decide, by decide⟩ ⟨Nat.zero_le _, Nat.zero_le _⟩ rfl _ [] rfl (Nat.le_of_ble_eq_true rfl) d_E_image_11 ?_
      cases h
      exact z_iret C .int hret rfl ⟨Nat.zero_le _, Nat.zero_le _⟩ d_E_image_14
def f_E_back (fu : Nat) (a1 : Int32) (S : zSt) : Option (Int32 × zSt) := if a1 < 0 then zb2 (f_E_refused (-1 : Int32) S) (fun r3 S4 => some (r3, S4)) else if a1 < (2 : Int32) then zgd (0 ≤ a1 ∧ a1.toNatClampNeg < 2) (zb1 (zR S 19 a1.toNatClampNeg) (fun q7 => zgd (zK q7 = 5 ∧ q7 < zN0) (if (zI S q7 15) = 0 then zb2 (f_E_refused (-2 : Int32) S) (fun r23 S24 => some (r23, S24)) else zgd (0 ≤ a1 ∧ a1.toNatClampNeg < 2) (zb1 (zR S 19 a1.toNatClampNeg) (fun q12 => zgd (zK q12 = 5 ∧ q12 < zN0) (zb1 (f_Ps_copyFrom fu 1 q12 S) (fun S16 => zb1 (f_Jo_clear 32 S16) (fun S18 => zb2 (f_E_granted (0 : Int32) S18) (fun r20 S21 => some (r20, S21)))))))))) else zb2 (f_E_refused (-1 : Int32) S) (fun r26 S27 => some (r26, S27))
set_option maxRecDepth 100000 in
set_option maxHeartbeats 4000000 in
theorem m_E_back (l : Launch) {fu : Nat} {a1 : Int32} {S : zSt} {r : Int32} {S1 : zSt} (h : f_E_back fu a1 S = some (r, S1)) : zPM l y_E_back b_E_back 2 (some .int) rm_E_back true true [zr (some 0), zi a1] S (some (zi r)) S1 := by
  refine zPM_of (by decide) (Nat.le_of_ble_eq_true rfl) (fun p e s m args below meth c G C hret hname => ?_)
  unfold f_E_back at h
  refine (?_ : zJ p l e rm_E_back s m args below meth c G true 2 0 0 (zQm below G args s rm_E_back true (some (zi r)) S1) S 0 [(0, zr (some 0)), (1, zi a1)] [])
  refine z_iload_n C 1 rfl d_E_back_0 rfl ?_
  rcases zite h with ⟨c1, h⟩ | ⟨c1, h⟩
  · refine z_if_ltt C 9 c1 d_E_back_1 (by decide) ?_
    refine z_aload_n C 0 rfl d_E_back_9 rfl ?_
    refine z_iconst C (-1 : Int32) (by decide) d_E_back_10 ?_
    obtain ⟨r3, S4, h2, h⟩ := zb2_some h
    refine z_cV C 0 (by decide) (m_E_refused l h2) mf_E_refused lk_0_109 in_E_refused se_E_refused rfl zo_0 zk_0 ⟨rfl, rfl⟩ ⟨by decide, by decide⟩ ⟨Nat.zero_le _, Nat.zero_le _⟩ rfl _ [] rfl (Nat.le_of_ble_eq_true rfl) d_E_back_11 ?_
    cases h
    exact z_iret C .int hret rfl ⟨Nat.zero_le _, Nat.zero_le _⟩ d_E_back_14
  · refine z_if_ltf C 9 c1 d_E_back_1 (by decide) ?_
    refine z_iload_n C 1 rfl d_E_back_4 rfl ?_
    refine z_iconst C (2 : Int32) (by decide) d_E_back_5 ?_
    rcases zite h with ⟨c5, h⟩ | ⟨c5, h⟩
    · refine z_icmp_ltt C 15 c5 d_E_back_6 (by decide) ?_
      refine z_aload_n C 0 rfl d_E_back_15 rfl ?_
      refine z_getF2 C 0 (by decide) 3 (by decide) rfl 19 2 rfl (19) rfl zp_0 zk_0 zfl_0_22 d_E_back_16 ?_
      refine z_iload_n C 1 rfl d_E_back_19 rfl ?_
      refine z_fact (fun hSR => ?_)
      obtain ⟨g6, h⟩ := zgd_some h
      refine z_paloadS C zo_19 zk_19 (za_19 hSR) g6 d_E_back_20 ?_
      obtain ⟨q7, e8, h⟩ := zb1_some h
      obtain ⟨g9, h⟩ := zgd_some h
      rw [e8]
      refine z_getI C 5 (by decide) 15 (by decide) rfl (Or.inl ⟨rfl, g9.2⟩) g9.1 zfl_0_340 d_E_back_21 ?_
      rcases zite h with ⟨c10, h⟩ | ⟨c10, h⟩
      · refine z_if_nef C 34 c10 d_E_back_24 (by decide) ?_
        refine z_aload_n C 0 rfl d_E_back_27 rfl ?_
        refine z_bipush C (-2 : Int32) (by decide) d_E_back_28 ?_
        obtain ⟨r23, S24, h22, h⟩ := zb2_some h
        refine z_cV C 0 (by decide) (m_E_refused l h22) mf_E_refused lk_0_109 in_E_refused se_E_refused rfl zo_0 zk_0 ⟨rfl, rfl⟩ ⟨by decide, by decide⟩ ⟨Nat.zero_le _, Nat.zero_le _⟩ rfl _ [] rfl (Nat.le_of_ble_eq_true rfl) d_E_back_30 ?_
        cases h
        exact z_iret C .int hret rfl ⟨Nat.zero_le _, Nat.zero_le _⟩ d_E_back_33
      · refine z_if_net C 34 c10 d_E_back_24 (by decide) ?_
        refine z_aload_n C 0 rfl d_E_back_34 rfl ?_
        refine z_getF2 C 0 (by decide) 0 (by decide) rfl 1 0 rfl (1) rfl zp_0 zk_0 zfl_0_12 d_E_back_35 ?_
        refine z_aload_n C 0 rfl d_E_back_38 rfl ?_
        refine z_getF2 C 0 (by decide) 3 (by decide) rfl 19 2 rfl (19) rfl zp_0 zk_0 zfl_0_22 d_E_back_39 ?_
        refine z_iload_n C 1 rfl d_E_back_42 rfl ?_
        refine z_fact (fun hSR => ?_)
        obtain ⟨g11, h⟩ := zgd_some h
        refine z_paloadS C zo_19 zk_19 (za_19 hSR) g11 d_E_back_43 ?_
        obtain ⟨q12, e13, h⟩ := zb1_some h
        obtain ⟨g14, h⟩ := zgd_some h
        rw [e13]
        obtain ⟨S16, h15, h⟩ := zb1_some h
        refine z_cV C 5 (by decide) (m_Ps_copyFrom l zk_1 (Nat.le_of_ble_eq_true rfl) g14.1 g14.2 h15) mf_Ps_copyFrom lk_0_200 in_Ps_copyFrom se_Ps_copyFrom rfl zo_1 zk_1 ⟨rfl, rfl⟩ ⟨by decide, by decide⟩ ⟨Nat.zero_le _, Nat.zero_le _⟩ rfl _ [] rfl (Nat.le_of_ble_eq_true rfl) d_E_back_44 ?_
        refine z_aload_n C 0 rfl d_E_back_47 rfl ?_
        refine z_getF2 C 0 (by decide) 4 (by decide) rfl 32 0 rfl (32) rfl zp_0 zk_0 zfl_0_29 d_E_back_48 ?_
        obtain ⟨S18, h17, h⟩ := zb1_some h
        refine z_cV C 2 (by decide) (m_Jo_clear l zk_32 (Nat.le_of_ble_eq_true rfl) h17) mf_Jo_clear lk_0_116 in_Jo_clear se_Jo_clear rfl zo_32 zk_32 ⟨rfl, rfl⟩ ⟨by decide, by decide⟩ ⟨Nat.zero_le _, Nat.zero_le _⟩ rfl _ [] rfl (Nat.le_of_ble_eq_true rfl) d_E_back_51 ?_
        refine z_aload_n C 0 rfl d_E_back_54 rfl ?_
        refine z_iconst C (0 : Int32) (by decide) d_E_back_55 ?_
        obtain ⟨r20, S21, h19, h⟩ := zb2_some h
        refine z_cV C 0 (by decide) (m_E_granted l h19) mf_E_granted lk_0_123 in_E_granted se_E_granted rfl zo_0 zk_0 ⟨rfl, rfl⟩ ⟨by decide, by decide⟩ ⟨Nat.zero_le _, Nat.zero_le _⟩ rfl _ [] rfl (Nat.le_of_ble_eq_true rfl) d_E_back_56 ?_
        cases h
        exact z_iret C .int hret rfl ⟨Nat.zero_le _, Nat.zero_le _⟩ d_E_back_59
    · refine z_icmp_ltf C 15 c5 d_E_back_6 (by decide) ?_
      refine z_aload_n C 0 rfl d_E_back_9 rfl ?_
      refine z_iconst C (-1 : Int32) (by decide) d_E_back_10 ?_
      obtain ⟨r26, S27, h25, h⟩ := zb2_some h
      refine z_cV C 0 (by decide) (m_E_refused l h25) mf_E_refused lk_0_109 in_E_refused se_E_refused rfl zo_0 zk_0 ⟨rfl, rfl⟩ ⟨by decide, by decide⟩ ⟨Nat.zero_le _, Nat.zero_le _⟩ rfl _ [] rfl (Nat.le_of_ble_eq_true rfl) d_E_back_11 ?_
      cases h
      exact z_iret C .int hret rfl ⟨Nat.zero_le _, Nat.zero_le _⟩ d_E_back_14
def f_Ps_channels_4 (fu : Nat) (a0 : Nat) : Nat → Int32 → Int32 → zSt → Option Int32
  | 0, _, _, _ => none
  | n + 1, a1, a2, S => if (36 : Int32) ≤ a2 then some a1 else zgd (0 ≤ a2 ∧ a2.toNatClampNeg < 36) (if (zI S (a0 + 2) a2.toNatClampNeg) ≤ 0 then f_Ps_channels_4 fu a0 n a1 (a2 + (1 : Int32)) S else f_Ps_channels_4 fu a0 n (a1 + (1 : Int32)) (a2 + (1 : Int32)) S)
def f_Ps_channels (fu : Nat) (a0 : Nat) (S : zSt) : Option Int32 := f_Ps_channels_4 fu a0 fu (0 : Int32) (0 : Int32) S
set_option maxRecDepth 100000 in
set_option maxHeartbeats 4000000 in
theorem c_Ps_channels_4 {p : Program} {l : Launch} {e : Env} {s : State} {m : MethodId} {args : Array Value} {below : List Frame} {meth : Method} {c : Code} {G : zG} (C : zC p s m args meth c G b_Ps_channels 3 y_Ps_channels.cls) (hret : meth.sig.returnType = (some .int)) {fu : Nat} {a0 : Nat} {r : Int32} (ha0 : zK a0 = 5) (ga0 : a0 < zN0) : ∀ (n : Nat) (a1 : Int32) (a2 : Int32) (S : zSt) , f_Ps_channels_4 fu a0 n a1 a2 S = some r → zJ p l e rm_Ps_channels s m args below meth c G true 3 0 0 (zQm below G args s rm_Ps_channels true (some (zi r)) S) S 4 [(0, zr (some a0)), (1, zi a1), (2, zi a2)] [] := by
  intro n
  induction n with
  | zero =>
    intro a1 a2 S h
    cases h
  | succ n ih =>
    intro a1 a2 S h
    rw [f_Ps_channels_4] at h
    refine z_iload_n C 2 rfl d_Ps_channels_4 rfl ?_
    refine z_aload_n C 0 rfl d_Ps_channels_5 rfl ?_
    refine z_getF2 C 5 (by decide) 2 (by decide) rfl 2 36 rfl (a0 + 2) rfl (Or.inl ga0) ha0 zfl_5_19 d_Ps_channels_6 ?_
    refine z_fact (fun hSR => ?_)
    refine z_alen50S C (36 : Int32) (by decide) (Or.inl ⟨rfl, (zko_5_2 ha0 ga0).1⟩) (zko_5_2 ha0 ga0).2 (zsa_5_2 hSR ha0 ga0) d_Ps_channels_9 ?_
    rcases zite h with ⟨c1, h⟩ | ⟨c1, h⟩
    · refine z_icmp_get C 31 c1 d_Ps_channels_10 (by decide) ?_
      refine z_iload_n C 1 rfl d_Ps_channels_31 rfl ?_
      cases h
      exact z_iret C .int hret rfl ⟨Nat.zero_le _, Nat.zero_le _⟩ d_Ps_channels_32
    · refine z_icmp_gef C 31 c1 d_Ps_channels_10 (by decide) ?_
      refine z_aload_n C 0 rfl d_Ps_channels_13 rfl ?_
      refine z_getF2 C 5 (by decide) 2 (by decide) rfl 2 36 rfl (a0 + 2) rfl (Or.inl ga0) ha0 zfl_5_19 d_Ps_channels_14 ?_
      refine z_iload_n C 2 rfl d_Ps_channels_17 rfl ?_
      refine z_fact (fun hSR => ?_)
      obtain ⟨g2, h⟩ := zgd_some h
      refine z_ialoadS C (Or.inl ⟨rfl, (zko_5_2 ha0 ga0).1⟩) (zko_5_2 ha0 ga0).2 (zsa_5_2 hSR ha0 ga0) g2 d_Ps_channels_18 ?_
      rcases zite h with ⟨c3, h⟩ | ⟨c3, h⟩
      · refine z_if_let C 25 c3 d_Ps_channels_19 (by decide) ?_
        refine z_iinc C 2 (a2 + (1 : Int32)) [(2, zi (a2 + (1 : Int32))), (0, zr (some a0)), (1, zi a1)] rfl d_Ps_channels_25 (by first | rfl | decide) (by decide) rfl ?_
        refine z_goto C 4 d_Ps_channels_28 (by decide) ?_
        refine zq_lsub [1, 2, 0] [(0, zr (some a0)), (1, zi a1), (2, zi (a2 + (1 : Int32)))] rfl ?_
        exact ih a1 (a2 + (1 : Int32)) S h
      · refine z_if_lef C 25 c3 d_Ps_channels_19 (by decide) ?_
        refine z_iinc C 1 (a1 + (1 : Int32)) [(1, zi (a1 + (1 : Int32))), (0, zr (some a0)), (2, zi a2)] rfl d_Ps_channels_22 (by first | rfl | decide) (by decide) rfl ?_
        refine z_iinc C 2 (a2 + (1 : Int32)) [(2, zi (a2 + (1 : Int32))), (1, zi (a1 + (1 : Int32))), (0, zr (some a0))] rfl d_Ps_channels_25 (by first | rfl | decide) (by decide) rfl ?_
        refine z_goto C 4 d_Ps_channels_28 (by decide) ?_
        refine zq_lsub [2, 1, 0] [(0, zr (some a0)), (1, zi (a1 + (1 : Int32))), (2, zi (a2 + (1 : Int32)))] rfl ?_
        exact ih (a1 + (1 : Int32)) (a2 + (1 : Int32)) S h
set_option maxRecDepth 100000 in
set_option maxHeartbeats 4000000 in
theorem m_Ps_channels (l : Launch) {fu : Nat} {a0 : Nat} {S : zSt} {r : Int32} (ha0 : zK a0 = 5) (ga0 : a0 < zN0) (h : f_Ps_channels fu a0  S = some r) : zPM l y_Ps_channels b_Ps_channels 3 (some .int) rm_Ps_channels true true [zr (some a0)] S (some (zi r)) S := by
  refine zPM_of (by decide) (Nat.le_of_ble_eq_true rfl) (fun p e s m args below meth c G C hret hname => ?_)
  unfold f_Ps_channels at h
  refine (?_ : zJ p l e rm_Ps_channels s m args below meth c G true 3 0 0 (zQm below G args s rm_Ps_channels true (some (zi r)) S) S 0 [(0, zr (some a0))] [])
  refine z_iconst C (0 : Int32) (by decide) d_Ps_channels_0 ?_
  refine z_istore_n C [(1, zi (0 : Int32)), (0, zr (some a0))] d_Ps_channels_1 rfl (by decide) rfl ?_
  refine z_iconst C (0 : Int32) (by decide) d_Ps_channels_2 ?_
  refine z_istore_n C [(2, zi (0 : Int32)), (1, zi (0 : Int32)), (0, zr (some a0))] d_Ps_channels_3 rfl (by decide) rfl ?_
  refine zq_lsub [2, 1, 0] [(0, zr (some a0)), (1, zi (0 : Int32)), (2, zi (0 : Int32))] rfl ?_
  exact c_Ps_channels_4 C hret ha0 ga0 fu  (0 : Int32) (0 : Int32) S h
def f_E_refusalsBy (a1 : Int32) (S : zSt) : Option Int32 := if ((-a1) - (1 : Int32)) < 0 then some (0 : Int32) else if (6 : Int32) ≤ ((-a1) - (1 : Int32)) then some (0 : Int32) else zgd (0 ≤ ((-a1) - (1 : Int32)) ∧ ((-a1) - (1 : Int32)).toNatClampNeg < 6) (some (zI S 71 ((-a1) - (1 : Int32)).toNatClampNeg))
set_option maxRecDepth 100000 in
set_option maxHeartbeats 4000000 in
theorem m_E_refusalsBy (l : Launch) {a1 : Int32} {S : zSt} {r : Int32} (h : f_E_refusalsBy a1 S = some r) : zPM l y_E_refusalsBy b_E_refusalsBy 3 (some .int) rm_E_refusalsBy true true [zr (some 0), zi a1] S (some (zi r)) S := by
  refine zPM_of (by decide) (Nat.le_of_ble_eq_true rfl) (fun p e s m args below meth c G C hret hname => ?_)
  unfold f_E_refusalsBy at h
  refine (?_ : zJ p l e rm_E_refusalsBy s m args below meth c G true 3 0 0 (zQm below G args s rm_E_refusalsBy true (some (zi r)) S) S 0 [(0, zr (some 0)), (1, zi a1)] [])
  refine z_iload_n C 1 rfl d_E_refusalsBy_0 rfl ?_
  refine z_ineg C d_E_refusalsBy_1 ?_
  refine z_iconst C (1 : Int32) (by decide) d_E_refusalsBy_2 ?_
  refine z_isub C d_E_refusalsBy_3 ?_
  refine z_istore_n C [(2, zi ((-a1) - (1 : Int32))), (0, zr (some 0)), (1, zi a1)] d_E_refusalsBy_4 rfl (by decide) rfl ?_
  refine z_iload_n C 0 rfl d_E_refusalsBy_5 rfl ?_
  rcases zite h with ⟨c1, h⟩ | ⟨c1, h⟩
  · refine z_if_ltt C 27 c1 d_E_refusalsBy_6 (by decide) ?_
    refine z_iconst C (0 : Int32) (by decide) d_E_refusalsBy_27 ?_
    cases h
    exact z_iret C .int hret rfl ⟨Nat.zero_le _, Nat.zero_le _⟩ d_E_refusalsBy_28
  · refine z_if_ltf C 27 c1 d_E_refusalsBy_6 (by decide) ?_
    refine z_iload_n C 0 rfl d_E_refusalsBy_9 rfl ?_
    refine z_aload_n C 1 rfl d_E_refusalsBy_10 rfl ?_
    refine z_getF2 C 0 (by decide) 15 (by decide) rfl 71 6 rfl (71) rfl zp_0 zk_0 zfl_0_93 d_E_refusalsBy_11 ?_
    refine z_fact (fun hSR => ?_)
    refine z_alen50S C (6 : Int32) (by decide) zo_71 zk_71 (za_71 hSR) d_E_refusalsBy_14 ?_
    rcases zite h with ⟨c2, h⟩ | ⟨c2, h⟩
    · refine z_icmp_get C 27 c2 d_E_refusalsBy_15 (by decide) ?_
      refine z_iconst C (0 : Int32) (by decide) d_E_refusalsBy_27 ?_
      cases h
      exact z_iret C .int hret rfl ⟨Nat.zero_le _, Nat.zero_le _⟩ d_E_refusalsBy_28
    · refine z_icmp_gef C 27 c2 d_E_refusalsBy_15 (by decide) ?_
      refine z_aload_n C 1 rfl d_E_refusalsBy_18 rfl ?_
      refine z_getF2 C 0 (by decide) 15 (by decide) rfl 71 6 rfl (71) rfl zp_0 zk_0 zfl_0_93 d_E_refusalsBy_19 ?_
      refine z_iload_n C 0 rfl d_E_refusalsBy_22 rfl ?_
      refine z_fact (fun hSR => ?_)
      obtain ⟨g3, h⟩ := zgd_some h
      refine z_ialoadS C zo_71 zk_71 (za_71 hSR) g3 d_E_refusalsBy_23 ?_
      refine z_goto C 28 d_E_refusalsBy_24 (by decide) ?_
      cases h
      exact z_iret C .int hret rfl ⟨Nat.zero_le _, Nat.zero_le _⟩ d_E_refusalsBy_28
def f_E_count (fu : Nat) (a1 : Int32) (S : zSt) : Option Int32 := if a1 = (0 : Int32) then some (zI S 1 0) else if a1 = (1 : Int32) then some (zI S 1 5) else if a1 = (2 : Int32) then zb1 (f_Ps_channels fu 1 S) (fun r5 => some r5) else if a1 = (3 : Int32) then zb1 (f_Lg_bitCount (zL S 1 4)) (fun r8 => some r8) else if a1 = (4 : Int32) then some (zI S 1 9) else if a1 = (5 : Int32) then some (zI S 1 12) else if a1 = (6 : Int32) then some (zI S 32 0) else if a1 = (7 : Int32) then some (zI S 44 1) else if a1 = (8 : Int32) then zb1 (f_E_refusalsBy (-1 : Int32) S) (fun r15 => some r15) else if a1 = (9 : Int32) then zb1 (f_E_refusalsBy (-2 : Int32) S) (fun r18 => some r18) else if a1 = (10 : Int32) then zb1 (f_E_refusalsBy (-3 : Int32) S) (fun r21 => some r21) else if a1 = (11 : Int32) then zb1 (f_E_refusalsBy (-5 : Int32) S) (fun r24 => some r24) else if a1 = (12 : Int32) then zb1 (f_E_refusalsBy (-6 : Int32) S) (fun r27 => some r27) else if a1 = (13 : Int32) then some (zI S 1 14) else if a1 = (14 : Int32) then zb1 (f_Ps_term 1 (a1 - (14 : Int32)) S) (fun r31 => some r31) else if a1 = (15 : Int32) then zb1 (f_Ps_term 1 (a1 - (14 : Int32)) S) (fun r34 => some r34) else if a1 = (16 : Int32) then zb1 (f_Ps_term 1 (a1 - (14 : Int32)) S) (fun r37 => some r37) else some (-1 : Int32)
set_option maxRecDepth 100000 in
set_option maxHeartbeats 4000000 in
theorem m_E_count (l : Launch) {fu : Nat} {a1 : Int32} {S : zSt} {r : Int32} (h : f_E_count fu a1 S = some r) : zPM l y_E_count b_E_count 2 (some .int) rm_E_count true true [zr (some 0), zi a1] S (some (zi r)) S := by
  refine zPM_of (by decide) (Nat.le_of_ble_eq_true rfl) (fun p e s m args below meth c G C hret hname => ?_)
  unfold f_E_count at h
  refine (?_ : zJ p l e rm_E_count s m args below meth c G true 2 0 0 (zQm below G args s rm_E_count true (some (zi r)) S) S 0 [(0, zr (some 0)), (1, zi a1)] [])
  refine z_iload_n C 1 rfl d_E_count_0 rfl ?_
  rcases zite h with ⟨c1, h⟩ | ⟨c1, h⟩
  · refine z_tab C (0 : Int32) 83 84 c1 (by decide) (by decide) (by decide) (by decide) d_E_count_1 ?_
    refine z_aload_n C 0 rfl d_E_count_84 rfl ?_
    refine z_getF2 C 0 (by decide) 0 (by decide) rfl 1 0 rfl (1) rfl zp_0 zk_0 zfl_0_12 d_E_count_85 ?_
    refine z_getI C 5 (by decide) 0 (by decide) rfl zo_1 zk_1 zfl_0_113 d_E_count_88 ?_
    cases h
    exact z_iret C .int hret rfl ⟨Nat.zero_le _, Nat.zero_le _⟩ d_E_count_91
  · rcases zite h with ⟨c2, h⟩ | ⟨c2, h⟩
    · refine z_tab C (1 : Int32) 91 92 c2 (by decide) (by decide) (by decide) (by decide) d_E_count_1 ?_
      refine z_aload_n C 0 rfl d_E_count_92 rfl ?_
      refine z_getF2 C 0 (by decide) 0 (by decide) rfl 1 0 rfl (1) rfl zp_0 zk_0 zfl_0_12 d_E_count_93 ?_
      refine z_getI C 5 (by decide) 5 (by decide) rfl zo_1 zk_1 zfl_0_248 d_E_count_96 ?_
      cases h
      exact z_iret C .int hret rfl ⟨Nat.zero_le _, Nat.zero_le _⟩ d_E_count_99
    · rcases zite h with ⟨c3, h⟩ | ⟨c3, h⟩
      · refine z_tab C (2 : Int32) 99 100 c3 (by decide) (by decide) (by decide) (by decide) d_E_count_1 ?_
        refine z_aload_n C 0 rfl d_E_count_100 rfl ?_
        refine z_getF2 C 0 (by decide) 0 (by decide) rfl 1 0 rfl (1) rfl zp_0 zk_0 zfl_0_12 d_E_count_101 ?_
        obtain ⟨r5, h4, h⟩ := zb1_some h
        refine z_cV C 5 (by decide) (m_Ps_channels l zk_1 (Nat.le_of_ble_eq_true rfl) h4) mf_Ps_channels lk_0_344 in_Ps_channels se_Ps_channels rfl zo_1 zk_1 ⟨rfl, rfl⟩ ⟨by decide, by decide⟩ ⟨Nat.zero_le _, Nat.zero_le _⟩ rfl _ [] rfl (Nat.le_of_ble_eq_true rfl) d_E_count_104 ?_
        cases h
        exact z_iret C .int hret rfl ⟨Nat.zero_le _, Nat.zero_le _⟩ d_E_count_107
      · rcases zite h with ⟨c6, h⟩ | ⟨c6, h⟩
        · refine z_tab C (3 : Int32) 107 108 c6 (by decide) (by decide) (by decide) (by decide) d_E_count_1 ?_
          refine z_aload_n C 0 rfl d_E_count_108 rfl ?_
          refine z_getF2 C 0 (by decide) 0 (by decide) rfl 1 0 rfl (1) rfl zp_0 zk_0 zfl_0_12 d_E_count_109 ?_
          refine z_getL C 5 (by decide) 4 (by decide) rfl zo_1 zk_1 zfl_0_347 d_E_count_112 ?_
          obtain ⟨r8, h7, h⟩ := zb1_some h
          refine z_cS C (m_Lg_bitCount l h7) mf_Lg_bitCount lk_0_351 st_Lg_bitCount ⟨rfl, rfl⟩ ⟨by decide, by decide⟩ ⟨Nat.zero_le _, Nat.zero_le _⟩ rfl _ [] rfl (Nat.le_of_ble_eq_true rfl) d_E_count_115 ?_
          cases h
          exact z_iret C .int hret rfl ⟨Nat.zero_le _, Nat.zero_le _⟩ d_E_count_118
        · rcases zite h with ⟨c9, h⟩ | ⟨c9, h⟩
          · refine z_tab C (4 : Int32) 118 119 c9 (by decide) (by decide) (by decide) (by decide) d_E_count_1 ?_
            refine z_aload_n C 0 rfl d_E_count_119 rfl ?_
            refine z_getF2 C 0 (by decide) 0 (by decide) rfl 1 0 rfl (1) rfl zp_0 zk_0 zfl_0_12 d_E_count_120 ?_
            refine z_getI C 5 (by decide) 9 (by decide) rfl zo_1 zk_1 zfl_0_283 d_E_count_123 ?_
            cases h
            exact z_iret C .int hret rfl ⟨Nat.zero_le _, Nat.zero_le _⟩ d_E_count_126
          · rcases zite h with ⟨c10, h⟩ | ⟨c10, h⟩
            · refine z_tab C (5 : Int32) 126 127 c10 (by decide) (by decide) (by decide) (by decide) d_E_count_1 ?_
              refine z_aload_n C 0 rfl d_E_count_127 rfl ?_
              refine z_getF2 C 0 (by decide) 0 (by decide) rfl 1 0 rfl (1) rfl zp_0 zk_0 zfl_0_12 d_E_count_128 ?_
              refine z_getI C 5 (by decide) 12 (by decide) rfl zo_1 zk_1 zfl_0_180 d_E_count_131 ?_
              cases h
              exact z_iret C .int hret rfl ⟨Nat.zero_le _, Nat.zero_le _⟩ d_E_count_134
            · rcases zite h with ⟨c11, h⟩ | ⟨c11, h⟩
              · refine z_tab C (6 : Int32) 134 135 c11 (by decide) (by decide) (by decide) (by decide) d_E_count_1 ?_
                refine z_aload_n C 0 rfl d_E_count_135 rfl ?_
                refine z_getF2 C 0 (by decide) 4 (by decide) rfl 32 0 rfl (32) rfl zp_0 zk_0 zfl_0_29 d_E_count_136 ?_
                refine z_getI C 2 (by decide) 0 (by decide) rfl zo_32 zk_32 zfl_0_357 d_E_count_139 ?_
                cases h
                exact z_iret C .int hret rfl ⟨Nat.zero_le _, Nat.zero_le _⟩ d_E_count_142
              · rcases zite h with ⟨c12, h⟩ | ⟨c12, h⟩
                · refine z_tab C (7 : Int32) 142 143 c12 (by decide) (by decide) (by decide) (by decide) d_E_count_1 ?_
                  refine z_aload_n C 0 rfl d_E_count_143 rfl ?_
                  refine z_getF2 C 0 (by decide) 6 (by decide) rfl 44 0 rfl (44) rfl zp_0 zk_0 zfl_0_39 d_E_count_144 ?_
                  refine z_getI C 9 (by decide) 1 (by decide) rfl zo_44 zk_44 zfl_0_170 d_E_count_147 ?_
                  cases h
                  exact z_iret C .int hret rfl ⟨Nat.zero_le _, Nat.zero_le _⟩ d_E_count_150
                · rcases zite h with ⟨c13, h⟩ | ⟨c13, h⟩
                  · refine z_tab C (8 : Int32) 150 151 c13 (by decide) (by decide) (by decide) (by decide) d_E_count_1 ?_
                    refine z_aload_n C 0 rfl d_E_count_151 rfl ?_
                    refine z_iconst C (-1 : Int32) (by decide) d_E_count_152 ?_
                    obtain ⟨r15, h14, h⟩ := zb1_some h
                    refine z_cV C 0 (by decide) (m_E_refusalsBy l h14) mf_E_refusalsBy lk_0_360 in_E_refusalsBy se_E_refusalsBy rfl zo_0 zk_0 ⟨rfl, rfl⟩ ⟨by decide, by decide⟩ ⟨Nat.zero_le _, Nat.zero_le _⟩ rfl _ [] rfl (Nat.le_of_ble_eq_true rfl) d_E_count_153 ?_
                    cases h
                    exact z_iret C .int hret rfl ⟨Nat.zero_le _, Nat.zero_le _⟩ d_E_count_156
                  · rcases zite h with ⟨c16, h⟩ | ⟨c16, h⟩
                    · refine z_tab C (9 : Int32) 156 157 c16 (by decide) (by decide) (by decide) (by decide) d_E_count_1 ?_
                      refine z_aload_n C 0 rfl d_E_count_157 rfl ?_
                      refine z_bipush C (-2 : Int32) (by decide) d_E_count_158 ?_
                      obtain ⟨r18, h17, h⟩ := zb1_some h
                      refine z_cV C 0 (by decide) (m_E_refusalsBy l h17) mf_E_refusalsBy lk_0_360 in_E_refusalsBy se_E_refusalsBy rfl zo_0 zk_0 ⟨rfl, rfl⟩ ⟨by decide, by decide⟩ ⟨Nat.zero_le _, Nat.zero_le _⟩ rfl _ [] rfl (Nat.le_of_ble_eq_true rfl) d_E_count_160 ?_
                      cases h
                      exact z_iret C .int hret rfl ⟨Nat.zero_le _, Nat.zero_le _⟩ d_E_count_163
                    · rcases zite h with ⟨c19, h⟩ | ⟨c19, h⟩
                      · refine z_tab C (10 : Int32) 163 164 c19 (by decide) (by decide) (by decide) (by decide) d_E_count_1 ?_
                        refine z_aload_n C 0 rfl d_E_count_164 rfl ?_
                        refine z_bipush C (-3 : Int32) (by decide) d_E_count_165 ?_
                        obtain ⟨r21, h20, h⟩ := zb1_some h
                        refine z_cV C 0 (by decide) (m_E_refusalsBy l h20) mf_E_refusalsBy lk_0_360 in_E_refusalsBy se_E_refusalsBy rfl zo_0 zk_0 ⟨rfl, rfl⟩ ⟨by decide, by decide⟩ ⟨Nat.zero_le _, Nat.zero_le _⟩ rfl _ [] rfl (Nat.le_of_ble_eq_true rfl) d_E_count_167 ?_
                        cases h
                        exact z_iret C .int hret rfl ⟨Nat.zero_le _, Nat.zero_le _⟩ d_E_count_170
                      · rcases zite h with ⟨c22, h⟩ | ⟨c22, h⟩
                        · refine z_tab C (11 : Int32) 170 171 c22 (by decide) (by decide) (by decide) (by decide) d_E_count_1 ?_
                          refine z_aload_n C 0 rfl d_E_count_171 rfl ?_
                          refine z_bipush C (-5 : Int32) (by decide) d_E_count_172 ?_
                          obtain ⟨r24, h23, h⟩ := zb1_some h
                          refine z_cV C 0 (by decide) (m_E_refusalsBy l h23) mf_E_refusalsBy lk_0_360 in_E_refusalsBy se_E_refusalsBy rfl zo_0 zk_0 ⟨rfl, rfl⟩ ⟨by decide, by decide⟩ ⟨Nat.zero_le _, Nat.zero_le _⟩ rfl _ [] rfl (Nat.le_of_ble_eq_true rfl) d_E_count_174 ?_
                          cases h
                          exact z_iret C .int hret rfl ⟨Nat.zero_le _, Nat.zero_le _⟩ d_E_count_177
                        · rcases zite h with ⟨c25, h⟩ | ⟨c25, h⟩
                          · refine z_tab C (12 : Int32) 177 178 c25 (by decide) (by decide) (by decide) (by decide) d_E_count_1 ?_
                            refine z_aload_n C 0 rfl d_E_count_178 rfl ?_
                            refine z_bipush C (-6 : Int32) (by decide) d_E_count_179 ?_
                            obtain ⟨r27, h26, h⟩ := zb1_some h
                            refine z_cV C 0 (by decide) (m_E_refusalsBy l h26) mf_E_refusalsBy lk_0_360 in_E_refusalsBy se_E_refusalsBy rfl zo_0 zk_0 ⟨rfl, rfl⟩ ⟨by decide, by decide⟩ ⟨Nat.zero_le _, Nat.zero_le _⟩ rfl _ [] rfl (Nat.le_of_ble_eq_true rfl) d_E_count_181 ?_
                            cases h
                            exact z_iret C .int hret rfl ⟨Nat.zero_le _, Nat.zero_le _⟩ d_E_count_184
                          · rcases zite h with ⟨c28, h⟩ | ⟨c28, h⟩
                            · refine z_tab C (13 : Int32) 184 185 c28 (by decide) (by decide) (by decide) (by decide) d_E_count_1 ?_
                              refine z_aload_n C 0 rfl d_E_count_185 rfl ?_
                              refine z_getF2 C 0 (by decide) 0 (by decide) rfl 1 0 rfl (1) rfl zp_0 zk_0 zfl_0_12 d_E_count_186 ?_
                              refine z_getI C 5 (by decide) 14 (by decide) rfl zo_1 zk_1 zfl_0_213 d_E_count_189 ?_
                              cases h
                              exact z_iret C .int hret rfl ⟨Nat.zero_le _, Nat.zero_le _⟩ d_E_count_192
                            · rcases zite h with ⟨c29, h⟩ | ⟨c29, h⟩
                              · refine z_tab C (14 : Int32) 192 193 c29 (by decide) (by decide) (by decide) (by decide) d_E_count_1 ?_
                                refine z_aload_n C 0 rfl d_E_count_193 rfl ?_
                                refine z_getF2 C 0 (by decide) 0 (by decide) rfl 1 0 rfl (1) rfl zp_0 zk_0 zfl_0_12 d_E_count_194 ?_
                                refine z_iload_n C 1 rfl d_E_count_197 rfl ?_
                                refine z_bipush C (14 : Int32) (by decide) d_E_count_198 ?_
                                refine z_isub C d_E_count_200 ?_
                                obtain ⟨r31, h30, h⟩ := zb1_some h
                                refine z_cV C 5 (by decide) (m_Ps_term l zk_1 (Nat.le_of_ble_eq_true rfl) h30) mf_Ps_term lk_0_163 in_Ps_term se_Ps_term rfl zo_1 zk_1 ⟨rfl, rfl⟩ ⟨by decide, by decide⟩ ⟨Nat.zero_le _, Nat.zero_le _⟩ rfl _ [] rfl (Nat.le_of_ble_eq_true rfl) d_E_count_201 ?_
                                cases h
                                exact z_iret C .int hret rfl ⟨Nat.zero_le _, Nat.zero_le _⟩ d_E_count_204
                              · rcases zite h with ⟨c32, h⟩ | ⟨c32, h⟩
                                · refine z_tab C (15 : Int32) 192 193 c32 (by decide) (by decide) (by decide) (by decide) d_E_count_1 ?_
                                  refine z_aload_n C 0 rfl d_E_count_193 rfl ?_
                                  refine z_getF2 C 0 (by decide) 0 (by decide) rfl 1 0 rfl (1) rfl zp_0 zk_0 zfl_0_12 d_E_count_194 ?_
                                  refine z_iload_n C 1 rfl d_E_count_197 rfl ?_
                                  refine z_bipush C (14 : Int32) (by decide) d_E_count_198 ?_
                                  refine z_isub C d_E_count_200 ?_
                                  obtain ⟨r34, h33, h⟩ := zb1_some h
                                  refine z_cV C 5 (by decide) (m_Ps_term l zk_1 (Nat.le_of_ble_eq_true rfl) h33) mf_Ps_term lk_0_163 in_Ps_term se_Ps_term rfl zo_1 zk_1 ⟨rfl, rfl⟩ ⟨by decide, by decide⟩ ⟨Nat.zero_le _, Nat.zero_le _⟩ rfl _ [] rfl (Nat.le_of_ble_eq_true rfl) d_E_count_201 ?_
                                  cases h
                                  exact z_iret C .int hret rfl ⟨Nat.zero_le _, Nat.zero_le _⟩ d_E_count_204
                                · rcases zite h with ⟨c35, h⟩ | ⟨c35, h⟩
                                  · refine z_tab C (16 : Int32) 192 193 c35 (by decide) (by decide) (by decide) (by decide) d_E_count_1 ?_
                                    refine z_aload_n C 0 rfl d_E_count_193 rfl ?_
                                    refine z_getF2 C 0 (by decide) 0 (by decide) rfl 1 0 rfl (1) rfl zp_0 zk_0 zfl_0_12 d_E_count_194 ?_
                                    refine z_iload_n C 1 rfl d_E_count_197 rfl ?_
                                    refine z_bipush C (14 : Int32) (by decide) d_E_count_198 ?_
                                    refine z_isub C d_E_count_200 ?_
                                    obtain ⟨r37, h36, h⟩ := zb1_some h
                                    refine z_cV C 5 (by decide) (m_Ps_term l zk_1 (Nat.le_of_ble_eq_true rfl) h36) mf_Ps_term lk_0_163 in_Ps_term se_Ps_term rfl zo_1 zk_1 ⟨rfl, rfl⟩ ⟨by decide, by decide⟩ ⟨Nat.zero_le _, Nat.zero_le _⟩ rfl _ [] rfl (Nat.le_of_ble_eq_true rfl) d_E_count_201 ?_
                                    cases h
                                    exact z_iret C .int hret rfl ⟨Nat.zero_le _, Nat.zero_le _⟩ d_E_count_204
                                  · refine z_tabO C (0) 17 (by decide) (fun j hj => by match j, hj with | 0, _ => exact c1 | 1, _ => exact c2 | 2, _ => exact c3 | 3, _ => exact c6 | 4, _ => exact c9 | 5, _ => exact c10 | 6, _ => exact c11 | 7, _ => exact c12 | 8, _ => exact c13 | 9, _ => exact c16 | 10, _ => exact c19 | 11, _ => exact c22 | 12, _ => exact c25 | 13, _ => exact c28 | 14, _ => exact c29 | 15, _ => exact c32 | 16, _ => exact c35 | j + 17, hj => omega) 205 (by decide) d_E_count_1 ?_
                                    refine z_iconst C (-1 : Int32) (by decide) d_E_count_205 ?_
                                    cases h
                                    exact z_iret C .int hret rfl ⟨Nat.zero_le _, Nat.zero_le _⟩ d_E_count_206
def f_E_status (S : zSt) : Option Int32 := some (zI S 0 19)
set_option maxRecDepth 100000 in
set_option maxHeartbeats 4000000 in
theorem m_E_status (l : Launch) {S : zSt} {r : Int32} (h : f_E_status  S = some r) : zPM l y_E_status b_E_status 1 (some .int) rm_E_status true true [zr (some 0)] S (some (zi r)) S := by
  refine zPM_of (by decide) (Nat.le_of_ble_eq_true rfl) (fun p e s m args below meth c G C hret hname => ?_)
  unfold f_E_status at h
  refine (?_ : zJ p l e rm_E_status s m args below meth c G true 1 0 0 (zQm below G args s rm_E_status true (some (zi r)) S) S 0 [(0, zr (some 0))] [])
  refine z_aload_n C 0 rfl d_E_status_0 rfl ?_
  refine z_getI C 0 (by decide) 19 (by decide) rfl zo_0 zk_0 zfl_0_106 d_E_status_1 ?_
  cases h
  exact z_iret C .int hret rfl ⟨Nat.zero_le _, Nat.zero_le _⟩ d_E_status_4

/-! printed by dec4.py: 2c.model -/
abbrev rm_M_undo : Room := { frames := 2, cells := 0, slots := 0, locals := 85 }
abbrev rm_M_goesThrough : Room := { frames := 138, cells := 0, slots := 0, locals := 3603 }
abbrev rm_M_isPassed : Room := { frames := 139, cells := 0, slots := 0, locals := 3625 }
abbrev rm_M_keeps : Room := { frames := 1, cells := 0, slots := 0, locals := 64 }
abbrev rm_M_swimsKept : Room := { frames := 140, cells := 0, slots := 0, locals := 3647 }
abbrev rm_M_goodOr : Room := { frames := 2, cells := 0, slots := 0, locals := 85 }
abbrev rm_M_swim : Room := { frames := 141, cells := 0, slots := 0, locals := 3669 }
abbrev rm_M_turnsGate : Room := { frames := 3, cells := 0, slots := 0, locals := 107 }
abbrev rm_M_gatesKept : Room := { frames := 4, cells := 0, slots := 0, locals := 130 }
abbrev rm_M_gate : Room := { frames := 5, cells := 0, slots := 0, locals := 152 }
abbrev rm_M_stirsKept : Room := { frames := 3, cells := 0, slots := 0, locals := 107 }
abbrev rm_M_stir : Room := { frames := 4, cells := 0, slots := 0, locals := 130 }
abbrev rm_M_dayPasses : Room := { frames := 138, cells := 0, slots := 0, locals := 3602 }
abbrev rm_M_passesKept : Room := { frames := 139, cells := 0, slots := 0, locals := 3624 }
abbrev rm_M_pass : Room := { frames := 140, cells := 0, slots := 0, locals := 3644 }
abbrev rm_M_lesser : Room := { frames := 1, cells := 0, slots := 0, locals := 64 }
abbrev rm_M_laysSoon : Room := { frames := 140, cells := 0, slots := 0, locals := 3647 }
abbrev rm_M_soonOr : Room := { frames := 2, cells := 0, slots := 0, locals := 85 }
abbrev rm_M_soon : Room := { frames := 141, cells := 0, slots := 0, locals := 3670 }
abbrev rm_M_nextTo : Room := { frames := 2, cells := 0, slots := 0, locals := 85 }
abbrev rm_M_way : Room := { frames := 141, cells := 0, slots := 0, locals := 3670 }
abbrev rm_M_never : Room := { frames := 141, cells := 0, slots := 0, locals := 3670 }
abbrev rm_M_greater : Room := { frames := 1, cells := 0, slots := 0, locals := 64 }
abbrev rm_M_centre : Room := { frames := 141, cells := 0, slots := 0, locals := 3670 }
abbrev rm_M_areSprings : Room := { frames := 2, cells := 0, slots := 0, locals := 86 }
abbrev rm_M_isIn : Room := { frames := 1, cells := 0, slots := 0, locals := 64 }
abbrev rm_M_roundAt : Room := { frames := 1, cells := 0, slots := 0, locals := 64 }
abbrev rm_M_legOfRound : Room := { frames := 2, cells := 0, slots := 0, locals := 86 }
abbrev rm_M_laysRounds : Room := { frames := 3, cells := 0, slots := 0, locals := 109 }
abbrev rm_M_round : Room := { frames := 141, cells := 0, slots := 0, locals := 3670 }
abbrev rm_M_laysWeights : Room := { frames := 138, cells := 0, slots := 0, locals := 3603 }
abbrev rm_M_weightOut : Room := { frames := 2, cells := 0, slots := 0, locals := 85 }
abbrev rm_M_bound : Room := { frames := 139, cells := 0, slots := 0, locals := 3625 }
abbrev rm_M_share : Room := { frames := 141, cells := 0, slots := 0, locals := 3670 }
abbrev rm_M_seaAt : Room := { frames := 1, cells := 0, slots := 0, locals := 64 }
abbrev rm_M_seaBy : Room := { frames := 3, cells := 0, slots := 0, locals := 107 }
def y_M_undo : MethodName := ⟨zNm 11, "undo", "()I"⟩
abbrev b_M_undo : ByteArray := prog_13_method_81_code
theorem d_M_undo_0 : decode b_M_undo 0 = .ok (.aload_n 0, 1) := by decide +kernel
theorem d_M_undo_1 : decode b_M_undo 1 = .ok (.getfield 11, 3) := by decide +kernel
theorem d_M_undo_4 : decode b_M_undo 4 = .ok (.ifCond .ne 10, 3) := by decide +kernel
theorem d_M_undo_7 : decode b_M_undo 7 = .ok (.aload_n 0, 1) := by decide +kernel
theorem d_M_undo_8 : decode b_M_undo 8 = .ok (.bipush (-3), 2) := by decide +kernel
theorem d_M_undo_10 : decode b_M_undo 10 = .ok (.invokevirtual 112, 3) := by decide +kernel
theorem d_M_undo_13 : decode b_M_undo 13 = .ok (.ireturn, 1) := by decide +kernel
theorem d_M_undo_14 : decode b_M_undo 14 = .ok (.aload_n 0, 1) := by decide +kernel
theorem d_M_undo_15 : decode b_M_undo 15 = .ok (.dup, 1) := by decide +kernel
theorem d_M_undo_16 : decode b_M_undo 16 = .ok (.getfield 11, 3) := by decide +kernel
theorem d_M_undo_19 : decode b_M_undo 19 = .ok (.iconst 1, 1) := by decide +kernel
theorem d_M_undo_20 : decode b_M_undo 20 = .ok (.isub, 1) := by decide +kernel
theorem d_M_undo_21 : decode b_M_undo 21 = .ok (.putfield 11, 3) := by decide +kernel
theorem d_M_undo_24 : decode b_M_undo 24 = .ok (.bipush 93, 2) := by decide +kernel
theorem d_M_undo_26 : decode b_M_undo 26 = .ok (.aload_n 0, 1) := by decide +kernel
theorem d_M_undo_27 : decode b_M_undo 27 = .ok (.getfield 11, 3) := by decide +kernel
theorem d_M_undo_30 : decode b_M_undo 30 = .ok (.imul, 1) := by decide +kernel
theorem d_M_undo_31 : decode b_M_undo 31 = .ok (.istore_n 1, 1) := by decide +kernel
theorem d_M_undo_32 : decode b_M_undo 32 = .ok (.iconst 0, 1) := by decide +kernel
theorem d_M_undo_33 : decode b_M_undo 33 = .ok (.istore_n 2, 1) := by decide +kernel
theorem d_M_undo_34 : decode b_M_undo 34 = .ok (.iload_n 2, 1) := by decide +kernel
theorem d_M_undo_35 : decode b_M_undo 35 = .ok (.bipush 92, 2) := by decide +kernel
theorem d_M_undo_37 : decode b_M_undo 37 = .ok (.if_icmp .ge 23, 3) := by decide +kernel
theorem d_M_undo_40 : decode b_M_undo 40 = .ok (.aload_n 0, 1) := by decide +kernel
theorem d_M_undo_41 : decode b_M_undo 41 = .ok (.getfield 24, 3) := by decide +kernel
theorem d_M_undo_44 : decode b_M_undo 44 = .ok (.iload_n 2, 1) := by decide +kernel
theorem d_M_undo_45 : decode b_M_undo 45 = .ok (.aload_n 0, 1) := by decide +kernel
theorem d_M_undo_46 : decode b_M_undo 46 = .ok (.getfield 65, 3) := by decide +kernel
theorem d_M_undo_49 : decode b_M_undo 49 = .ok (.iload_n 1, 1) := by decide +kernel
theorem d_M_undo_50 : decode b_M_undo 50 = .ok (.iload_n 2, 1) := by decide +kernel
theorem d_M_undo_51 : decode b_M_undo 51 = .ok (.iadd, 1) := by decide +kernel
theorem d_M_undo_52 : decode b_M_undo 52 = .ok (.iaload, 1) := by decide +kernel
theorem d_M_undo_53 : decode b_M_undo 53 = .ok (.iastore, 1) := by decide +kernel
theorem d_M_undo_54 : decode b_M_undo 54 = .ok (.iinc 2 1, 3) := by decide +kernel
theorem d_M_undo_57 : decode b_M_undo 57 = .ok (.goto (-23), 3) := by decide +kernel
theorem d_M_undo_60 : decode b_M_undo 60 = .ok (.aload_n 0, 1) := by decide +kernel
theorem d_M_undo_61 : decode b_M_undo 61 = .ok (.aload_n 0, 1) := by decide +kernel
theorem d_M_undo_62 : decode b_M_undo 62 = .ok (.getfield 65, 3) := by decide +kernel
theorem d_M_undo_65 : decode b_M_undo 65 = .ok (.iload_n 1, 1) := by decide +kernel
theorem d_M_undo_66 : decode b_M_undo 66 = .ok (.bipush 92, 2) := by decide +kernel
theorem d_M_undo_68 : decode b_M_undo 68 = .ok (.iadd, 1) := by decide +kernel
theorem d_M_undo_69 : decode b_M_undo 69 = .ok (.iaload, 1) := by decide +kernel
theorem d_M_undo_70 : decode b_M_undo 70 = .ok (.invokevirtual 14, 3) := by decide +kernel
theorem d_M_undo_73 : decode b_M_undo 73 = .ok (.ireturn, 1) := by decide +kernel
theorem mf_M_undo : zMF y_M_undo b_M_undo 3 (some .int) 0 := ⟨zGW_in 1717 (by decide +kernel) (by decide +kernel), zGW_in 135 (by decide +kernel) (by decide +kernel), by decide +kernel⟩
theorem in_M_undo : Cond.instanceMethod y_M_undo ∈ zGW := zGW_in 1715 (by decide +kernel) (by decide +kernel)
theorem se_M_undo : Cond.selects y_M_undo.cls y_M_undo y_M_undo ∈ zGW := zGW_in 1716 (by decide +kernel) (by decide +kernel)
def y_M_goesThrough : MethodName := ⟨zNm 11, "goesThrough", "(II)Z"⟩
abbrev b_M_goesThrough : ByteArray := prog_13_method_76_code
theorem d_M_goesThrough_0 : decode b_M_goesThrough 0 = .ok (.iload_n 1, 1) := by decide +kernel
theorem d_M_goesThrough_1 : decode b_M_goesThrough 1 = .ok (.iload_n 2, 1) := by decide +kernel
theorem d_M_goesThrough_2 : decode b_M_goesThrough 2 = .ok (.if_icmp .eq 25, 3) := by decide +kernel
theorem d_M_goesThrough_5 : decode b_M_goesThrough 5 = .ok (.aload_n 0, 1) := by decide +kernel
theorem d_M_goesThrough_6 : decode b_M_goesThrough 6 = .ok (.iload_n 1, 1) := by decide +kernel
theorem d_M_goesThrough_7 : decode b_M_goesThrough 7 = .ok (.iload_n 2, 1) := by decide +kernel
theorem d_M_goesThrough_8 : decode b_M_goesThrough 8 = .ok (.invokevirtual 134, 3) := by decide +kernel
theorem d_M_goesThrough_11 : decode b_M_goesThrough 11 = .ok (.ifCond .le 16, 3) := by decide +kernel
theorem d_M_goesThrough_14 : decode b_M_goesThrough 14 = .ok (.aload_n 0, 1) := by decide +kernel
theorem d_M_goesThrough_15 : decode b_M_goesThrough 15 = .ok (.iload_n 1, 1) := by decide +kernel
theorem d_M_goesThrough_16 : decode b_M_goesThrough 16 = .ok (.iload_n 2, 1) := by decide +kernel
theorem d_M_goesThrough_17 : decode b_M_goesThrough 17 = .ok (.invokevirtual 150, 3) := by decide +kernel
theorem d_M_goesThrough_20 : decode b_M_goesThrough 20 = .ok (.ifCond .ne 7, 3) := by decide +kernel
theorem d_M_goesThrough_23 : decode b_M_goesThrough 23 = .ok (.iconst 1, 1) := by decide +kernel
theorem d_M_goesThrough_24 : decode b_M_goesThrough 24 = .ok (.goto 4, 3) := by decide +kernel
theorem d_M_goesThrough_27 : decode b_M_goesThrough 27 = .ok (.iconst 0, 1) := by decide +kernel
theorem d_M_goesThrough_28 : decode b_M_goesThrough 28 = .ok (.ireturn, 1) := by decide +kernel
theorem mf_M_goesThrough : zMF y_M_goesThrough b_M_goesThrough 3 (some .boolean) 2 := ⟨zGW_in 1733 (by decide +kernel) (by decide +kernel), zGW_in 135 (by decide +kernel) (by decide +kernel), by decide +kernel⟩
theorem in_M_goesThrough : Cond.instanceMethod y_M_goesThrough ∈ zGW := zGW_in 1732 (by decide +kernel) (by decide +kernel)
theorem se_M_goesThrough : Cond.selects y_M_goesThrough.cls y_M_goesThrough y_M_goesThrough ∈ zGW := zGW_in 91 (by decide +kernel) (by decide +kernel)
def y_M_isPassed : MethodName := ⟨zNm 11, "isPassed", "(II)Z"⟩
abbrev b_M_isPassed : ByteArray := prog_13_method_77_code
theorem d_M_isPassed_0 : decode b_M_isPassed 0 = .ok (.aload_n 0, 1) := by decide +kernel
theorem d_M_isPassed_1 : decode b_M_isPassed 1 = .ok (.iload_n 1, 1) := by decide +kernel
theorem d_M_isPassed_2 : decode b_M_isPassed 2 = .ok (.iload_n 2, 1) := by decide +kernel
theorem d_M_isPassed_3 : decode b_M_isPassed 3 = .ok (.invokevirtual 335, 3) := by decide +kernel
theorem d_M_isPassed_6 : decode b_M_isPassed 6 = .ok (.ifCond .eq 16, 3) := by decide +kernel
theorem d_M_isPassed_9 : decode b_M_isPassed 9 = .ok (.aload_n 0, 1) := by decide +kernel
theorem d_M_isPassed_10 : decode b_M_isPassed 10 = .ok (.iload_n 1, 1) := by decide +kernel
theorem d_M_isPassed_11 : decode b_M_isPassed 11 = .ok (.iload_n 2, 1) := by decide +kernel
theorem d_M_isPassed_12 : decode b_M_isPassed 12 = .ok (.invokevirtual 338, 3) := by decide +kernel
theorem d_M_isPassed_15 : decode b_M_isPassed 15 = .ok (.ifCond .ne 7, 3) := by decide +kernel
theorem d_M_isPassed_18 : decode b_M_isPassed 18 = .ok (.iconst 1, 1) := by decide +kernel
theorem d_M_isPassed_19 : decode b_M_isPassed 19 = .ok (.goto 4, 3) := by decide +kernel
theorem d_M_isPassed_22 : decode b_M_isPassed 22 = .ok (.iconst 0, 1) := by decide +kernel
theorem d_M_isPassed_23 : decode b_M_isPassed 23 = .ok (.ireturn, 1) := by decide +kernel
theorem mf_M_isPassed : zMF y_M_isPassed b_M_isPassed 3 (some .boolean) 2 := ⟨zGW_in 1729 (by decide +kernel) (by decide +kernel), zGW_in 135 (by decide +kernel) (by decide +kernel), by decide +kernel⟩
theorem in_M_isPassed : Cond.instanceMethod y_M_isPassed ∈ zGW := zGW_in 1728 (by decide +kernel) (by decide +kernel)
theorem se_M_isPassed : Cond.selects y_M_isPassed.cls y_M_isPassed y_M_isPassed ∈ zGW := zGW_in 90 (by decide +kernel) (by decide +kernel)
def y_M_keeps : MethodName := ⟨zNm 11, "keeps", "(I)V"⟩
abbrev b_M_keeps : ByteArray := prog_13_method_80_code
theorem d_M_keeps_0 : decode b_M_keeps 0 = .ok (.bipush 93, 2) := by decide +kernel
theorem d_M_keeps_2 : decode b_M_keeps 2 = .ok (.istore_n 2, 1) := by decide +kernel
theorem d_M_keeps_3 : decode b_M_keeps 3 = .ok (.aload_n 0, 1) := by decide +kernel
theorem d_M_keeps_4 : decode b_M_keeps 4 = .ok (.getfield 11, 3) := by decide +kernel
theorem d_M_keeps_7 : decode b_M_keeps 7 = .ok (.bipush 16, 2) := by decide +kernel
theorem d_M_keeps_9 : decode b_M_keeps 9 = .ok (.if_icmp .ne 43, 3) := by decide +kernel
theorem d_M_keeps_12 : decode b_M_keeps 12 = .ok (.iconst 0, 1) := by decide +kernel
theorem d_M_keeps_13 : decode b_M_keeps 13 = .ok (.istore_n 3, 1) := by decide +kernel
theorem d_M_keeps_14 : decode b_M_keeps 14 = .ok (.iload_n 3, 1) := by decide +kernel
theorem d_M_keeps_15 : decode b_M_keeps 15 = .ok (.bipush 15, 2) := by decide +kernel
theorem d_M_keeps_17 : decode b_M_keeps 17 = .ok (.iload_n 2, 1) := by decide +kernel
theorem d_M_keeps_18 : decode b_M_keeps 18 = .ok (.imul, 1) := by decide +kernel
theorem d_M_keeps_19 : decode b_M_keeps 19 = .ok (.if_icmp .ge 23, 3) := by decide +kernel
theorem d_M_keeps_22 : decode b_M_keeps 22 = .ok (.aload_n 0, 1) := by decide +kernel
theorem d_M_keeps_23 : decode b_M_keeps 23 = .ok (.getfield 65, 3) := by decide +kernel
theorem d_M_keeps_26 : decode b_M_keeps 26 = .ok (.iload_n 3, 1) := by decide +kernel
theorem d_M_keeps_27 : decode b_M_keeps 27 = .ok (.aload_n 0, 1) := by decide +kernel
theorem d_M_keeps_28 : decode b_M_keeps 28 = .ok (.getfield 65, 3) := by decide +kernel
theorem d_M_keeps_31 : decode b_M_keeps 31 = .ok (.iload_n 3, 1) := by decide +kernel
theorem d_M_keeps_32 : decode b_M_keeps 32 = .ok (.iload_n 2, 1) := by decide +kernel
theorem d_M_keeps_33 : decode b_M_keeps 33 = .ok (.iadd, 1) := by decide +kernel
theorem d_M_keeps_34 : decode b_M_keeps 34 = .ok (.iaload, 1) := by decide +kernel
theorem d_M_keeps_35 : decode b_M_keeps 35 = .ok (.iastore, 1) := by decide +kernel
theorem d_M_keeps_36 : decode b_M_keeps 36 = .ok (.iinc 3 1, 3) := by decide +kernel
theorem d_M_keeps_39 : decode b_M_keeps 39 = .ok (.goto (-25), 3) := by decide +kernel
theorem d_M_keeps_42 : decode b_M_keeps 42 = .ok (.aload_n 0, 1) := by decide +kernel
theorem d_M_keeps_43 : decode b_M_keeps 43 = .ok (.dup, 1) := by decide +kernel
theorem d_M_keeps_44 : decode b_M_keeps 44 = .ok (.getfield 11, 3) := by decide +kernel
theorem d_M_keeps_47 : decode b_M_keeps 47 = .ok (.iconst 1, 1) := by decide +kernel
theorem d_M_keeps_48 : decode b_M_keeps 48 = .ok (.isub, 1) := by decide +kernel
theorem d_M_keeps_49 : decode b_M_keeps 49 = .ok (.putfield 11, 3) := by decide +kernel
theorem d_M_keeps_52 : decode b_M_keeps 52 = .ok (.iconst 0, 1) := by decide +kernel
theorem d_M_keeps_53 : decode b_M_keeps 53 = .ok (.istore_n 3, 1) := by decide +kernel
theorem d_M_keeps_54 : decode b_M_keeps 54 = .ok (.iload_n 3, 1) := by decide +kernel
theorem d_M_keeps_55 : decode b_M_keeps 55 = .ok (.bipush 92, 2) := by decide +kernel
theorem d_M_keeps_57 : decode b_M_keeps 57 = .ok (.if_icmp .ge 28, 3) := by decide +kernel
theorem d_M_keeps_60 : decode b_M_keeps 60 = .ok (.aload_n 0, 1) := by decide +kernel
theorem d_M_keeps_61 : decode b_M_keeps 61 = .ok (.getfield 65, 3) := by decide +kernel
theorem d_M_keeps_64 : decode b_M_keeps 64 = .ok (.iload_n 2, 1) := by decide +kernel
theorem d_M_keeps_65 : decode b_M_keeps 65 = .ok (.aload_n 0, 1) := by decide +kernel
theorem d_M_keeps_66 : decode b_M_keeps 66 = .ok (.getfield 11, 3) := by decide +kernel
theorem d_M_keeps_69 : decode b_M_keeps 69 = .ok (.imul, 1) := by decide +kernel
theorem d_M_keeps_70 : decode b_M_keeps 70 = .ok (.iload_n 3, 1) := by decide +kernel
theorem d_M_keeps_71 : decode b_M_keeps 71 = .ok (.iadd, 1) := by decide +kernel
theorem d_M_keeps_72 : decode b_M_keeps 72 = .ok (.aload_n 0, 1) := by decide +kernel
theorem d_M_keeps_73 : decode b_M_keeps 73 = .ok (.getfield 24, 3) := by decide +kernel
theorem d_M_keeps_76 : decode b_M_keeps 76 = .ok (.iload_n 3, 1) := by decide +kernel
theorem d_M_keeps_77 : decode b_M_keeps 77 = .ok (.iaload, 1) := by decide +kernel
theorem d_M_keeps_78 : decode b_M_keeps 78 = .ok (.iastore, 1) := by decide +kernel
theorem d_M_keeps_79 : decode b_M_keeps 79 = .ok (.iinc 3 1, 3) := by decide +kernel
theorem d_M_keeps_82 : decode b_M_keeps 82 = .ok (.goto (-28), 3) := by decide +kernel
theorem d_M_keeps_85 : decode b_M_keeps 85 = .ok (.aload_n 0, 1) := by decide +kernel
theorem d_M_keeps_86 : decode b_M_keeps 86 = .ok (.getfield 65, 3) := by decide +kernel
theorem d_M_keeps_89 : decode b_M_keeps 89 = .ok (.iload_n 2, 1) := by decide +kernel
theorem d_M_keeps_90 : decode b_M_keeps 90 = .ok (.aload_n 0, 1) := by decide +kernel
theorem d_M_keeps_91 : decode b_M_keeps 91 = .ok (.getfield 11, 3) := by decide +kernel
theorem d_M_keeps_94 : decode b_M_keeps 94 = .ok (.imul, 1) := by decide +kernel
theorem d_M_keeps_95 : decode b_M_keeps 95 = .ok (.bipush 92, 2) := by decide +kernel
theorem d_M_keeps_97 : decode b_M_keeps 97 = .ok (.iadd, 1) := by decide +kernel
theorem d_M_keeps_98 : decode b_M_keeps 98 = .ok (.iload_n 1, 1) := by decide +kernel
theorem d_M_keeps_99 : decode b_M_keeps 99 = .ok (.iastore, 1) := by decide +kernel
theorem d_M_keeps_100 : decode b_M_keeps 100 = .ok (.aload_n 0, 1) := by decide +kernel
theorem d_M_keeps_101 : decode b_M_keeps 101 = .ok (.dup, 1) := by decide +kernel
theorem d_M_keeps_102 : decode b_M_keeps 102 = .ok (.getfield 11, 3) := by decide +kernel
theorem d_M_keeps_105 : decode b_M_keeps 105 = .ok (.iconst 1, 1) := by decide +kernel
theorem d_M_keeps_106 : decode b_M_keeps 106 = .ok (.iadd, 1) := by decide +kernel
theorem d_M_keeps_107 : decode b_M_keeps 107 = .ok (.putfield 11, 3) := by decide +kernel
theorem d_M_keeps_110 : decode b_M_keeps 110 = .ok (.return_, 1) := by decide +kernel
theorem mf_M_keeps : zMF y_M_keeps b_M_keeps 4 none 1 := ⟨zGW_in 1737 (by decide +kernel) (by decide +kernel), zGW_in 135 (by decide +kernel) (by decide +kernel), by decide +kernel⟩
theorem in_M_keeps : Cond.instanceMethod y_M_keeps ∈ zGW := zGW_in 1736 (by decide +kernel) (by decide +kernel)
theorem se_M_keeps : Cond.selects y_M_keeps.cls y_M_keeps y_M_keeps ∈ zGW := zGW_in 92 (by decide +kernel) (by decide +kernel)
def y_M_swimsKept : MethodName := ⟨zNm 11, "swimsKept", "(I)I"⟩
abbrev b_M_swimsKept : ByteArray := prog_13_method_83_code
theorem d_M_swimsKept_0 : decode b_M_swimsKept 0 = .ok (.aload_n 0, 1) := by decide +kernel
theorem d_M_swimsKept_1 : decode b_M_swimsKept 1 = .ok (.iload_n 1, 1) := by decide +kernel
theorem d_M_swimsKept_2 : decode b_M_swimsKept 2 = .ok (.invokevirtual 122, 3) := by decide +kernel
theorem d_M_swimsKept_5 : decode b_M_swimsKept 5 = .ok (.ifCond .ne 6, 3) := by decide +kernel
theorem d_M_swimsKept_8 : decode b_M_swimsKept 8 = .ok (.bipush (-2), 2) := by decide +kernel
theorem d_M_swimsKept_10 : decode b_M_swimsKept 10 = .ok (.ireturn, 1) := by decide +kernel
theorem d_M_swimsKept_11 : decode b_M_swimsKept 11 = .ok (.aload_n 0, 1) := by decide +kernel
theorem d_M_swimsKept_12 : decode b_M_swimsKept 12 = .ok (.aload_n 0, 1) := by decide +kernel
theorem d_M_swimsKept_13 : decode b_M_swimsKept 13 = .ok (.getfield 24, 3) := by decide +kernel
theorem d_M_swimsKept_16 : decode b_M_swimsKept 16 = .ok (.iconst 0, 1) := by decide +kernel
theorem d_M_swimsKept_17 : decode b_M_swimsKept 17 = .ok (.iaload, 1) := by decide +kernel
theorem d_M_swimsKept_18 : decode b_M_swimsKept 18 = .ok (.iload_n 1, 1) := by decide +kernel
theorem d_M_swimsKept_19 : decode b_M_swimsKept 19 = .ok (.invokevirtual 345, 3) := by decide +kernel
theorem d_M_swimsKept_22 : decode b_M_swimsKept 22 = .ok (.ifCond .ne 6, 3) := by decide +kernel
theorem d_M_swimsKept_25 : decode b_M_swimsKept 25 = .ok (.bipush (-3), 2) := by decide +kernel
theorem d_M_swimsKept_27 : decode b_M_swimsKept 27 = .ok (.ireturn, 1) := by decide +kernel
theorem d_M_swimsKept_28 : decode b_M_swimsKept 28 = .ok (.aload_n 0, 1) := by decide +kernel
theorem d_M_swimsKept_29 : decode b_M_swimsKept 29 = .ok (.aload_n 0, 1) := by decide +kernel
theorem d_M_swimsKept_30 : decode b_M_swimsKept 30 = .ok (.getfield 24, 3) := by decide +kernel
theorem d_M_swimsKept_33 : decode b_M_swimsKept 33 = .ok (.iconst 0, 1) := by decide +kernel
theorem d_M_swimsKept_34 : decode b_M_swimsKept 34 = .ok (.iaload, 1) := by decide +kernel
theorem d_M_swimsKept_35 : decode b_M_swimsKept 35 = .ok (.iload_n 1, 1) := by decide +kernel
theorem d_M_swimsKept_36 : decode b_M_swimsKept 36 = .ok (.invokevirtual 144, 3) := by decide +kernel
theorem d_M_swimsKept_39 : decode b_M_swimsKept 39 = .ok (.istore_n 2, 1) := by decide +kernel
theorem d_M_swimsKept_40 : decode b_M_swimsKept 40 = .ok (.aload_n 0, 1) := by decide +kernel
theorem d_M_swimsKept_41 : decode b_M_swimsKept 41 = .ok (.iconst 0, 1) := by decide +kernel
theorem d_M_swimsKept_42 : decode b_M_swimsKept 42 = .ok (.invokevirtual 348, 3) := by decide +kernel
theorem d_M_swimsKept_45 : decode b_M_swimsKept 45 = .ok (.aload_n 0, 1) := by decide +kernel
theorem d_M_swimsKept_46 : decode b_M_swimsKept 46 = .ok (.getfield 24, 3) := by decide +kernel
theorem d_M_swimsKept_49 : decode b_M_swimsKept 49 = .ok (.iconst 0, 1) := by decide +kernel
theorem d_M_swimsKept_50 : decode b_M_swimsKept 50 = .ok (.iload_n 1, 1) := by decide +kernel
theorem d_M_swimsKept_51 : decode b_M_swimsKept 51 = .ok (.iastore, 1) := by decide +kernel
theorem d_M_swimsKept_52 : decode b_M_swimsKept 52 = .ok (.iload_n 2, 1) := by decide +kernel
theorem d_M_swimsKept_53 : decode b_M_swimsKept 53 = .ok (.ireturn, 1) := by decide +kernel
theorem mf_M_swimsKept : zMF y_M_swimsKept b_M_swimsKept 3 (some .int) 1 := ⟨zGW_in 1725 (by decide +kernel) (by decide +kernel), zGW_in 135 (by decide +kernel) (by decide +kernel), by decide +kernel⟩
theorem in_M_swimsKept : Cond.instanceMethod y_M_swimsKept ∈ zGW := zGW_in 1724 (by decide +kernel) (by decide +kernel)
theorem se_M_swimsKept : Cond.selects y_M_swimsKept.cls y_M_swimsKept y_M_swimsKept ∈ zGW := zGW_in 89 (by decide +kernel) (by decide +kernel)
def y_M_goodOr : MethodName := ⟨zNm 11, "goodOr", "(I)I"⟩
abbrev b_M_goodOr : ByteArray := prog_13_method_82_code
theorem d_M_goodOr_0 : decode b_M_goodOr 0 = .ok (.iload_n 1, 1) := by decide +kernel
theorem d_M_goodOr_1 : decode b_M_goodOr 1 = .ok (.ifCond .ge 11, 3) := by decide +kernel
theorem d_M_goodOr_4 : decode b_M_goodOr 4 = .ok (.aload_n 0, 1) := by decide +kernel
theorem d_M_goodOr_5 : decode b_M_goodOr 5 = .ok (.iload_n 1, 1) := by decide +kernel
theorem d_M_goodOr_6 : decode b_M_goodOr 6 = .ok (.invokevirtual 112, 3) := by decide +kernel
theorem d_M_goodOr_9 : decode b_M_goodOr 9 = .ok (.goto 8, 3) := by decide +kernel
theorem d_M_goodOr_12 : decode b_M_goodOr 12 = .ok (.aload_n 0, 1) := by decide +kernel
theorem d_M_goodOr_13 : decode b_M_goodOr 13 = .ok (.iload_n 1, 1) := by decide +kernel
theorem d_M_goodOr_14 : decode b_M_goodOr 14 = .ok (.invokevirtual 14, 3) := by decide +kernel
theorem d_M_goodOr_17 : decode b_M_goodOr 17 = .ok (.ireturn, 1) := by decide +kernel
theorem mf_M_goodOr : zMF y_M_goodOr b_M_goodOr 2 (some .int) 1 := ⟨zGW_in 1741 (by decide +kernel) (by decide +kernel), zGW_in 135 (by decide +kernel) (by decide +kernel), by decide +kernel⟩
theorem in_M_goodOr : Cond.instanceMethod y_M_goodOr ∈ zGW := zGW_in 1740 (by decide +kernel) (by decide +kernel)
theorem se_M_goodOr : Cond.selects y_M_goodOr.cls y_M_goodOr y_M_goodOr ∈ zGW := zGW_in 93 (by decide +kernel) (by decide +kernel)
def y_M_swim : MethodName := ⟨zNm 11, "swim", "(I)I"⟩
abbrev b_M_swim : ByteArray := prog_13_method_89_code
theorem d_M_swim_0 : decode b_M_swim 0 = .ok (.aload_n 0, 1) := by decide +kernel
theorem d_M_swim_1 : decode b_M_swim 1 = .ok (.aload_n 0, 1) := by decide +kernel
theorem d_M_swim_2 : decode b_M_swim 2 = .ok (.iload_n 1, 1) := by decide +kernel
theorem d_M_swim_3 : decode b_M_swim 3 = .ok (.invokevirtual 357, 3) := by decide +kernel
theorem d_M_swim_6 : decode b_M_swim 6 = .ok (.invokevirtual 360, 3) := by decide +kernel
theorem d_M_swim_9 : decode b_M_swim 9 = .ok (.ireturn, 1) := by decide +kernel
theorem mf_M_swim : zMF y_M_swim b_M_swim 2 (some .int) 1 := ⟨zGW_in 1721 (by decide +kernel) (by decide +kernel), zGW_in 135 (by decide +kernel) (by decide +kernel), by decide +kernel⟩
theorem in_M_swim : Cond.instanceMethod y_M_swim ∈ zGW := zGW_in 1719 (by decide +kernel) (by decide +kernel)
theorem se_M_swim : Cond.selects y_M_swim.cls y_M_swim y_M_swim ∈ zGW := zGW_in 1720 (by decide +kernel) (by decide +kernel)
def y_M_turnsGate : MethodName := ⟨zNm 11, "turnsGate", "(II)I"⟩
abbrev b_M_turnsGate : ByteArray := prog_13_method_84_code
theorem d_M_turnsGate_0 : decode b_M_turnsGate 0 = .ok (.aload_n 0, 1) := by decide +kernel
theorem d_M_turnsGate_1 : decode b_M_turnsGate 1 = .ok (.iload_n 1, 1) := by decide +kernel
theorem d_M_turnsGate_2 : decode b_M_turnsGate 2 = .ok (.iload_n 2, 1) := by decide +kernel
theorem d_M_turnsGate_3 : decode b_M_turnsGate 3 = .ok (.invokevirtual 338, 3) := by decide +kernel
theorem d_M_turnsGate_6 : decode b_M_turnsGate 6 = .ok (.ifCond .eq 7, 3) := by decide +kernel
theorem d_M_turnsGate_9 : decode b_M_turnsGate 9 = .ok (.iconst 0, 1) := by decide +kernel
theorem d_M_turnsGate_10 : decode b_M_turnsGate 10 = .ok (.goto 4, 3) := by decide +kernel
theorem d_M_turnsGate_13 : decode b_M_turnsGate 13 = .ok (.iconst 1, 1) := by decide +kernel
theorem d_M_turnsGate_14 : decode b_M_turnsGate 14 = .ok (.istore_n 3, 1) := by decide +kernel
theorem d_M_turnsGate_15 : decode b_M_turnsGate 15 = .ok (.aload_n 0, 1) := by decide +kernel
theorem d_M_turnsGate_16 : decode b_M_turnsGate 16 = .ok (.getfield 24, 3) := by decide +kernel
theorem d_M_turnsGate_19 : decode b_M_turnsGate 19 = .ok (.bipush 10, 2) := by decide +kernel
theorem d_M_turnsGate_21 : decode b_M_turnsGate 21 = .ok (.iload_n 1, 1) := by decide +kernel
theorem d_M_turnsGate_22 : decode b_M_turnsGate 22 = .ok (.iload_n 2, 1) := by decide +kernel
theorem d_M_turnsGate_23 : decode b_M_turnsGate 23 = .ok (.invokestatic 126, 3) := by decide +kernel
theorem d_M_turnsGate_26 : decode b_M_turnsGate 26 = .ok (.iadd, 1) := by decide +kernel
theorem d_M_turnsGate_27 : decode b_M_turnsGate 27 = .ok (.iload_n 3, 1) := by decide +kernel
theorem d_M_turnsGate_28 : decode b_M_turnsGate 28 = .ok (.iastore, 1) := by decide +kernel
theorem d_M_turnsGate_29 : decode b_M_turnsGate 29 = .ok (.aload_n 0, 1) := by decide +kernel
theorem d_M_turnsGate_30 : decode b_M_turnsGate 30 = .ok (.getfield 24, 3) := by decide +kernel
theorem d_M_turnsGate_33 : decode b_M_turnsGate 33 = .ok (.bipush 10, 2) := by decide +kernel
theorem d_M_turnsGate_35 : decode b_M_turnsGate 35 = .ok (.iload_n 2, 1) := by decide +kernel
theorem d_M_turnsGate_36 : decode b_M_turnsGate 36 = .ok (.iload_n 1, 1) := by decide +kernel
theorem d_M_turnsGate_37 : decode b_M_turnsGate 37 = .ok (.invokestatic 126, 3) := by decide +kernel
theorem d_M_turnsGate_40 : decode b_M_turnsGate 40 = .ok (.iadd, 1) := by decide +kernel
theorem d_M_turnsGate_41 : decode b_M_turnsGate 41 = .ok (.iload_n 3, 1) := by decide +kernel
theorem d_M_turnsGate_42 : decode b_M_turnsGate 42 = .ok (.iastore, 1) := by decide +kernel
theorem d_M_turnsGate_43 : decode b_M_turnsGate 43 = .ok (.iload_n 3, 1) := by decide +kernel
theorem d_M_turnsGate_44 : decode b_M_turnsGate 44 = .ok (.ireturn, 1) := by decide +kernel
theorem mf_M_turnsGate : zMF y_M_turnsGate b_M_turnsGate 4 (some .int) 2 := ⟨zGW_in 1753 (by decide +kernel) (by decide +kernel), zGW_in 135 (by decide +kernel) (by decide +kernel), by decide +kernel⟩
theorem in_M_turnsGate : Cond.instanceMethod y_M_turnsGate ∈ zGW := zGW_in 1752 (by decide +kernel) (by decide +kernel)
theorem se_M_turnsGate : Cond.selects y_M_turnsGate.cls y_M_turnsGate y_M_turnsGate ∈ zGW := zGW_in 95 (by decide +kernel) (by decide +kernel)
def y_M_gatesKept : MethodName := ⟨zNm 11, "gatesKept", "(II)I"⟩
abbrev b_M_gatesKept : ByteArray := prog_13_method_85_code
theorem d_M_gatesKept_0 : decode b_M_gatesKept 0 = .ok (.iload_n 1, 1) := by decide +kernel
theorem d_M_gatesKept_1 : decode b_M_gatesKept 1 = .ok (.iload_n 2, 1) := by decide +kernel
theorem d_M_gatesKept_2 : decode b_M_gatesKept 2 = .ok (.if_icmp .ne 5, 3) := by decide +kernel
theorem d_M_gatesKept_5 : decode b_M_gatesKept 5 = .ok (.iconst (-1), 1) := by decide +kernel
theorem d_M_gatesKept_6 : decode b_M_gatesKept 6 = .ok (.ireturn, 1) := by decide +kernel
theorem d_M_gatesKept_7 : decode b_M_gatesKept 7 = .ok (.aload_n 0, 1) := by decide +kernel
theorem d_M_gatesKept_8 : decode b_M_gatesKept 8 = .ok (.iload_n 1, 1) := by decide +kernel
theorem d_M_gatesKept_9 : decode b_M_gatesKept 9 = .ok (.iload_n 2, 1) := by decide +kernel
theorem d_M_gatesKept_10 : decode b_M_gatesKept 10 = .ok (.invokevirtual 130, 3) := by decide +kernel
theorem d_M_gatesKept_13 : decode b_M_gatesKept 13 = .ok (.ifCond .ne 6, 3) := by decide +kernel
theorem d_M_gatesKept_16 : decode b_M_gatesKept 16 = .ok (.bipush (-2), 2) := by decide +kernel
theorem d_M_gatesKept_18 : decode b_M_gatesKept 18 = .ok (.ireturn, 1) := by decide +kernel
theorem d_M_gatesKept_19 : decode b_M_gatesKept 19 = .ok (.aload_n 0, 1) := by decide +kernel
theorem d_M_gatesKept_20 : decode b_M_gatesKept 20 = .ok (.iload_n 1, 1) := by decide +kernel
theorem d_M_gatesKept_21 : decode b_M_gatesKept 21 = .ok (.iload_n 2, 1) := by decide +kernel
theorem d_M_gatesKept_22 : decode b_M_gatesKept 22 = .ok (.invokevirtual 134, 3) := by decide +kernel
theorem d_M_gatesKept_25 : decode b_M_gatesKept 25 = .ok (.ifCond .ne 6, 3) := by decide +kernel
theorem d_M_gatesKept_28 : decode b_M_gatesKept 28 = .ok (.bipush (-3), 2) := by decide +kernel
theorem d_M_gatesKept_30 : decode b_M_gatesKept 30 = .ok (.ireturn, 1) := by decide +kernel
theorem d_M_gatesKept_31 : decode b_M_gatesKept 31 = .ok (.aload_n 0, 1) := by decide +kernel
theorem d_M_gatesKept_32 : decode b_M_gatesKept 32 = .ok (.iconst 1, 1) := by decide +kernel
theorem d_M_gatesKept_33 : decode b_M_gatesKept 33 = .ok (.invokevirtual 348, 3) := by decide +kernel
theorem d_M_gatesKept_36 : decode b_M_gatesKept 36 = .ok (.aload_n 0, 1) := by decide +kernel
theorem d_M_gatesKept_37 : decode b_M_gatesKept 37 = .ok (.iload_n 1, 1) := by decide +kernel
theorem d_M_gatesKept_38 : decode b_M_gatesKept 38 = .ok (.iload_n 2, 1) := by decide +kernel
theorem d_M_gatesKept_39 : decode b_M_gatesKept 39 = .ok (.invokevirtual 351, 3) := by decide +kernel
theorem d_M_gatesKept_42 : decode b_M_gatesKept 42 = .ok (.ireturn, 1) := by decide +kernel
theorem mf_M_gatesKept : zMF y_M_gatesKept b_M_gatesKept 3 (some .int) 2 := ⟨zGW_in 1749 (by decide +kernel) (by decide +kernel), zGW_in 135 (by decide +kernel) (by decide +kernel), by decide +kernel⟩
theorem in_M_gatesKept : Cond.instanceMethod y_M_gatesKept ∈ zGW := zGW_in 1748 (by decide +kernel) (by decide +kernel)
theorem se_M_gatesKept : Cond.selects y_M_gatesKept.cls y_M_gatesKept y_M_gatesKept ∈ zGW := zGW_in 94 (by decide +kernel) (by decide +kernel)
def y_M_gate : MethodName := ⟨zNm 11, "gate", "(II)I"⟩
abbrev b_M_gate : ByteArray := prog_13_method_90_code
theorem d_M_gate_0 : decode b_M_gate 0 = .ok (.aload_n 0, 1) := by decide +kernel
theorem d_M_gate_1 : decode b_M_gate 1 = .ok (.aload_n 0, 1) := by decide +kernel
theorem d_M_gate_2 : decode b_M_gate 2 = .ok (.iload_n 1, 1) := by decide +kernel
theorem d_M_gate_3 : decode b_M_gate 3 = .ok (.iload_n 2, 1) := by decide +kernel
theorem d_M_gate_4 : decode b_M_gate 4 = .ok (.invokevirtual 363, 3) := by decide +kernel
theorem d_M_gate_7 : decode b_M_gate 7 = .ok (.invokevirtual 360, 3) := by decide +kernel
theorem d_M_gate_10 : decode b_M_gate 10 = .ok (.ireturn, 1) := by decide +kernel
theorem mf_M_gate : zMF y_M_gate b_M_gate 3 (some .int) 2 := ⟨zGW_in 1745 (by decide +kernel) (by decide +kernel), zGW_in 135 (by decide +kernel) (by decide +kernel), by decide +kernel⟩
theorem in_M_gate : Cond.instanceMethod y_M_gate ∈ zGW := zGW_in 1743 (by decide +kernel) (by decide +kernel)
theorem se_M_gate : Cond.selects y_M_gate.cls y_M_gate y_M_gate ∈ zGW := zGW_in 1744 (by decide +kernel) (by decide +kernel)
def y_M_stirsKept : MethodName := ⟨zNm 11, "stirsKept", "(II)I"⟩
abbrev b_M_stirsKept : ByteArray := prog_13_method_86_code
theorem d_M_stirsKept_0 : decode b_M_stirsKept 0 = .ok (.iload_n 2, 1) := by decide +kernel
theorem d_M_stirsKept_1 : decode b_M_stirsKept 1 = .ok (.iconst 0, 1) := by decide +kernel
theorem d_M_stirsKept_2 : decode b_M_stirsKept 2 = .ok (.bipush 9, 2) := by decide +kernel
theorem d_M_stirsKept_4 : decode b_M_stirsKept 4 = .ok (.invokestatic 108, 3) := by decide +kernel
theorem d_M_stirsKept_7 : decode b_M_stirsKept 7 = .ok (.ifCond .ne 5, 3) := by decide +kernel
theorem d_M_stirsKept_10 : decode b_M_stirsKept 10 = .ok (.iconst (-1), 1) := by decide +kernel
theorem d_M_stirsKept_11 : decode b_M_stirsKept 11 = .ok (.ireturn, 1) := by decide +kernel
theorem d_M_stirsKept_12 : decode b_M_stirsKept 12 = .ok (.aload_n 0, 1) := by decide +kernel
theorem d_M_stirsKept_13 : decode b_M_stirsKept 13 = .ok (.iload_n 1, 1) := by decide +kernel
theorem d_M_stirsKept_14 : decode b_M_stirsKept 14 = .ok (.invokevirtual 122, 3) := by decide +kernel
theorem d_M_stirsKept_17 : decode b_M_stirsKept 17 = .ok (.ifCond .ne 6, 3) := by decide +kernel
theorem d_M_stirsKept_20 : decode b_M_stirsKept 20 = .ok (.bipush (-2), 2) := by decide +kernel
theorem d_M_stirsKept_22 : decode b_M_stirsKept 22 = .ok (.ireturn, 1) := by decide +kernel
theorem d_M_stirsKept_23 : decode b_M_stirsKept 23 = .ok (.aload_n 0, 1) := by decide +kernel
theorem d_M_stirsKept_24 : decode b_M_stirsKept 24 = .ok (.getfield 24, 3) := by decide +kernel
theorem d_M_stirsKept_27 : decode b_M_stirsKept 27 = .ok (.iconst 1, 1) := by decide +kernel
theorem d_M_stirsKept_28 : decode b_M_stirsKept 28 = .ok (.iload_n 1, 1) := by decide +kernel
theorem d_M_stirsKept_29 : decode b_M_stirsKept 29 = .ok (.iadd, 1) := by decide +kernel
theorem d_M_stirsKept_30 : decode b_M_stirsKept 30 = .ok (.iaload, 1) := by decide +kernel
theorem d_M_stirsKept_31 : decode b_M_stirsKept 31 = .ok (.istore_n 3, 1) := by decide +kernel
theorem d_M_stirsKept_32 : decode b_M_stirsKept 32 = .ok (.iload_n 3, 1) := by decide +kernel
theorem d_M_stirsKept_33 : decode b_M_stirsKept 33 = .ok (.iload_n 2, 1) := by decide +kernel
theorem d_M_stirsKept_34 : decode b_M_stirsKept 34 = .ok (.if_icmp .ne 6, 3) := by decide +kernel
theorem d_M_stirsKept_37 : decode b_M_stirsKept 37 = .ok (.bipush (-3), 2) := by decide +kernel
theorem d_M_stirsKept_39 : decode b_M_stirsKept 39 = .ok (.ireturn, 1) := by decide +kernel
theorem d_M_stirsKept_40 : decode b_M_stirsKept 40 = .ok (.aload_n 0, 1) := by decide +kernel
theorem d_M_stirsKept_41 : decode b_M_stirsKept 41 = .ok (.iconst 2, 1) := by decide +kernel
theorem d_M_stirsKept_42 : decode b_M_stirsKept 42 = .ok (.invokevirtual 348, 3) := by decide +kernel
theorem d_M_stirsKept_45 : decode b_M_stirsKept 45 = .ok (.aload_n 0, 1) := by decide +kernel
theorem d_M_stirsKept_46 : decode b_M_stirsKept 46 = .ok (.getfield 24, 3) := by decide +kernel
theorem d_M_stirsKept_49 : decode b_M_stirsKept 49 = .ok (.iconst 1, 1) := by decide +kernel
theorem d_M_stirsKept_50 : decode b_M_stirsKept 50 = .ok (.iload_n 1, 1) := by decide +kernel
theorem d_M_stirsKept_51 : decode b_M_stirsKept 51 = .ok (.iadd, 1) := by decide +kernel
theorem d_M_stirsKept_52 : decode b_M_stirsKept 52 = .ok (.iload_n 2, 1) := by decide +kernel
theorem d_M_stirsKept_53 : decode b_M_stirsKept 53 = .ok (.iastore, 1) := by decide +kernel
theorem d_M_stirsKept_54 : decode b_M_stirsKept 54 = .ok (.iload_n 3, 1) := by decide +kernel
theorem d_M_stirsKept_55 : decode b_M_stirsKept 55 = .ok (.ireturn, 1) := by decide +kernel
theorem mf_M_stirsKept : zMF y_M_stirsKept b_M_stirsKept 4 (some .int) 2 := ⟨zGW_in 1761 (by decide +kernel) (by decide +kernel), zGW_in 135 (by decide +kernel) (by decide +kernel), by decide +kernel⟩
theorem in_M_stirsKept : Cond.instanceMethod y_M_stirsKept ∈ zGW := zGW_in 1760 (by decide +kernel) (by decide +kernel)
theorem se_M_stirsKept : Cond.selects y_M_stirsKept.cls y_M_stirsKept y_M_stirsKept ∈ zGW := zGW_in 96 (by decide +kernel) (by decide +kernel)
def y_M_stir : MethodName := ⟨zNm 11, "stir", "(II)I"⟩
abbrev b_M_stir : ByteArray := prog_13_method_91_code
theorem d_M_stir_0 : decode b_M_stir 0 = .ok (.aload_n 0, 1) := by decide +kernel
theorem d_M_stir_1 : decode b_M_stir 1 = .ok (.aload_n 0, 1) := by decide +kernel
theorem d_M_stir_2 : decode b_M_stir 2 = .ok (.iload_n 1, 1) := by decide +kernel
theorem d_M_stir_3 : decode b_M_stir 3 = .ok (.iload_n 2, 1) := by decide +kernel
theorem d_M_stir_4 : decode b_M_stir 4 = .ok (.invokevirtual 366, 3) := by decide +kernel
theorem d_M_stir_7 : decode b_M_stir 7 = .ok (.invokevirtual 360, 3) := by decide +kernel
theorem d_M_stir_10 : decode b_M_stir 10 = .ok (.ireturn, 1) := by decide +kernel
theorem mf_M_stir : zMF y_M_stir b_M_stir 3 (some .int) 2 := ⟨zGW_in 1757 (by decide +kernel) (by decide +kernel), zGW_in 135 (by decide +kernel) (by decide +kernel), by decide +kernel⟩
theorem in_M_stir : Cond.instanceMethod y_M_stir ∈ zGW := zGW_in 1755 (by decide +kernel) (by decide +kernel)
theorem se_M_stir : Cond.selects y_M_stir.cls y_M_stir y_M_stir ∈ zGW := zGW_in 1756 (by decide +kernel) (by decide +kernel)
def y_M_dayPasses : MethodName := ⟨zNm 11, "dayPasses", "()I"⟩
abbrev b_M_dayPasses : ByteArray := prog_13_method_87_code
theorem d_M_dayPasses_0 : decode b_M_dayPasses 0 = .ok (.iconst 0, 1) := by decide +kernel
theorem d_M_dayPasses_1 : decode b_M_dayPasses 1 = .ok (.istore_n 1, 1) := by decide +kernel
theorem d_M_dayPasses_2 : decode b_M_dayPasses 2 = .ok (.iconst 0, 1) := by decide +kernel
theorem d_M_dayPasses_3 : decode b_M_dayPasses 3 = .ok (.istore_n 2, 1) := by decide +kernel
theorem d_M_dayPasses_4 : decode b_M_dayPasses 4 = .ok (.iload_n 2, 1) := by decide +kernel
theorem d_M_dayPasses_5 : decode b_M_dayPasses 5 = .ok (.aload_n 0, 1) := by decide +kernel
theorem d_M_dayPasses_6 : decode b_M_dayPasses 6 = .ok (.invokevirtual 118, 3) := by decide +kernel
theorem d_M_dayPasses_9 : decode b_M_dayPasses 9 = .ok (.if_icmp .ge 20, 3) := by decide +kernel
theorem d_M_dayPasses_12 : decode b_M_dayPasses 12 = .ok (.aload_n 0, 1) := by decide +kernel
theorem d_M_dayPasses_13 : decode b_M_dayPasses 13 = .ok (.getfield 71, 3) := by decide +kernel
theorem d_M_dayPasses_16 : decode b_M_dayPasses 16 = .ok (.iload_n 2, 1) := by decide +kernel
theorem d_M_dayPasses_17 : decode b_M_dayPasses 17 = .ok (.aload_n 0, 1) := by decide +kernel
theorem d_M_dayPasses_18 : decode b_M_dayPasses 18 = .ok (.iload_n 2, 1) := by decide +kernel
theorem d_M_dayPasses_19 : decode b_M_dayPasses 19 = .ok (.invokevirtual 141, 3) := by decide +kernel
theorem d_M_dayPasses_22 : decode b_M_dayPasses 22 = .ok (.iastore, 1) := by decide +kernel
theorem d_M_dayPasses_23 : decode b_M_dayPasses 23 = .ok (.iinc 2 1, 3) := by decide +kernel
theorem d_M_dayPasses_26 : decode b_M_dayPasses 26 = .ok (.goto (-22), 3) := by decide +kernel
theorem d_M_dayPasses_29 : decode b_M_dayPasses 29 = .ok (.iconst 0, 1) := by decide +kernel
theorem d_M_dayPasses_30 : decode b_M_dayPasses 30 = .ok (.istore_n 2, 1) := by decide +kernel
theorem d_M_dayPasses_31 : decode b_M_dayPasses 31 = .ok (.iload_n 2, 1) := by decide +kernel
theorem d_M_dayPasses_32 : decode b_M_dayPasses 32 = .ok (.aload_n 0, 1) := by decide +kernel
theorem d_M_dayPasses_33 : decode b_M_dayPasses 33 = .ok (.invokevirtual 118, 3) := by decide +kernel
theorem d_M_dayPasses_36 : decode b_M_dayPasses 36 = .ok (.if_icmp .ge 48, 3) := by decide +kernel
theorem d_M_dayPasses_39 : decode b_M_dayPasses 39 = .ok (.iload_n 1, 1) := by decide +kernel
theorem d_M_dayPasses_40 : decode b_M_dayPasses 40 = .ok (.aload_n 0, 1) := by decide +kernel
theorem d_M_dayPasses_41 : decode b_M_dayPasses 41 = .ok (.getfield 71, 3) := by decide +kernel
theorem d_M_dayPasses_44 : decode b_M_dayPasses 44 = .ok (.iload_n 2, 1) := by decide +kernel
theorem d_M_dayPasses_45 : decode b_M_dayPasses 45 = .ok (.iaload, 1) := by decide +kernel
theorem d_M_dayPasses_46 : decode b_M_dayPasses 46 = .ok (.aload_n 0, 1) := by decide +kernel
theorem d_M_dayPasses_47 : decode b_M_dayPasses 47 = .ok (.getfield 24, 3) := by decide +kernel
theorem d_M_dayPasses_50 : decode b_M_dayPasses 50 = .ok (.iconst 1, 1) := by decide +kernel
theorem d_M_dayPasses_51 : decode b_M_dayPasses 51 = .ok (.iload_n 2, 1) := by decide +kernel
theorem d_M_dayPasses_52 : decode b_M_dayPasses 52 = .ok (.iadd, 1) := by decide +kernel
theorem d_M_dayPasses_53 : decode b_M_dayPasses 53 = .ok (.iaload, 1) := by decide +kernel
theorem d_M_dayPasses_54 : decode b_M_dayPasses 54 = .ok (.if_icmp .ne 7, 3) := by decide +kernel
theorem d_M_dayPasses_57 : decode b_M_dayPasses 57 = .ok (.iconst 0, 1) := by decide +kernel
theorem d_M_dayPasses_58 : decode b_M_dayPasses 58 = .ok (.goto 4, 3) := by decide +kernel
theorem d_M_dayPasses_61 : decode b_M_dayPasses 61 = .ok (.iconst 1, 1) := by decide +kernel
theorem d_M_dayPasses_62 : decode b_M_dayPasses 62 = .ok (.iadd, 1) := by decide +kernel
theorem d_M_dayPasses_63 : decode b_M_dayPasses 63 = .ok (.istore_n 1, 1) := by decide +kernel
theorem d_M_dayPasses_64 : decode b_M_dayPasses 64 = .ok (.aload_n 0, 1) := by decide +kernel
theorem d_M_dayPasses_65 : decode b_M_dayPasses 65 = .ok (.getfield 24, 3) := by decide +kernel
theorem d_M_dayPasses_68 : decode b_M_dayPasses 68 = .ok (.iconst 1, 1) := by decide +kernel
theorem d_M_dayPasses_69 : decode b_M_dayPasses 69 = .ok (.iload_n 2, 1) := by decide +kernel
theorem d_M_dayPasses_70 : decode b_M_dayPasses 70 = .ok (.iadd, 1) := by decide +kernel
theorem d_M_dayPasses_71 : decode b_M_dayPasses 71 = .ok (.aload_n 0, 1) := by decide +kernel
theorem d_M_dayPasses_72 : decode b_M_dayPasses 72 = .ok (.getfield 71, 3) := by decide +kernel
theorem d_M_dayPasses_75 : decode b_M_dayPasses 75 = .ok (.iload_n 2, 1) := by decide +kernel
theorem d_M_dayPasses_76 : decode b_M_dayPasses 76 = .ok (.iaload, 1) := by decide +kernel
theorem d_M_dayPasses_77 : decode b_M_dayPasses 77 = .ok (.iastore, 1) := by decide +kernel
theorem d_M_dayPasses_78 : decode b_M_dayPasses 78 = .ok (.iinc 2 1, 3) := by decide +kernel
theorem d_M_dayPasses_81 : decode b_M_dayPasses 81 = .ok (.goto (-50), 3) := by decide +kernel
theorem d_M_dayPasses_84 : decode b_M_dayPasses 84 = .ok (.aload_n 0, 1) := by decide +kernel
theorem d_M_dayPasses_85 : decode b_M_dayPasses 85 = .ok (.getfield 24, 3) := by decide +kernel
theorem d_M_dayPasses_88 : decode b_M_dayPasses 88 = .ok (.bipush 91, 2) := by decide +kernel
theorem d_M_dayPasses_90 : decode b_M_dayPasses 90 = .ok (.dup2, 1) := by decide +kernel
theorem d_M_dayPasses_91 : decode b_M_dayPasses 91 = .ok (.iaload, 1) := by decide +kernel
theorem d_M_dayPasses_92 : decode b_M_dayPasses 92 = .ok (.iconst 1, 1) := by decide +kernel
theorem d_M_dayPasses_93 : decode b_M_dayPasses 93 = .ok (.iadd, 1) := by decide +kernel
theorem d_M_dayPasses_94 : decode b_M_dayPasses 94 = .ok (.iastore, 1) := by decide +kernel
theorem d_M_dayPasses_95 : decode b_M_dayPasses 95 = .ok (.iload_n 1, 1) := by decide +kernel
theorem d_M_dayPasses_96 : decode b_M_dayPasses 96 = .ok (.ireturn, 1) := by decide +kernel
theorem mf_M_dayPasses : zMF y_M_dayPasses b_M_dayPasses 3 (some .int) 0 := ⟨zGW_in 1773 (by decide +kernel) (by decide +kernel), zGW_in 135 (by decide +kernel) (by decide +kernel), by decide +kernel⟩
theorem in_M_dayPasses : Cond.instanceMethod y_M_dayPasses ∈ zGW := zGW_in 1772 (by decide +kernel) (by decide +kernel)
theorem se_M_dayPasses : Cond.selects y_M_dayPasses.cls y_M_dayPasses y_M_dayPasses ∈ zGW := zGW_in 98 (by decide +kernel) (by decide +kernel)
def y_M_passesKept : MethodName := ⟨zNm 11, "passesKept", "()I"⟩
abbrev b_M_passesKept : ByteArray := prog_13_method_88_code
theorem d_M_passesKept_0 : decode b_M_passesKept 0 = .ok (.aload_n 0, 1) := by decide +kernel
theorem d_M_passesKept_1 : decode b_M_passesKept 1 = .ok (.getfield 24, 3) := by decide +kernel
theorem d_M_passesKept_4 : decode b_M_passesKept 4 = .ok (.bipush 91, 2) := by decide +kernel
theorem d_M_passesKept_6 : decode b_M_passesKept 6 = .ok (.iaload, 1) := by decide +kernel
theorem d_M_passesKept_7 : decode b_M_passesKept 7 = .ok (.sipush 999, 3) := by decide +kernel
theorem d_M_passesKept_10 : decode b_M_passesKept 10 = .ok (.if_icmp .ne 6, 3) := by decide +kernel
theorem d_M_passesKept_13 : decode b_M_passesKept 13 = .ok (.bipush (-3), 2) := by decide +kernel
theorem d_M_passesKept_15 : decode b_M_passesKept 15 = .ok (.ireturn, 1) := by decide +kernel
theorem d_M_passesKept_16 : decode b_M_passesKept 16 = .ok (.aload_n 0, 1) := by decide +kernel
theorem d_M_passesKept_17 : decode b_M_passesKept 17 = .ok (.iconst 3, 1) := by decide +kernel
theorem d_M_passesKept_18 : decode b_M_passesKept 18 = .ok (.invokevirtual 348, 3) := by decide +kernel
theorem d_M_passesKept_21 : decode b_M_passesKept 21 = .ok (.aload_n 0, 1) := by decide +kernel
theorem d_M_passesKept_22 : decode b_M_passesKept 22 = .ok (.invokevirtual 354, 3) := by decide +kernel
theorem d_M_passesKept_25 : decode b_M_passesKept 25 = .ok (.ireturn, 1) := by decide +kernel
theorem mf_M_passesKept : zMF y_M_passesKept b_M_passesKept 1 (some .int) 0 := ⟨zGW_in 1769 (by decide +kernel) (by decide +kernel), zGW_in 135 (by decide +kernel) (by decide +kernel), by decide +kernel⟩
theorem in_M_passesKept : Cond.instanceMethod y_M_passesKept ∈ zGW := zGW_in 1768 (by decide +kernel) (by decide +kernel)
theorem se_M_passesKept : Cond.selects y_M_passesKept.cls y_M_passesKept y_M_passesKept ∈ zGW := zGW_in 97 (by decide +kernel) (by decide +kernel)
def y_M_pass : MethodName := ⟨zNm 11, "pass", "()I"⟩
abbrev b_M_pass : ByteArray := prog_13_method_92_code
theorem d_M_pass_0 : decode b_M_pass 0 = .ok (.aload_n 0, 1) := by decide +kernel
theorem d_M_pass_1 : decode b_M_pass 1 = .ok (.aload_n 0, 1) := by decide +kernel
theorem d_M_pass_2 : decode b_M_pass 2 = .ok (.invokevirtual 369, 3) := by decide +kernel
theorem d_M_pass_5 : decode b_M_pass 5 = .ok (.invokevirtual 360, 3) := by decide +kernel
theorem d_M_pass_8 : decode b_M_pass 8 = .ok (.ireturn, 1) := by decide +kernel
theorem mf_M_pass : zMF y_M_pass b_M_pass 1 (some .int) 0 := ⟨zGW_in 1765 (by decide +kernel) (by decide +kernel), zGW_in 135 (by decide +kernel) (by decide +kernel), by decide +kernel⟩
theorem in_M_pass : Cond.instanceMethod y_M_pass ∈ zGW := zGW_in 1763 (by decide +kernel) (by decide +kernel)
theorem se_M_pass : Cond.selects y_M_pass.cls y_M_pass y_M_pass ∈ zGW := zGW_in 1764 (by decide +kernel) (by decide +kernel)
def y_M_lesser : MethodName := ⟨zNm 11, "lesser", "(II)I"⟩
abbrev b_M_lesser : ByteArray := prog_13_method_2_code
theorem d_M_lesser_0 : decode b_M_lesser 0 = .ok (.iload_n 0, 1) := by decide +kernel
theorem d_M_lesser_1 : decode b_M_lesser 1 = .ok (.iload_n 1, 1) := by decide +kernel
theorem d_M_lesser_2 : decode b_M_lesser 2 = .ok (.if_icmp .ge 7, 3) := by decide +kernel
theorem d_M_lesser_5 : decode b_M_lesser 5 = .ok (.iload_n 0, 1) := by decide +kernel
theorem d_M_lesser_6 : decode b_M_lesser 6 = .ok (.goto 4, 3) := by decide +kernel
theorem d_M_lesser_9 : decode b_M_lesser 9 = .ok (.iload_n 1, 1) := by decide +kernel
theorem d_M_lesser_10 : decode b_M_lesser 10 = .ok (.ireturn, 1) := by decide +kernel
theorem mf_M_lesser : zMF y_M_lesser b_M_lesser 2 (some .int) 2 := ⟨zGW_in 1784 (by decide +kernel) (by decide +kernel), zGW_in 135 (by decide +kernel) (by decide +kernel), by decide +kernel⟩
theorem st_M_lesser : Cond.static y_M_lesser ∈ zGW := zGW_in 1783 (by decide +kernel) (by decide +kernel)
def y_M_laysSoon : MethodName := ⟨zNm 11, "laysSoon", "()V"⟩
abbrev b_M_laysSoon : ByteArray := prog_13_method_93_code
theorem d_M_laysSoon_0 : decode b_M_laysSoon 0 = .ok (.iconst 0, 1) := by decide +kernel
theorem d_M_laysSoon_1 : decode b_M_laysSoon 1 = .ok (.istore_n 1, 1) := by decide +kernel
theorem d_M_laysSoon_2 : decode b_M_laysSoon 2 = .ok (.iload_n 1, 1) := by decide +kernel
theorem d_M_laysSoon_3 : decode b_M_laysSoon 3 = .ok (.aload_n 0, 1) := by decide +kernel
theorem d_M_laysSoon_4 : decode b_M_laysSoon 4 = .ok (.invokevirtual 118, 3) := by decide +kernel
theorem d_M_laysSoon_7 : decode b_M_laysSoon 7 = .ok (.if_icmp .ge 84, 3) := by decide +kernel
theorem d_M_laysSoon_10 : decode b_M_laysSoon 10 = .ok (.iconst 0, 1) := by decide +kernel
theorem d_M_laysSoon_11 : decode b_M_laysSoon 11 = .ok (.istore_n 2, 1) := by decide +kernel
theorem d_M_laysSoon_12 : decode b_M_laysSoon 12 = .ok (.iload_n 2, 1) := by decide +kernel
theorem d_M_laysSoon_13 : decode b_M_laysSoon 13 = .ok (.aload_n 0, 1) := by decide +kernel
theorem d_M_laysSoon_14 : decode b_M_laysSoon 14 = .ok (.invokevirtual 118, 3) := by decide +kernel
theorem d_M_laysSoon_17 : decode b_M_laysSoon 17 = .ok (.if_icmp .ge 68, 3) := by decide +kernel
theorem d_M_laysSoon_20 : decode b_M_laysSoon 20 = .ok (.aload_n 0, 1) := by decide +kernel
theorem d_M_laysSoon_21 : decode b_M_laysSoon 21 = .ok (.getfield 74, 3) := by decide +kernel
theorem d_M_laysSoon_24 : decode b_M_laysSoon 24 = .ok (.iload_n 1, 1) := by decide +kernel
theorem d_M_laysSoon_25 : decode b_M_laysSoon 25 = .ok (.iload_n 2, 1) := by decide +kernel
theorem d_M_laysSoon_26 : decode b_M_laysSoon 26 = .ok (.invokestatic 126, 3) := by decide +kernel
theorem d_M_laysSoon_29 : decode b_M_laysSoon 29 = .ok (.aload_n 0, 1) := by decide +kernel
theorem d_M_laysSoon_30 : decode b_M_laysSoon 30 = .ok (.iload_n 1, 1) := by decide +kernel
theorem d_M_laysSoon_31 : decode b_M_laysSoon 31 = .ok (.iload_n 2, 1) := by decide +kernel
theorem d_M_laysSoon_32 : decode b_M_laysSoon 32 = .ok (.invokevirtual 345, 3) := by decide +kernel
theorem d_M_laysSoon_35 : decode b_M_laysSoon 35 = .ok (.ifCond .eq 12, 3) := by decide +kernel
theorem d_M_laysSoon_38 : decode b_M_laysSoon 38 = .ok (.aload_n 0, 1) := by decide +kernel
theorem d_M_laysSoon_39 : decode b_M_laysSoon 39 = .ok (.iload_n 1, 1) := by decide +kernel
theorem d_M_laysSoon_40 : decode b_M_laysSoon 40 = .ok (.iload_n 2, 1) := by decide +kernel
theorem d_M_laysSoon_41 : decode b_M_laysSoon 41 = .ok (.invokevirtual 144, 3) := by decide +kernel
theorem d_M_laysSoon_44 : decode b_M_laysSoon 44 = .ok (.goto 5, 3) := by decide +kernel
theorem d_M_laysSoon_47 : decode b_M_laysSoon 47 = .ok (.ldc 177, 2) := by decide +kernel
theorem d_M_laysSoon_49 : decode b_M_laysSoon 49 = .ok (.iastore, 1) := by decide +kernel
theorem d_M_laysSoon_50 : decode b_M_laysSoon 50 = .ok (.aload_n 0, 1) := by decide +kernel
theorem d_M_laysSoon_51 : decode b_M_laysSoon 51 = .ok (.getfield 77, 3) := by decide +kernel
theorem d_M_laysSoon_54 : decode b_M_laysSoon 54 = .ok (.iload_n 1, 1) := by decide +kernel
theorem d_M_laysSoon_55 : decode b_M_laysSoon 55 = .ok (.iload_n 2, 1) := by decide +kernel
theorem d_M_laysSoon_56 : decode b_M_laysSoon 56 = .ok (.invokestatic 126, 3) := by decide +kernel
theorem d_M_laysSoon_59 : decode b_M_laysSoon 59 = .ok (.iload_n 1, 1) := by decide +kernel
theorem d_M_laysSoon_60 : decode b_M_laysSoon 60 = .ok (.iload_n 2, 1) := by decide +kernel
theorem d_M_laysSoon_61 : decode b_M_laysSoon 61 = .ok (.if_icmp .ne 7, 3) := by decide +kernel
theorem d_M_laysSoon_64 : decode b_M_laysSoon 64 = .ok (.iconst 0, 1) := by decide +kernel
theorem d_M_laysSoon_65 : decode b_M_laysSoon 65 = .ok (.goto 13, 3) := by decide +kernel
theorem d_M_laysSoon_68 : decode b_M_laysSoon 68 = .ok (.aload_n 0, 1) := by decide +kernel
theorem d_M_laysSoon_69 : decode b_M_laysSoon 69 = .ok (.getfield 74, 3) := by decide +kernel
theorem d_M_laysSoon_72 : decode b_M_laysSoon 72 = .ok (.iload_n 1, 1) := by decide +kernel
theorem d_M_laysSoon_73 : decode b_M_laysSoon 73 = .ok (.iload_n 2, 1) := by decide +kernel
theorem d_M_laysSoon_74 : decode b_M_laysSoon 74 = .ok (.invokestatic 126, 3) := by decide +kernel
theorem d_M_laysSoon_77 : decode b_M_laysSoon 77 = .ok (.iaload, 1) := by decide +kernel
theorem d_M_laysSoon_78 : decode b_M_laysSoon 78 = .ok (.iastore, 1) := by decide +kernel
theorem d_M_laysSoon_79 : decode b_M_laysSoon 79 = .ok (.iinc 2 1, 3) := by decide +kernel
theorem d_M_laysSoon_82 : decode b_M_laysSoon 82 = .ok (.goto (-70), 3) := by decide +kernel
theorem d_M_laysSoon_85 : decode b_M_laysSoon 85 = .ok (.iinc 1 1, 3) := by decide +kernel
theorem d_M_laysSoon_88 : decode b_M_laysSoon 88 = .ok (.goto (-86), 3) := by decide +kernel
theorem d_M_laysSoon_91 : decode b_M_laysSoon 91 = .ok (.iconst 0, 1) := by decide +kernel
theorem d_M_laysSoon_92 : decode b_M_laysSoon 92 = .ok (.istore_n 1, 1) := by decide +kernel
theorem d_M_laysSoon_93 : decode b_M_laysSoon 93 = .ok (.iload_n 1, 1) := by decide +kernel
theorem d_M_laysSoon_94 : decode b_M_laysSoon 94 = .ok (.aload_n 0, 1) := by decide +kernel
theorem d_M_laysSoon_95 : decode b_M_laysSoon 95 = .ok (.invokevirtual 118, 3) := by decide +kernel
theorem d_M_laysSoon_98 : decode b_M_laysSoon 98 = .ok (.if_icmp .ge 85, 3) := by decide +kernel
theorem d_M_laysSoon_101 : decode b_M_laysSoon 101 = .ok (.iconst 0, 1) := by decide +kernel
theorem d_M_laysSoon_102 : decode b_M_laysSoon 102 = .ok (.istore_n 2, 1) := by decide +kernel
theorem d_M_laysSoon_103 : decode b_M_laysSoon 103 = .ok (.iload_n 2, 1) := by decide +kernel
theorem d_M_laysSoon_104 : decode b_M_laysSoon 104 = .ok (.aload_n 0, 1) := by decide +kernel
theorem d_M_laysSoon_105 : decode b_M_laysSoon 105 = .ok (.invokevirtual 118, 3) := by decide +kernel
theorem d_M_laysSoon_108 : decode b_M_laysSoon 108 = .ok (.if_icmp .ge 69, 3) := by decide +kernel
theorem d_M_laysSoon_111 : decode b_M_laysSoon 111 = .ok (.iconst 0, 1) := by decide +kernel
theorem d_M_laysSoon_112 : decode b_M_laysSoon 112 = .ok (.istore_n 3, 1) := by decide +kernel
theorem d_M_laysSoon_113 : decode b_M_laysSoon 113 = .ok (.iload_n 3, 1) := by decide +kernel
theorem d_M_laysSoon_114 : decode b_M_laysSoon 114 = .ok (.aload_n 0, 1) := by decide +kernel
theorem d_M_laysSoon_115 : decode b_M_laysSoon 115 = .ok (.invokevirtual 118, 3) := by decide +kernel
theorem d_M_laysSoon_118 : decode b_M_laysSoon 118 = .ok (.if_icmp .ge 53, 3) := by decide +kernel
theorem d_M_laysSoon_121 : decode b_M_laysSoon 121 = .ok (.aload_n 0, 1) := by decide +kernel
theorem d_M_laysSoon_122 : decode b_M_laysSoon 122 = .ok (.getfield 77, 3) := by decide +kernel
theorem d_M_laysSoon_125 : decode b_M_laysSoon 125 = .ok (.iload_n 2, 1) := by decide +kernel
theorem d_M_laysSoon_126 : decode b_M_laysSoon 126 = .ok (.iload_n 3, 1) := by decide +kernel
theorem d_M_laysSoon_127 : decode b_M_laysSoon 127 = .ok (.invokestatic 126, 3) := by decide +kernel
theorem d_M_laysSoon_130 : decode b_M_laysSoon 130 = .ok (.aload_n 0, 1) := by decide +kernel
theorem d_M_laysSoon_131 : decode b_M_laysSoon 131 = .ok (.getfield 77, 3) := by decide +kernel
theorem d_M_laysSoon_134 : decode b_M_laysSoon 134 = .ok (.iload_n 2, 1) := by decide +kernel
theorem d_M_laysSoon_135 : decode b_M_laysSoon 135 = .ok (.iload_n 3, 1) := by decide +kernel
theorem d_M_laysSoon_136 : decode b_M_laysSoon 136 = .ok (.invokestatic 126, 3) := by decide +kernel
theorem d_M_laysSoon_139 : decode b_M_laysSoon 139 = .ok (.iaload, 1) := by decide +kernel
theorem d_M_laysSoon_140 : decode b_M_laysSoon 140 = .ok (.aload_n 0, 1) := by decide +kernel
theorem d_M_laysSoon_141 : decode b_M_laysSoon 141 = .ok (.getfield 77, 3) := by decide +kernel
theorem d_M_laysSoon_144 : decode b_M_laysSoon 144 = .ok (.iload_n 2, 1) := by decide +kernel
theorem d_M_laysSoon_145 : decode b_M_laysSoon 145 = .ok (.iload_n 1, 1) := by decide +kernel
theorem d_M_laysSoon_146 : decode b_M_laysSoon 146 = .ok (.invokestatic 126, 3) := by decide +kernel
theorem d_M_laysSoon_149 : decode b_M_laysSoon 149 = .ok (.iaload, 1) := by decide +kernel
theorem d_M_laysSoon_150 : decode b_M_laysSoon 150 = .ok (.aload_n 0, 1) := by decide +kernel
theorem d_M_laysSoon_151 : decode b_M_laysSoon 151 = .ok (.getfield 77, 3) := by decide +kernel
theorem d_M_laysSoon_154 : decode b_M_laysSoon 154 = .ok (.iload_n 1, 1) := by decide +kernel
theorem d_M_laysSoon_155 : decode b_M_laysSoon 155 = .ok (.iload_n 3, 1) := by decide +kernel
theorem d_M_laysSoon_156 : decode b_M_laysSoon 156 = .ok (.invokestatic 126, 3) := by decide +kernel
theorem d_M_laysSoon_159 : decode b_M_laysSoon 159 = .ok (.iaload, 1) := by decide +kernel
theorem d_M_laysSoon_160 : decode b_M_laysSoon 160 = .ok (.iadd, 1) := by decide +kernel
theorem d_M_laysSoon_161 : decode b_M_laysSoon 161 = .ok (.invokestatic 372, 3) := by decide +kernel
theorem d_M_laysSoon_164 : decode b_M_laysSoon 164 = .ok (.iastore, 1) := by decide +kernel
theorem d_M_laysSoon_165 : decode b_M_laysSoon 165 = .ok (.iinc 3 1, 3) := by decide +kernel
theorem d_M_laysSoon_168 : decode b_M_laysSoon 168 = .ok (.goto (-55), 3) := by decide +kernel
theorem d_M_laysSoon_171 : decode b_M_laysSoon 171 = .ok (.iinc 2 1, 3) := by decide +kernel
theorem d_M_laysSoon_174 : decode b_M_laysSoon 174 = .ok (.goto (-71), 3) := by decide +kernel
theorem d_M_laysSoon_177 : decode b_M_laysSoon 177 = .ok (.iinc 1 1, 3) := by decide +kernel
theorem d_M_laysSoon_180 : decode b_M_laysSoon 180 = .ok (.goto (-87), 3) := by decide +kernel
theorem d_M_laysSoon_183 : decode b_M_laysSoon 183 = .ok (.return_, 1) := by decide +kernel
theorem mf_M_laysSoon : zMF y_M_laysSoon b_M_laysSoon 4 none 0 := ⟨zGW_in 1781 (by decide +kernel) (by decide +kernel), zGW_in 135 (by decide +kernel) (by decide +kernel), by decide +kernel⟩
theorem in_M_laysSoon : Cond.instanceMethod y_M_laysSoon ∈ zGW := zGW_in 1780 (by decide +kernel) (by decide +kernel)
theorem se_M_laysSoon : Cond.selects y_M_laysSoon.cls y_M_laysSoon y_M_laysSoon ∈ zGW := zGW_in 99 (by decide +kernel) (by decide +kernel)
def y_M_soonOr : MethodName := ⟨zNm 11, "soonOr", "(II)I"⟩
abbrev b_M_soonOr : ByteArray := prog_13_method_94_code
theorem d_M_soonOr_0 : decode b_M_soonOr 0 = .ok (.aload_n 0, 1) := by decide +kernel
theorem d_M_soonOr_1 : decode b_M_soonOr 1 = .ok (.getfield 77, 3) := by decide +kernel
theorem d_M_soonOr_4 : decode b_M_soonOr 4 = .ok (.iload_n 1, 1) := by decide +kernel
theorem d_M_soonOr_5 : decode b_M_soonOr 5 = .ok (.iload_n 2, 1) := by decide +kernel
theorem d_M_soonOr_6 : decode b_M_soonOr 6 = .ok (.invokestatic 126, 3) := by decide +kernel
theorem d_M_soonOr_9 : decode b_M_soonOr 9 = .ok (.iaload, 1) := by decide +kernel
theorem d_M_soonOr_10 : decode b_M_soonOr 10 = .ok (.ldc 177, 2) := by decide +kernel
theorem d_M_soonOr_12 : decode b_M_soonOr 12 = .ok (.if_icmp .lt 7, 3) := by decide +kernel
theorem d_M_soonOr_15 : decode b_M_soonOr 15 = .ok (.iconst (-1), 1) := by decide +kernel
theorem d_M_soonOr_16 : decode b_M_soonOr 16 = .ok (.goto 13, 3) := by decide +kernel
theorem d_M_soonOr_19 : decode b_M_soonOr 19 = .ok (.aload_n 0, 1) := by decide +kernel
theorem d_M_soonOr_20 : decode b_M_soonOr 20 = .ok (.getfield 77, 3) := by decide +kernel
theorem d_M_soonOr_23 : decode b_M_soonOr 23 = .ok (.iload_n 1, 1) := by decide +kernel
theorem d_M_soonOr_24 : decode b_M_soonOr 24 = .ok (.iload_n 2, 1) := by decide +kernel
theorem d_M_soonOr_25 : decode b_M_soonOr 25 = .ok (.invokestatic 126, 3) := by decide +kernel
theorem d_M_soonOr_28 : decode b_M_soonOr 28 = .ok (.iaload, 1) := by decide +kernel
theorem d_M_soonOr_29 : decode b_M_soonOr 29 = .ok (.ireturn, 1) := by decide +kernel
theorem mf_M_soonOr : zMF y_M_soonOr b_M_soonOr 3 (some .int) 2 := ⟨zGW_in 1788 (by decide +kernel) (by decide +kernel), zGW_in 135 (by decide +kernel) (by decide +kernel), by decide +kernel⟩
theorem in_M_soonOr : Cond.instanceMethod y_M_soonOr ∈ zGW := zGW_in 1787 (by decide +kernel) (by decide +kernel)
theorem se_M_soonOr : Cond.selects y_M_soonOr.cls y_M_soonOr y_M_soonOr ∈ zGW := zGW_in 100 (by decide +kernel) (by decide +kernel)
def y_M_soon : MethodName := ⟨zNm 11, "soon", "(II)I"⟩
abbrev b_M_soon : ByteArray := prog_13_method_95_code
theorem d_M_soon_0 : decode b_M_soon 0 = .ok (.aload_n 0, 1) := by decide +kernel
theorem d_M_soon_1 : decode b_M_soon 1 = .ok (.iload_n 1, 1) := by decide +kernel
theorem d_M_soon_2 : decode b_M_soon 2 = .ok (.invokevirtual 122, 3) := by decide +kernel
theorem d_M_soon_5 : decode b_M_soon 5 = .ok (.ifCond .eq 11, 3) := by decide +kernel
theorem d_M_soon_8 : decode b_M_soon 8 = .ok (.aload_n 0, 1) := by decide +kernel
theorem d_M_soon_9 : decode b_M_soon 9 = .ok (.iload_n 2, 1) := by decide +kernel
theorem d_M_soon_10 : decode b_M_soon 10 = .ok (.invokevirtual 122, 3) := by decide +kernel
theorem d_M_soon_13 : decode b_M_soon 13 = .ok (.ifCond .ne 5, 3) := by decide +kernel
theorem d_M_soon_16 : decode b_M_soon 16 = .ok (.iconst (-1), 1) := by decide +kernel
theorem d_M_soon_17 : decode b_M_soon 17 = .ok (.ireturn, 1) := by decide +kernel
theorem d_M_soon_18 : decode b_M_soon 18 = .ok (.aload_n 0, 1) := by decide +kernel
theorem d_M_soon_19 : decode b_M_soon 19 = .ok (.invokevirtual 375, 3) := by decide +kernel
theorem d_M_soon_22 : decode b_M_soon 22 = .ok (.aload_n 0, 1) := by decide +kernel
theorem d_M_soon_23 : decode b_M_soon 23 = .ok (.iload_n 1, 1) := by decide +kernel
theorem d_M_soon_24 : decode b_M_soon 24 = .ok (.iload_n 2, 1) := by decide +kernel
theorem d_M_soon_25 : decode b_M_soon 25 = .ok (.invokevirtual 378, 3) := by decide +kernel
theorem d_M_soon_28 : decode b_M_soon 28 = .ok (.ireturn, 1) := by decide +kernel
theorem mf_M_soon : zMF y_M_soon b_M_soon 3 (some .int) 2 := ⟨zGW_in 1777 (by decide +kernel) (by decide +kernel), zGW_in 135 (by decide +kernel) (by decide +kernel), by decide +kernel⟩
theorem in_M_soon : Cond.instanceMethod y_M_soon ∈ zGW := zGW_in 1775 (by decide +kernel) (by decide +kernel)
theorem se_M_soon : Cond.selects y_M_soon.cls y_M_soon y_M_soon ∈ zGW := zGW_in 1776 (by decide +kernel) (by decide +kernel)
def y_M_nextTo : MethodName := ⟨zNm 11, "nextTo", "(II)I"⟩
abbrev b_M_nextTo : ByteArray := prog_13_method_97_code
theorem d_M_nextTo_0 : decode b_M_nextTo 0 = .ok (.iconst 0, 1) := by decide +kernel
theorem d_M_nextTo_1 : decode b_M_nextTo 1 = .ok (.istore_n 3, 1) := by decide +kernel
theorem d_M_nextTo_2 : decode b_M_nextTo 2 = .ok (.aload_n 0, 1) := by decide +kernel
theorem d_M_nextTo_3 : decode b_M_nextTo 3 = .ok (.getfield 74, 3) := by decide +kernel
theorem d_M_nextTo_6 : decode b_M_nextTo 6 = .ok (.iload_n 1, 1) := by decide +kernel
theorem d_M_nextTo_7 : decode b_M_nextTo 7 = .ok (.iload_n 3, 1) := by decide +kernel
theorem d_M_nextTo_8 : decode b_M_nextTo 8 = .ok (.invokestatic 126, 3) := by decide +kernel
theorem d_M_nextTo_11 : decode b_M_nextTo 11 = .ok (.iaload, 1) := by decide +kernel
theorem d_M_nextTo_12 : decode b_M_nextTo 12 = .ok (.ldc 177, 2) := by decide +kernel
theorem d_M_nextTo_14 : decode b_M_nextTo 14 = .ok (.if_icmp .ge 37, 3) := by decide +kernel
theorem d_M_nextTo_17 : decode b_M_nextTo 17 = .ok (.aload_n 0, 1) := by decide +kernel
theorem d_M_nextTo_18 : decode b_M_nextTo 18 = .ok (.getfield 74, 3) := by decide +kernel
theorem d_M_nextTo_21 : decode b_M_nextTo 21 = .ok (.iload_n 1, 1) := by decide +kernel
theorem d_M_nextTo_22 : decode b_M_nextTo 22 = .ok (.iload_n 3, 1) := by decide +kernel
theorem d_M_nextTo_23 : decode b_M_nextTo 23 = .ok (.invokestatic 126, 3) := by decide +kernel
theorem d_M_nextTo_26 : decode b_M_nextTo 26 = .ok (.iaload, 1) := by decide +kernel
theorem d_M_nextTo_27 : decode b_M_nextTo 27 = .ok (.aload_n 0, 1) := by decide +kernel
theorem d_M_nextTo_28 : decode b_M_nextTo 28 = .ok (.getfield 77, 3) := by decide +kernel
theorem d_M_nextTo_31 : decode b_M_nextTo 31 = .ok (.iload_n 3, 1) := by decide +kernel
theorem d_M_nextTo_32 : decode b_M_nextTo 32 = .ok (.iload_n 2, 1) := by decide +kernel
theorem d_M_nextTo_33 : decode b_M_nextTo 33 = .ok (.invokestatic 126, 3) := by decide +kernel
theorem d_M_nextTo_36 : decode b_M_nextTo 36 = .ok (.iaload, 1) := by decide +kernel
theorem d_M_nextTo_37 : decode b_M_nextTo 37 = .ok (.iadd, 1) := by decide +kernel
theorem d_M_nextTo_38 : decode b_M_nextTo 38 = .ok (.aload_n 0, 1) := by decide +kernel
theorem d_M_nextTo_39 : decode b_M_nextTo 39 = .ok (.getfield 77, 3) := by decide +kernel
theorem d_M_nextTo_42 : decode b_M_nextTo 42 = .ok (.iload_n 1, 1) := by decide +kernel
theorem d_M_nextTo_43 : decode b_M_nextTo 43 = .ok (.iload_n 2, 1) := by decide +kernel
theorem d_M_nextTo_44 : decode b_M_nextTo 44 = .ok (.invokestatic 126, 3) := by decide +kernel
theorem d_M_nextTo_47 : decode b_M_nextTo 47 = .ok (.iaload, 1) := by decide +kernel
theorem d_M_nextTo_48 : decode b_M_nextTo 48 = .ok (.if_icmp .eq 9, 3) := by decide +kernel
theorem d_M_nextTo_51 : decode b_M_nextTo 51 = .ok (.iinc 3 1, 3) := by decide +kernel
theorem d_M_nextTo_54 : decode b_M_nextTo 54 = .ok (.goto (-52), 3) := by decide +kernel
theorem d_M_nextTo_57 : decode b_M_nextTo 57 = .ok (.iload_n 3, 1) := by decide +kernel
theorem d_M_nextTo_58 : decode b_M_nextTo 58 = .ok (.ireturn, 1) := by decide +kernel
theorem mf_M_nextTo : zMF y_M_nextTo b_M_nextTo 4 (some .int) 2 := ⟨zGW_in 1796 (by decide +kernel) (by decide +kernel), zGW_in 135 (by decide +kernel) (by decide +kernel), by decide +kernel⟩
theorem in_M_nextTo : Cond.instanceMethod y_M_nextTo ∈ zGW := zGW_in 1795 (by decide +kernel) (by decide +kernel)
theorem se_M_nextTo : Cond.selects y_M_nextTo.cls y_M_nextTo y_M_nextTo ∈ zGW := zGW_in 101 (by decide +kernel) (by decide +kernel)
def y_M_way : MethodName := ⟨zNm 11, "way", "(III)I"⟩
abbrev b_M_way : ByteArray := prog_13_method_96_code
theorem d_M_way_0 : decode b_M_way 0 = .ok (.aload_n 0, 1) := by decide +kernel
theorem d_M_way_1 : decode b_M_way 1 = .ok (.iload_n 1, 1) := by decide +kernel
theorem d_M_way_2 : decode b_M_way 2 = .ok (.invokevirtual 122, 3) := by decide +kernel
theorem d_M_way_5 : decode b_M_way 5 = .ok (.ifCond .eq 15, 3) := by decide +kernel
theorem d_M_way_8 : decode b_M_way 8 = .ok (.aload_n 0, 1) := by decide +kernel
theorem d_M_way_9 : decode b_M_way 9 = .ok (.iload_n 2, 1) := by decide +kernel
theorem d_M_way_10 : decode b_M_way 10 = .ok (.invokevirtual 122, 3) := by decide +kernel
theorem d_M_way_13 : decode b_M_way 13 = .ok (.ifCond .eq 7, 3) := by decide +kernel
theorem d_M_way_16 : decode b_M_way 16 = .ok (.iload_n 3, 1) := by decide +kernel
theorem d_M_way_17 : decode b_M_way 17 = .ok (.ifCond .ge 5, 3) := by decide +kernel
theorem d_M_way_20 : decode b_M_way 20 = .ok (.iconst (-1), 1) := by decide +kernel
theorem d_M_way_21 : decode b_M_way 21 = .ok (.ireturn, 1) := by decide +kernel
theorem d_M_way_22 : decode b_M_way 22 = .ok (.aload_n 0, 1) := by decide +kernel
theorem d_M_way_23 : decode b_M_way 23 = .ok (.invokevirtual 375, 3) := by decide +kernel
theorem d_M_way_26 : decode b_M_way 26 = .ok (.aload_n 0, 1) := by decide +kernel
theorem d_M_way_27 : decode b_M_way 27 = .ok (.iload_n 1, 1) := by decide +kernel
theorem d_M_way_28 : decode b_M_way 28 = .ok (.iload_n 2, 1) := by decide +kernel
theorem d_M_way_29 : decode b_M_way 29 = .ok (.invokevirtual 378, 3) := by decide +kernel
theorem d_M_way_32 : decode b_M_way 32 = .ok (.iconst (-1), 1) := by decide +kernel
theorem d_M_way_33 : decode b_M_way 33 = .ok (.if_icmp .ne 5, 3) := by decide +kernel
theorem d_M_way_36 : decode b_M_way 36 = .ok (.iconst (-1), 1) := by decide +kernel
theorem d_M_way_37 : decode b_M_way 37 = .ok (.ireturn, 1) := by decide +kernel
theorem d_M_way_38 : decode b_M_way 38 = .ok (.iload_n 1, 1) := by decide +kernel
theorem d_M_way_39 : decode b_M_way 39 = .ok (.istore 4, 2) := by decide +kernel
theorem d_M_way_41 : decode b_M_way 41 = .ok (.iconst 0, 1) := by decide +kernel
theorem d_M_way_42 : decode b_M_way 42 = .ok (.istore 5, 2) := by decide +kernel
theorem d_M_way_44 : decode b_M_way 44 = .ok (.iload 5, 2) := by decide +kernel
theorem d_M_way_46 : decode b_M_way 46 = .ok (.iload_n 3, 1) := by decide +kernel
theorem d_M_way_47 : decode b_M_way 47 = .ok (.if_icmp .ge 26, 3) := by decide +kernel
theorem d_M_way_50 : decode b_M_way 50 = .ok (.iload 4, 2) := by decide +kernel
theorem d_M_way_52 : decode b_M_way 52 = .ok (.iload_n 2, 1) := by decide +kernel
theorem d_M_way_53 : decode b_M_way 53 = .ok (.if_icmp .ne 5, 3) := by decide +kernel
theorem d_M_way_56 : decode b_M_way 56 = .ok (.iconst (-1), 1) := by decide +kernel
theorem d_M_way_57 : decode b_M_way 57 = .ok (.ireturn, 1) := by decide +kernel
theorem d_M_way_58 : decode b_M_way 58 = .ok (.aload_n 0, 1) := by decide +kernel
theorem d_M_way_59 : decode b_M_way 59 = .ok (.iload 4, 2) := by decide +kernel
theorem d_M_way_61 : decode b_M_way 61 = .ok (.iload_n 2, 1) := by decide +kernel
theorem d_M_way_62 : decode b_M_way 62 = .ok (.invokevirtual 381, 3) := by decide +kernel
theorem d_M_way_65 : decode b_M_way 65 = .ok (.istore 4, 2) := by decide +kernel
theorem d_M_way_67 : decode b_M_way 67 = .ok (.iinc 5 1, 3) := by decide +kernel
theorem d_M_way_70 : decode b_M_way 70 = .ok (.goto (-26), 3) := by decide +kernel
theorem d_M_way_73 : decode b_M_way 73 = .ok (.iload 4, 2) := by decide +kernel
theorem d_M_way_75 : decode b_M_way 75 = .ok (.ireturn, 1) := by decide +kernel
theorem mf_M_way : zMF y_M_way b_M_way 6 (some .int) 3 := ⟨zGW_in 1792 (by decide +kernel) (by decide +kernel), zGW_in 135 (by decide +kernel) (by decide +kernel), by decide +kernel⟩
theorem in_M_way : Cond.instanceMethod y_M_way ∈ zGW := zGW_in 1790 (by decide +kernel) (by decide +kernel)
theorem se_M_way : Cond.selects y_M_way.cls y_M_way y_M_way ∈ zGW := zGW_in 1791 (by decide +kernel) (by decide +kernel)
def y_M_never : MethodName := ⟨zNm 11, "never", "(I)I"⟩
abbrev b_M_never : ByteArray := prog_13_method_98_code
theorem d_M_never_0 : decode b_M_never 0 = .ok (.aload_n 0, 1) := by decide +kernel
theorem d_M_never_1 : decode b_M_never 1 = .ok (.iload_n 1, 1) := by decide +kernel
theorem d_M_never_2 : decode b_M_never 2 = .ok (.invokevirtual 122, 3) := by decide +kernel
theorem d_M_never_5 : decode b_M_never 5 = .ok (.ifCond .ne 5, 3) := by decide +kernel
theorem d_M_never_8 : decode b_M_never 8 = .ok (.iconst (-1), 1) := by decide +kernel
theorem d_M_never_9 : decode b_M_never 9 = .ok (.ireturn, 1) := by decide +kernel
theorem d_M_never_10 : decode b_M_never 10 = .ok (.aload_n 0, 1) := by decide +kernel
theorem d_M_never_11 : decode b_M_never 11 = .ok (.invokevirtual 375, 3) := by decide +kernel
theorem d_M_never_14 : decode b_M_never 14 = .ok (.iconst 0, 1) := by decide +kernel
theorem d_M_never_15 : decode b_M_never 15 = .ok (.istore_n 2, 1) := by decide +kernel
theorem d_M_never_16 : decode b_M_never 16 = .ok (.iconst 0, 1) := by decide +kernel
theorem d_M_never_17 : decode b_M_never 17 = .ok (.istore_n 3, 1) := by decide +kernel
theorem d_M_never_18 : decode b_M_never 18 = .ok (.iload_n 3, 1) := by decide +kernel
theorem d_M_never_19 : decode b_M_never 19 = .ok (.aload_n 0, 1) := by decide +kernel
theorem d_M_never_20 : decode b_M_never 20 = .ok (.invokevirtual 118, 3) := by decide +kernel
theorem d_M_never_23 : decode b_M_never 23 = .ok (.if_icmp .ge 29, 3) := by decide +kernel
theorem d_M_never_26 : decode b_M_never 26 = .ok (.iload_n 2, 1) := by decide +kernel
theorem d_M_never_27 : decode b_M_never 27 = .ok (.aload_n 0, 1) := by decide +kernel
theorem d_M_never_28 : decode b_M_never 28 = .ok (.iload_n 1, 1) := by decide +kernel
theorem d_M_never_29 : decode b_M_never 29 = .ok (.iload_n 3, 1) := by decide +kernel
theorem d_M_never_30 : decode b_M_never 30 = .ok (.invokevirtual 378, 3) := by decide +kernel
theorem d_M_never_33 : decode b_M_never 33 = .ok (.iconst (-1), 1) := by decide +kernel
theorem d_M_never_34 : decode b_M_never 34 = .ok (.if_icmp .ne 9, 3) := by decide +kernel
theorem d_M_never_37 : decode b_M_never 37 = .ok (.iconst 1, 1) := by decide +kernel
theorem d_M_never_38 : decode b_M_never 38 = .ok (.iload_n 3, 1) := by decide +kernel
theorem d_M_never_39 : decode b_M_never 39 = .ok (.ishl, 1) := by decide +kernel
theorem d_M_never_40 : decode b_M_never 40 = .ok (.goto 4, 3) := by decide +kernel
theorem d_M_never_43 : decode b_M_never 43 = .ok (.iconst 0, 1) := by decide +kernel
theorem d_M_never_44 : decode b_M_never 44 = .ok (.ior, 1) := by decide +kernel
theorem d_M_never_45 : decode b_M_never 45 = .ok (.istore_n 2, 1) := by decide +kernel
theorem d_M_never_46 : decode b_M_never 46 = .ok (.iinc 3 1, 3) := by decide +kernel
theorem d_M_never_49 : decode b_M_never 49 = .ok (.goto (-31), 3) := by decide +kernel
theorem d_M_never_52 : decode b_M_never 52 = .ok (.iload_n 2, 1) := by decide +kernel
theorem d_M_never_53 : decode b_M_never 53 = .ok (.ireturn, 1) := by decide +kernel
theorem mf_M_never : zMF y_M_never b_M_never 4 (some .int) 1 := ⟨zGW_in 1800 (by decide +kernel) (by decide +kernel), zGW_in 135 (by decide +kernel) (by decide +kernel), by decide +kernel⟩
theorem in_M_never : Cond.instanceMethod y_M_never ∈ zGW := zGW_in 1798 (by decide +kernel) (by decide +kernel)
theorem se_M_never : Cond.selects y_M_never.cls y_M_never y_M_never ∈ zGW := zGW_in 1799 (by decide +kernel) (by decide +kernel)
def y_M_greater : MethodName := ⟨zNm 11, "greater", "(II)I"⟩
abbrev b_M_greater : ByteArray := prog_13_method_3_code
theorem d_M_greater_0 : decode b_M_greater 0 = .ok (.iload_n 0, 1) := by decide +kernel
theorem d_M_greater_1 : decode b_M_greater 1 = .ok (.iload_n 1, 1) := by decide +kernel
theorem d_M_greater_2 : decode b_M_greater 2 = .ok (.if_icmp .le 7, 3) := by decide +kernel
theorem d_M_greater_5 : decode b_M_greater 5 = .ok (.iload_n 0, 1) := by decide +kernel
theorem d_M_greater_6 : decode b_M_greater 6 = .ok (.goto 4, 3) := by decide +kernel
theorem d_M_greater_9 : decode b_M_greater 9 = .ok (.iload_n 1, 1) := by decide +kernel
theorem d_M_greater_10 : decode b_M_greater 10 = .ok (.ireturn, 1) := by decide +kernel
theorem mf_M_greater : zMF y_M_greater b_M_greater 2 (some .int) 2 := ⟨zGW_in 1807 (by decide +kernel) (by decide +kernel), zGW_in 135 (by decide +kernel) (by decide +kernel), by decide +kernel⟩
theorem st_M_greater : Cond.static y_M_greater ∈ zGW := zGW_in 1806 (by decide +kernel) (by decide +kernel)
def y_M_centre : MethodName := ⟨zNm 11, "centre", "(I)I"⟩
abbrev b_M_centre : ByteArray := prog_13_method_99_code
theorem d_M_centre_0 : decode b_M_centre 0 = .ok (.iload_n 1, 1) := by decide +kernel
theorem d_M_centre_1 : decode b_M_centre 1 = .ok (.iconst 0, 1) := by decide +kernel
theorem d_M_centre_2 : decode b_M_centre 2 = .ok (.iconst 1, 1) := by decide +kernel
theorem d_M_centre_3 : decode b_M_centre 3 = .ok (.invokestatic 108, 3) := by decide +kernel
theorem d_M_centre_6 : decode b_M_centre 6 = .ok (.ifCond .ne 5, 3) := by decide +kernel
theorem d_M_centre_9 : decode b_M_centre 9 = .ok (.iconst (-1), 1) := by decide +kernel
theorem d_M_centre_10 : decode b_M_centre 10 = .ok (.ireturn, 1) := by decide +kernel
theorem d_M_centre_11 : decode b_M_centre 11 = .ok (.aload_n 0, 1) := by decide +kernel
theorem d_M_centre_12 : decode b_M_centre 12 = .ok (.invokevirtual 375, 3) := by decide +kernel
theorem d_M_centre_15 : decode b_M_centre 15 = .ok (.iconst (-1), 1) := by decide +kernel
theorem d_M_centre_16 : decode b_M_centre 16 = .ok (.istore_n 2, 1) := by decide +kernel
theorem d_M_centre_17 : decode b_M_centre 17 = .ok (.ldc 177, 2) := by decide +kernel
theorem d_M_centre_19 : decode b_M_centre 19 = .ok (.istore_n 3, 1) := by decide +kernel
theorem d_M_centre_20 : decode b_M_centre 20 = .ok (.iconst 0, 1) := by decide +kernel
theorem d_M_centre_21 : decode b_M_centre 21 = .ok (.istore 4, 2) := by decide +kernel
theorem d_M_centre_23 : decode b_M_centre 23 = .ok (.iload 4, 2) := by decide +kernel
theorem d_M_centre_25 : decode b_M_centre 25 = .ok (.aload_n 0, 1) := by decide +kernel
theorem d_M_centre_26 : decode b_M_centre 26 = .ok (.invokevirtual 118, 3) := by decide +kernel
theorem d_M_centre_29 : decode b_M_centre 29 = .ok (.if_icmp .ge 64, 3) := by decide +kernel
theorem d_M_centre_32 : decode b_M_centre 32 = .ok (.iconst 0, 1) := by decide +kernel
theorem d_M_centre_33 : decode b_M_centre 33 = .ok (.istore 5, 2) := by decide +kernel
theorem d_M_centre_35 : decode b_M_centre 35 = .ok (.iconst 0, 1) := by decide +kernel
theorem d_M_centre_36 : decode b_M_centre 36 = .ok (.istore 6, 2) := by decide +kernel
theorem d_M_centre_38 : decode b_M_centre 38 = .ok (.iload 6, 2) := by decide +kernel
theorem d_M_centre_40 : decode b_M_centre 40 = .ok (.aload_n 0, 1) := by decide +kernel
theorem d_M_centre_41 : decode b_M_centre 41 = .ok (.invokevirtual 118, 3) := by decide +kernel
theorem d_M_centre_44 : decode b_M_centre 44 = .ok (.if_icmp .ge 28, 3) := by decide +kernel
theorem d_M_centre_47 : decode b_M_centre 47 = .ok (.iload 5, 2) := by decide +kernel
theorem d_M_centre_49 : decode b_M_centre 49 = .ok (.aload_n 0, 1) := by decide +kernel
theorem d_M_centre_50 : decode b_M_centre 50 = .ok (.getfield 77, 3) := by decide +kernel
theorem d_M_centre_53 : decode b_M_centre 53 = .ok (.iload 4, 2) := by decide +kernel
theorem d_M_centre_55 : decode b_M_centre 55 = .ok (.iload 6, 2) := by decide +kernel
theorem d_M_centre_57 : decode b_M_centre 57 = .ok (.invokestatic 126, 3) := by decide +kernel
theorem d_M_centre_60 : decode b_M_centre 60 = .ok (.iaload, 1) := by decide +kernel
theorem d_M_centre_61 : decode b_M_centre 61 = .ok (.invokestatic 384, 3) := by decide +kernel
theorem d_M_centre_64 : decode b_M_centre 64 = .ok (.istore 5, 2) := by decide +kernel
theorem d_M_centre_66 : decode b_M_centre 66 = .ok (.iinc 6 1, 3) := by decide +kernel
theorem d_M_centre_69 : decode b_M_centre 69 = .ok (.goto (-31), 3) := by decide +kernel
theorem d_M_centre_72 : decode b_M_centre 72 = .ok (.iload 5, 2) := by decide +kernel
theorem d_M_centre_74 : decode b_M_centre 74 = .ok (.iload_n 3, 1) := by decide +kernel
theorem d_M_centre_75 : decode b_M_centre 75 = .ok (.if_icmp .lt 6, 3) := by decide +kernel
theorem d_M_centre_78 : decode b_M_centre 78 = .ok (.goto 9, 3) := by decide +kernel
theorem d_M_centre_81 : decode b_M_centre 81 = .ok (.iload 5, 2) := by decide +kernel
theorem d_M_centre_83 : decode b_M_centre 83 = .ok (.istore_n 3, 1) := by decide +kernel
theorem d_M_centre_84 : decode b_M_centre 84 = .ok (.iload 4, 2) := by decide +kernel
theorem d_M_centre_86 : decode b_M_centre 86 = .ok (.istore_n 2, 1) := by decide +kernel
theorem d_M_centre_87 : decode b_M_centre 87 = .ok (.iinc 4 1, 3) := by decide +kernel
theorem d_M_centre_90 : decode b_M_centre 90 = .ok (.goto (-67), 3) := by decide +kernel
theorem d_M_centre_93 : decode b_M_centre 93 = .ok (.iload_n 2, 1) := by decide +kernel
theorem d_M_centre_94 : decode b_M_centre 94 = .ok (.iconst (-1), 1) := by decide +kernel
theorem d_M_centre_95 : decode b_M_centre 95 = .ok (.if_icmp .eq 7, 3) := by decide +kernel
theorem d_M_centre_98 : decode b_M_centre 98 = .ok (.iload_n 1, 1) := by decide +kernel
theorem d_M_centre_99 : decode b_M_centre 99 = .ok (.ifCond .ne 7, 3) := by decide +kernel
theorem d_M_centre_102 : decode b_M_centre 102 = .ok (.iload_n 2, 1) := by decide +kernel
theorem d_M_centre_103 : decode b_M_centre 103 = .ok (.goto 4, 3) := by decide +kernel
theorem d_M_centre_106 : decode b_M_centre 106 = .ok (.iload_n 3, 1) := by decide +kernel
theorem d_M_centre_107 : decode b_M_centre 107 = .ok (.ireturn, 1) := by decide +kernel
theorem mf_M_centre : zMF y_M_centre b_M_centre 7 (some .int) 1 := ⟨zGW_in 1804 (by decide +kernel) (by decide +kernel), zGW_in 135 (by decide +kernel) (by decide +kernel), by decide +kernel⟩
theorem in_M_centre : Cond.instanceMethod y_M_centre ∈ zGW := zGW_in 1802 (by decide +kernel) (by decide +kernel)
theorem se_M_centre : Cond.selects y_M_centre.cls y_M_centre y_M_centre ∈ zGW := zGW_in 1803 (by decide +kernel) (by decide +kernel)
def y_M_areSprings : MethodName := ⟨zNm 11, "areSprings", "(I)Z"⟩
abbrev b_M_areSprings : ByteArray := prog_13_method_103_code
theorem d_M_areSprings_0 : decode b_M_areSprings 0 = .ok (.iload_n 1, 1) := by decide +kernel
theorem d_M_areSprings_1 : decode b_M_areSprings 1 = .ok (.iconst 0, 1) := by decide +kernel
theorem d_M_areSprings_2 : decode b_M_areSprings 2 = .ok (.iconst 1, 1) := by decide +kernel
theorem d_M_areSprings_3 : decode b_M_areSprings 3 = .ok (.aload_n 0, 1) := by decide +kernel
theorem d_M_areSprings_4 : decode b_M_areSprings 4 = .ok (.invokevirtual 118, 3) := by decide +kernel
theorem d_M_areSprings_7 : decode b_M_areSprings 7 = .ok (.ishl, 1) := by decide +kernel
theorem d_M_areSprings_8 : decode b_M_areSprings 8 = .ok (.iconst 1, 1) := by decide +kernel
theorem d_M_areSprings_9 : decode b_M_areSprings 9 = .ok (.isub, 1) := by decide +kernel
theorem d_M_areSprings_10 : decode b_M_areSprings 10 = .ok (.invokestatic 108, 3) := by decide +kernel
theorem d_M_areSprings_13 : decode b_M_areSprings 13 = .ok (.ireturn, 1) := by decide +kernel
theorem mf_M_areSprings : zMF y_M_areSprings b_M_areSprings 2 (some .boolean) 1 := ⟨zGW_in 1815 (by decide +kernel) (by decide +kernel), zGW_in 135 (by decide +kernel) (by decide +kernel), by decide +kernel⟩
theorem in_M_areSprings : Cond.instanceMethod y_M_areSprings ∈ zGW := zGW_in 1814 (by decide +kernel) (by decide +kernel)
theorem se_M_areSprings : Cond.selects y_M_areSprings.cls y_M_areSprings y_M_areSprings ∈ zGW := zGW_in 102 (by decide +kernel) (by decide +kernel)
def y_M_isIn : MethodName := ⟨zNm 11, "isIn", "(II)Z"⟩
abbrev b_M_isIn : ByteArray := prog_13_method_7_code
theorem d_M_isIn_0 : decode b_M_isIn 0 = .ok (.iload_n 0, 1) := by decide +kernel
theorem d_M_isIn_1 : decode b_M_isIn 1 = .ok (.iload_n 1, 1) := by decide +kernel
theorem d_M_isIn_2 : decode b_M_isIn 2 = .ok (.ishr, 1) := by decide +kernel
theorem d_M_isIn_3 : decode b_M_isIn 3 = .ok (.iconst 1, 1) := by decide +kernel
theorem d_M_isIn_4 : decode b_M_isIn 4 = .ok (.iand, 1) := by decide +kernel
theorem d_M_isIn_5 : decode b_M_isIn 5 = .ok (.iconst 1, 1) := by decide +kernel
theorem d_M_isIn_6 : decode b_M_isIn 6 = .ok (.if_icmp .ne 7, 3) := by decide +kernel
theorem d_M_isIn_9 : decode b_M_isIn 9 = .ok (.iconst 1, 1) := by decide +kernel
theorem d_M_isIn_10 : decode b_M_isIn 10 = .ok (.goto 4, 3) := by decide +kernel
theorem d_M_isIn_13 : decode b_M_isIn 13 = .ok (.iconst 0, 1) := by decide +kernel
theorem d_M_isIn_14 : decode b_M_isIn 14 = .ok (.ireturn, 1) := by decide +kernel
theorem mf_M_isIn : zMF y_M_isIn b_M_isIn 2 (some .boolean) 2 := ⟨zGW_in 1822 (by decide +kernel) (by decide +kernel), zGW_in 135 (by decide +kernel) (by decide +kernel), by decide +kernel⟩
theorem st_M_isIn : Cond.static y_M_isIn ∈ zGW := zGW_in 1821 (by decide +kernel) (by decide +kernel)
def y_M_roundAt : MethodName := ⟨zNm 11, "roundAt", "(II)I"⟩
abbrev b_M_roundAt : ByteArray := prog_13_method_100_code
theorem d_M_roundAt_0 : decode b_M_roundAt 0 = .ok (.aload_n 0, 1) := by decide +kernel
theorem d_M_roundAt_1 : decode b_M_roundAt 1 = .ok (.getfield 80, 3) := by decide +kernel
theorem d_M_roundAt_4 : decode b_M_roundAt 4 = .ok (.bipush 9, 2) := by decide +kernel
theorem d_M_roundAt_6 : decode b_M_roundAt 6 = .ok (.iload_n 1, 1) := by decide +kernel
theorem d_M_roundAt_7 : decode b_M_roundAt 7 = .ok (.imul, 1) := by decide +kernel
theorem d_M_roundAt_8 : decode b_M_roundAt 8 = .ok (.iload_n 2, 1) := by decide +kernel
theorem d_M_roundAt_9 : decode b_M_roundAt 9 = .ok (.iadd, 1) := by decide +kernel
theorem d_M_roundAt_10 : decode b_M_roundAt 10 = .ok (.iaload, 1) := by decide +kernel
theorem d_M_roundAt_11 : decode b_M_roundAt 11 = .ok (.ireturn, 1) := by decide +kernel
theorem mf_M_roundAt : zMF y_M_roundAt b_M_roundAt 3 (some .int) 2 := ⟨zGW_in 1830 (by decide +kernel) (by decide +kernel), zGW_in 135 (by decide +kernel) (by decide +kernel), by decide +kernel⟩
theorem in_M_roundAt : Cond.instanceMethod y_M_roundAt ∈ zGW := zGW_in 1829 (by decide +kernel) (by decide +kernel)
theorem se_M_roundAt : Cond.selects y_M_roundAt.cls y_M_roundAt y_M_roundAt ∈ zGW := zGW_in 105 (by decide +kernel) (by decide +kernel)
def y_M_legOfRound : MethodName := ⟨zNm 11, "legOfRound", "(III)I"⟩
abbrev b_M_legOfRound : ByteArray := prog_13_method_101_code
theorem d_M_legOfRound_0 : decode b_M_legOfRound 0 = .ok (.ldc 177, 2) := by decide +kernel
theorem d_M_legOfRound_2 : decode b_M_legOfRound 2 = .ok (.aload_n 0, 1) := by decide +kernel
theorem d_M_legOfRound_3 : decode b_M_legOfRound 3 = .ok (.getfield 77, 3) := by decide +kernel
theorem d_M_legOfRound_6 : decode b_M_legOfRound 6 = .ok (.iload_n 2, 1) := by decide +kernel
theorem d_M_legOfRound_7 : decode b_M_legOfRound 7 = .ok (.iload_n 3, 1) := by decide +kernel
theorem d_M_legOfRound_8 : decode b_M_legOfRound 8 = .ok (.invokestatic 126, 3) := by decide +kernel
theorem d_M_legOfRound_11 : decode b_M_legOfRound 11 = .ok (.iaload, 1) := by decide +kernel
theorem d_M_legOfRound_12 : decode b_M_legOfRound 12 = .ok (.aload_n 0, 1) := by decide +kernel
theorem d_M_legOfRound_13 : decode b_M_legOfRound 13 = .ok (.iload_n 1, 1) := by decide +kernel
theorem d_M_legOfRound_14 : decode b_M_legOfRound 14 = .ok (.iconst 1, 1) := by decide +kernel
theorem d_M_legOfRound_15 : decode b_M_legOfRound 15 = .ok (.iload_n 3, 1) := by decide +kernel
theorem d_M_legOfRound_16 : decode b_M_legOfRound 16 = .ok (.ishl, 1) := by decide +kernel
theorem d_M_legOfRound_17 : decode b_M_legOfRound 17 = .ok (.iconst (-1), 1) := by decide +kernel
theorem d_M_legOfRound_18 : decode b_M_legOfRound 18 = .ok (.ixor, 1) := by decide +kernel
theorem d_M_legOfRound_19 : decode b_M_legOfRound 19 = .ok (.iand, 1) := by decide +kernel
theorem d_M_legOfRound_20 : decode b_M_legOfRound 20 = .ok (.iload_n 3, 1) := by decide +kernel
theorem d_M_legOfRound_21 : decode b_M_legOfRound 21 = .ok (.invokevirtual 387, 3) := by decide +kernel
theorem d_M_legOfRound_24 : decode b_M_legOfRound 24 = .ok (.iadd, 1) := by decide +kernel
theorem d_M_legOfRound_25 : decode b_M_legOfRound 25 = .ok (.invokestatic 372, 3) := by decide +kernel
theorem d_M_legOfRound_28 : decode b_M_legOfRound 28 = .ok (.ireturn, 1) := by decide +kernel
theorem mf_M_legOfRound : zMF y_M_legOfRound b_M_legOfRound 4 (some .int) 3 := ⟨zGW_in 1826 (by decide +kernel) (by decide +kernel), zGW_in 135 (by decide +kernel) (by decide +kernel), by decide +kernel⟩
theorem in_M_legOfRound : Cond.instanceMethod y_M_legOfRound ∈ zGW := zGW_in 1825 (by decide +kernel) (by decide +kernel)
theorem se_M_legOfRound : Cond.selects y_M_legOfRound.cls y_M_legOfRound y_M_legOfRound ∈ zGW := zGW_in 104 (by decide +kernel) (by decide +kernel)
def y_M_laysRounds : MethodName := ⟨zNm 11, "laysRounds", "(I)V"⟩
abbrev b_M_laysRounds : ByteArray := prog_13_method_102_code
theorem d_M_laysRounds_0 : decode b_M_laysRounds 0 = .ok (.iconst 0, 1) := by decide +kernel
theorem d_M_laysRounds_1 : decode b_M_laysRounds 1 = .ok (.istore_n 2, 1) := by decide +kernel
theorem d_M_laysRounds_2 : decode b_M_laysRounds 2 = .ok (.iload_n 2, 1) := by decide +kernel
theorem d_M_laysRounds_3 : decode b_M_laysRounds 3 = .ok (.iload_n 1, 1) := by decide +kernel
theorem d_M_laysRounds_4 : decode b_M_laysRounds 4 = .ok (.if_icmp .gt 122, 3) := by decide +kernel
theorem d_M_laysRounds_7 : decode b_M_laysRounds 7 = .ok (.iload_n 2, 1) := by decide +kernel
theorem d_M_laysRounds_8 : decode b_M_laysRounds 8 = .ok (.iload_n 1, 1) := by decide +kernel
theorem d_M_laysRounds_9 : decode b_M_laysRounds 9 = .ok (.iconst (-1), 1) := by decide +kernel
theorem d_M_laysRounds_10 : decode b_M_laysRounds 10 = .ok (.ixor, 1) := by decide +kernel
theorem d_M_laysRounds_11 : decode b_M_laysRounds 11 = .ok (.iand, 1) := by decide +kernel
theorem d_M_laysRounds_12 : decode b_M_laysRounds 12 = .ok (.ifCond .eq 6, 3) := by decide +kernel
theorem d_M_laysRounds_15 : decode b_M_laysRounds 15 = .ok (.goto 105, 3) := by decide +kernel
theorem d_M_laysRounds_18 : decode b_M_laysRounds 18 = .ok (.iconst 0, 1) := by decide +kernel
theorem d_M_laysRounds_19 : decode b_M_laysRounds 19 = .ok (.istore_n 3, 1) := by decide +kernel
theorem d_M_laysRounds_20 : decode b_M_laysRounds 20 = .ok (.iload_n 3, 1) := by decide +kernel
theorem d_M_laysRounds_21 : decode b_M_laysRounds 21 = .ok (.aload_n 0, 1) := by decide +kernel
theorem d_M_laysRounds_22 : decode b_M_laysRounds 22 = .ok (.invokevirtual 118, 3) := by decide +kernel
theorem d_M_laysRounds_25 : decode b_M_laysRounds 25 = .ok (.if_icmp .ge 95, 3) := by decide +kernel
theorem d_M_laysRounds_28 : decode b_M_laysRounds 28 = .ok (.iload_n 2, 1) := by decide +kernel
theorem d_M_laysRounds_29 : decode b_M_laysRounds 29 = .ok (.ifCond .ne 26, 3) := by decide +kernel
theorem d_M_laysRounds_32 : decode b_M_laysRounds 32 = .ok (.ldc 177, 2) := by decide +kernel
theorem d_M_laysRounds_34 : decode b_M_laysRounds 34 = .ok (.aload_n 0, 1) := by decide +kernel
theorem d_M_laysRounds_35 : decode b_M_laysRounds 35 = .ok (.getfield 77, 3) := by decide +kernel
theorem d_M_laysRounds_38 : decode b_M_laysRounds 38 = .ok (.iload_n 3, 1) := by decide +kernel
theorem d_M_laysRounds_39 : decode b_M_laysRounds 39 = .ok (.aload_n 0, 1) := by decide +kernel
theorem d_M_laysRounds_40 : decode b_M_laysRounds 40 = .ok (.getfield 24, 3) := by decide +kernel
theorem d_M_laysRounds_43 : decode b_M_laysRounds 43 = .ok (.iconst 0, 1) := by decide +kernel
theorem d_M_laysRounds_44 : decode b_M_laysRounds 44 = .ok (.iaload, 1) := by decide +kernel
theorem d_M_laysRounds_45 : decode b_M_laysRounds 45 = .ok (.invokestatic 126, 3) := by decide +kernel
theorem d_M_laysRounds_48 : decode b_M_laysRounds 48 = .ok (.iaload, 1) := by decide +kernel
theorem d_M_laysRounds_49 : decode b_M_laysRounds 49 = .ok (.invokestatic 372, 3) := by decide +kernel
theorem d_M_laysRounds_52 : decode b_M_laysRounds 52 = .ok (.goto 5, 3) := by decide +kernel
theorem d_M_laysRounds_55 : decode b_M_laysRounds 55 = .ok (.ldc 177, 2) := by decide +kernel
theorem d_M_laysRounds_57 : decode b_M_laysRounds 57 = .ok (.istore 4, 2) := by decide +kernel
theorem d_M_laysRounds_59 : decode b_M_laysRounds 59 = .ok (.iconst 0, 1) := by decide +kernel
theorem d_M_laysRounds_60 : decode b_M_laysRounds 60 = .ok (.istore 5, 2) := by decide +kernel
theorem d_M_laysRounds_62 : decode b_M_laysRounds 62 = .ok (.iload 5, 2) := by decide +kernel
theorem d_M_laysRounds_64 : decode b_M_laysRounds 64 = .ok (.aload_n 0, 1) := by decide +kernel
theorem d_M_laysRounds_65 : decode b_M_laysRounds 65 = .ok (.invokevirtual 118, 3) := by decide +kernel
theorem d_M_laysRounds_68 : decode b_M_laysRounds 68 = .ok (.if_icmp .ge 33, 3) := by decide +kernel
theorem d_M_laysRounds_71 : decode b_M_laysRounds 71 = .ok (.iload_n 2, 1) := by decide +kernel
theorem d_M_laysRounds_72 : decode b_M_laysRounds 72 = .ok (.iload 5, 2) := by decide +kernel
theorem d_M_laysRounds_74 : decode b_M_laysRounds 74 = .ok (.invokestatic 390, 3) := by decide +kernel
theorem d_M_laysRounds_77 : decode b_M_laysRounds 77 = .ok (.ifCond .eq 18, 3) := by decide +kernel
theorem d_M_laysRounds_80 : decode b_M_laysRounds 80 = .ok (.iload 4, 2) := by decide +kernel
theorem d_M_laysRounds_82 : decode b_M_laysRounds 82 = .ok (.aload_n 0, 1) := by decide +kernel
theorem d_M_laysRounds_83 : decode b_M_laysRounds 83 = .ok (.iload_n 2, 1) := by decide +kernel
theorem d_M_laysRounds_84 : decode b_M_laysRounds 84 = .ok (.iload_n 3, 1) := by decide +kernel
theorem d_M_laysRounds_85 : decode b_M_laysRounds 85 = .ok (.iload 5, 2) := by decide +kernel
theorem d_M_laysRounds_87 : decode b_M_laysRounds 87 = .ok (.invokevirtual 393, 3) := by decide +kernel
theorem d_M_laysRounds_90 : decode b_M_laysRounds 90 = .ok (.invokestatic 372, 3) := by decide +kernel
theorem d_M_laysRounds_93 : decode b_M_laysRounds 93 = .ok (.istore 4, 2) := by decide +kernel
theorem d_M_laysRounds_95 : decode b_M_laysRounds 95 = .ok (.iinc 5 1, 3) := by decide +kernel
theorem d_M_laysRounds_98 : decode b_M_laysRounds 98 = .ok (.goto (-36), 3) := by decide +kernel
theorem d_M_laysRounds_101 : decode b_M_laysRounds 101 = .ok (.aload_n 0, 1) := by decide +kernel
theorem d_M_laysRounds_102 : decode b_M_laysRounds 102 = .ok (.getfield 80, 3) := by decide +kernel
theorem d_M_laysRounds_105 : decode b_M_laysRounds 105 = .ok (.bipush 9, 2) := by decide +kernel
theorem d_M_laysRounds_107 : decode b_M_laysRounds 107 = .ok (.iload_n 2, 1) := by decide +kernel
theorem d_M_laysRounds_108 : decode b_M_laysRounds 108 = .ok (.imul, 1) := by decide +kernel
theorem d_M_laysRounds_109 : decode b_M_laysRounds 109 = .ok (.iload_n 3, 1) := by decide +kernel
theorem d_M_laysRounds_110 : decode b_M_laysRounds 110 = .ok (.iadd, 1) := by decide +kernel
theorem d_M_laysRounds_111 : decode b_M_laysRounds 111 = .ok (.iload 4, 2) := by decide +kernel
theorem d_M_laysRounds_113 : decode b_M_laysRounds 113 = .ok (.iastore, 1) := by decide +kernel
theorem d_M_laysRounds_114 : decode b_M_laysRounds 114 = .ok (.iinc 3 1, 3) := by decide +kernel
theorem d_M_laysRounds_117 : decode b_M_laysRounds 117 = .ok (.goto (-97), 3) := by decide +kernel
theorem d_M_laysRounds_120 : decode b_M_laysRounds 120 = .ok (.iinc 2 1, 3) := by decide +kernel
theorem d_M_laysRounds_123 : decode b_M_laysRounds 123 = .ok (.goto (-121), 3) := by decide +kernel
theorem d_M_laysRounds_126 : decode b_M_laysRounds 126 = .ok (.return_, 1) := by decide +kernel
theorem mf_M_laysRounds : zMF y_M_laysRounds b_M_laysRounds 6 none 1 := ⟨zGW_in 1819 (by decide +kernel) (by decide +kernel), zGW_in 135 (by decide +kernel) (by decide +kernel), by decide +kernel⟩
theorem in_M_laysRounds : Cond.instanceMethod y_M_laysRounds ∈ zGW := zGW_in 1818 (by decide +kernel) (by decide +kernel)
theorem se_M_laysRounds : Cond.selects y_M_laysRounds.cls y_M_laysRounds y_M_laysRounds ∈ zGW := zGW_in 103 (by decide +kernel) (by decide +kernel)
def y_M_round : MethodName := ⟨zNm 11, "round", "(II)I"⟩
abbrev b_M_round : ByteArray := prog_13_method_104_code
theorem d_M_round_0 : decode b_M_round 0 = .ok (.aload_n 0, 1) := by decide +kernel
theorem d_M_round_1 : decode b_M_round 1 = .ok (.invokevirtual 118, 3) := by decide +kernel
theorem d_M_round_4 : decode b_M_round 4 = .ok (.ifCond .eq 16, 3) := by decide +kernel
theorem d_M_round_7 : decode b_M_round 7 = .ok (.aload_n 0, 1) := by decide +kernel
theorem d_M_round_8 : decode b_M_round 8 = .ok (.iload_n 1, 1) := by decide +kernel
theorem d_M_round_9 : decode b_M_round 9 = .ok (.invokevirtual 397, 3) := by decide +kernel
theorem d_M_round_12 : decode b_M_round 12 = .ok (.ifCond .eq 8, 3) := by decide +kernel
theorem d_M_round_15 : decode b_M_round 15 = .ok (.iload_n 2, 1) := by decide +kernel
theorem d_M_round_16 : decode b_M_round 16 = .ok (.iconst (-1), 1) := by decide +kernel
theorem d_M_round_17 : decode b_M_round 17 = .ok (.if_icmp .ge 5, 3) := by decide +kernel
theorem d_M_round_20 : decode b_M_round 20 = .ok (.iconst (-1), 1) := by decide +kernel
theorem d_M_round_21 : decode b_M_round 21 = .ok (.ireturn, 1) := by decide +kernel
theorem d_M_round_22 : decode b_M_round 22 = .ok (.iload_n 1, 1) := by decide +kernel
theorem d_M_round_23 : decode b_M_round 23 = .ok (.iconst 1, 1) := by decide +kernel
theorem d_M_round_24 : decode b_M_round 24 = .ok (.aload_n 0, 1) := by decide +kernel
theorem d_M_round_25 : decode b_M_round 25 = .ok (.getfield 24, 3) := by decide +kernel
theorem d_M_round_28 : decode b_M_round 28 = .ok (.iconst 0, 1) := by decide +kernel
theorem d_M_round_29 : decode b_M_round 29 = .ok (.iaload, 1) := by decide +kernel
theorem d_M_round_30 : decode b_M_round 30 = .ok (.ishl, 1) := by decide +kernel
theorem d_M_round_31 : decode b_M_round 31 = .ok (.iconst (-1), 1) := by decide +kernel
theorem d_M_round_32 : decode b_M_round 32 = .ok (.ixor, 1) := by decide +kernel
theorem d_M_round_33 : decode b_M_round 33 = .ok (.iand, 1) := by decide +kernel
theorem d_M_round_34 : decode b_M_round 34 = .ok (.istore_n 3, 1) := by decide +kernel
theorem d_M_round_35 : decode b_M_round 35 = .ok (.aload_n 0, 1) := by decide +kernel
theorem d_M_round_36 : decode b_M_round 36 = .ok (.invokevirtual 375, 3) := by decide +kernel
theorem d_M_round_39 : decode b_M_round 39 = .ok (.aload_n 0, 1) := by decide +kernel
theorem d_M_round_40 : decode b_M_round 40 = .ok (.iload_n 3, 1) := by decide +kernel
theorem d_M_round_41 : decode b_M_round 41 = .ok (.invokevirtual 400, 3) := by decide +kernel
theorem d_M_round_44 : decode b_M_round 44 = .ok (.aload_n 0, 1) := by decide +kernel
theorem d_M_round_45 : decode b_M_round 45 = .ok (.getfield 24, 3) := by decide +kernel
theorem d_M_round_48 : decode b_M_round 48 = .ok (.iconst 0, 1) := by decide +kernel
theorem d_M_round_49 : decode b_M_round 49 = .ok (.iaload, 1) := by decide +kernel
theorem d_M_round_50 : decode b_M_round 50 = .ok (.istore 4, 2) := by decide +kernel
theorem d_M_round_52 : decode b_M_round 52 = .ok (.aload_n 0, 1) := by decide +kernel
theorem d_M_round_53 : decode b_M_round 53 = .ok (.iload_n 3, 1) := by decide +kernel
theorem d_M_round_54 : decode b_M_round 54 = .ok (.iload 4, 2) := by decide +kernel
theorem d_M_round_56 : decode b_M_round 56 = .ok (.invokevirtual 387, 3) := by decide +kernel
theorem d_M_round_59 : decode b_M_round 59 = .ok (.ldc 177, 2) := by decide +kernel
theorem d_M_round_61 : decode b_M_round 61 = .ok (.if_icmp .ge 8, 3) := by decide +kernel
theorem d_M_round_64 : decode b_M_round 64 = .ok (.iload_n 2, 1) := by decide +kernel
theorem d_M_round_65 : decode b_M_round 65 = .ok (.iconst (-1), 1) := by decide +kernel
theorem d_M_round_66 : decode b_M_round 66 = .ok (.if_icmp .ne 27, 3) := by decide +kernel
theorem d_M_round_69 : decode b_M_round 69 = .ok (.aload_n 0, 1) := by decide +kernel
theorem d_M_round_70 : decode b_M_round 70 = .ok (.iload_n 3, 1) := by decide +kernel
theorem d_M_round_71 : decode b_M_round 71 = .ok (.iload 4, 2) := by decide +kernel
theorem d_M_round_73 : decode b_M_round 73 = .ok (.invokevirtual 387, 3) := by decide +kernel
theorem d_M_round_76 : decode b_M_round 76 = .ok (.ldc 177, 2) := by decide +kernel
theorem d_M_round_78 : decode b_M_round 78 = .ok (.if_icmp .lt 7, 3) := by decide +kernel
theorem d_M_round_81 : decode b_M_round 81 = .ok (.iconst (-1), 1) := by decide +kernel
theorem d_M_round_82 : decode b_M_round 82 = .ok (.goto 10, 3) := by decide +kernel
theorem d_M_round_85 : decode b_M_round 85 = .ok (.aload_n 0, 1) := by decide +kernel
theorem d_M_round_86 : decode b_M_round 86 = .ok (.iload_n 3, 1) := by decide +kernel
theorem d_M_round_87 : decode b_M_round 87 = .ok (.iload 4, 2) := by decide +kernel
theorem d_M_round_89 : decode b_M_round 89 = .ok (.invokevirtual 387, 3) := by decide +kernel
theorem d_M_round_92 : decode b_M_round 92 = .ok (.ireturn, 1) := by decide +kernel
theorem d_M_round_93 : decode b_M_round 93 = .ok (.iconst 0, 1) := by decide +kernel
theorem d_M_round_94 : decode b_M_round 94 = .ok (.istore 5, 2) := by decide +kernel
theorem d_M_round_96 : decode b_M_round 96 = .ok (.iload 5, 2) := by decide +kernel
theorem d_M_round_98 : decode b_M_round 98 = .ok (.iload_n 2, 1) := by decide +kernel
theorem d_M_round_99 : decode b_M_round 99 = .ok (.if_icmp .gt 65, 3) := by decide +kernel
theorem d_M_round_102 : decode b_M_round 102 = .ok (.iload_n 3, 1) := by decide +kernel
theorem d_M_round_103 : decode b_M_round 103 = .ok (.ifCond .ne 5, 3) := by decide +kernel
theorem d_M_round_106 : decode b_M_round 106 = .ok (.iconst (-1), 1) := by decide +kernel
theorem d_M_round_107 : decode b_M_round 107 = .ok (.ireturn, 1) := by decide +kernel
theorem d_M_round_108 : decode b_M_round 108 = .ok (.iconst 0, 1) := by decide +kernel
theorem d_M_round_109 : decode b_M_round 109 = .ok (.istore 6, 2) := by decide +kernel
theorem d_M_round_111 : decode b_M_round 111 = .ok (.iload_n 3, 1) := by decide +kernel
theorem d_M_round_112 : decode b_M_round 112 = .ok (.iload 6, 2) := by decide +kernel
theorem d_M_round_114 : decode b_M_round 114 = .ok (.invokestatic 390, 3) := by decide +kernel
theorem d_M_round_117 : decode b_M_round 117 = .ok (.ifCond .eq 22, 3) := by decide +kernel
theorem d_M_round_120 : decode b_M_round 120 = .ok (.aload_n 0, 1) := by decide +kernel
theorem d_M_round_121 : decode b_M_round 121 = .ok (.iload_n 3, 1) := by decide +kernel
theorem d_M_round_122 : decode b_M_round 122 = .ok (.iload 4, 2) := by decide +kernel
theorem d_M_round_124 : decode b_M_round 124 = .ok (.iload 6, 2) := by decide +kernel
theorem d_M_round_126 : decode b_M_round 126 = .ok (.invokevirtual 393, 3) := by decide +kernel
theorem d_M_round_129 : decode b_M_round 129 = .ok (.aload_n 0, 1) := by decide +kernel
theorem d_M_round_130 : decode b_M_round 130 = .ok (.iload_n 3, 1) := by decide +kernel
theorem d_M_round_131 : decode b_M_round 131 = .ok (.iload 4, 2) := by decide +kernel
theorem d_M_round_133 : decode b_M_round 133 = .ok (.invokevirtual 387, 3) := by decide +kernel
theorem d_M_round_136 : decode b_M_round 136 = .ok (.if_icmp .eq 9, 3) := by decide +kernel
theorem d_M_round_139 : decode b_M_round 139 = .ok (.iinc 6 1, 3) := by decide +kernel
theorem d_M_round_142 : decode b_M_round 142 = .ok (.goto (-31), 3) := by decide +kernel
theorem d_M_round_145 : decode b_M_round 145 = .ok (.iload_n 3, 1) := by decide +kernel
theorem d_M_round_146 : decode b_M_round 146 = .ok (.iconst 1, 1) := by decide +kernel
theorem d_M_round_147 : decode b_M_round 147 = .ok (.iload 6, 2) := by decide +kernel
theorem d_M_round_149 : decode b_M_round 149 = .ok (.ishl, 1) := by decide +kernel
theorem d_M_round_150 : decode b_M_round 150 = .ok (.iconst (-1), 1) := by decide +kernel
theorem d_M_round_151 : decode b_M_round 151 = .ok (.ixor, 1) := by decide +kernel
theorem d_M_round_152 : decode b_M_round 152 = .ok (.iand, 1) := by decide +kernel
theorem d_M_round_153 : decode b_M_round 153 = .ok (.istore_n 3, 1) := by decide +kernel
theorem d_M_round_154 : decode b_M_round 154 = .ok (.iload 6, 2) := by decide +kernel
theorem d_M_round_156 : decode b_M_round 156 = .ok (.istore 4, 2) := by decide +kernel
theorem d_M_round_158 : decode b_M_round 158 = .ok (.iinc 5 1, 3) := by decide +kernel
theorem d_M_round_161 : decode b_M_round 161 = .ok (.goto (-65), 3) := by decide +kernel
theorem d_M_round_164 : decode b_M_round 164 = .ok (.iload 4, 2) := by decide +kernel
theorem d_M_round_166 : decode b_M_round 166 = .ok (.ireturn, 1) := by decide +kernel
theorem mf_M_round : zMF y_M_round b_M_round 7 (some .int) 2 := ⟨zGW_in 1811 (by decide +kernel) (by decide +kernel), zGW_in 135 (by decide +kernel) (by decide +kernel), by decide +kernel⟩
theorem in_M_round : Cond.instanceMethod y_M_round ∈ zGW := zGW_in 1809 (by decide +kernel) (by decide +kernel)
theorem se_M_round : Cond.selects y_M_round.cls y_M_round y_M_round ∈ zGW := zGW_in 1810 (by decide +kernel) (by decide +kernel)
def y_M_laysWeights : MethodName := ⟨zNm 11, "laysWeights", "()V"⟩
abbrev b_M_laysWeights : ByteArray := prog_13_method_105_code
theorem d_M_laysWeights_0 : decode b_M_laysWeights 0 = .ok (.iconst 0, 1) := by decide +kernel
theorem d_M_laysWeights_1 : decode b_M_laysWeights 1 = .ok (.istore_n 1, 1) := by decide +kernel
theorem d_M_laysWeights_2 : decode b_M_laysWeights 2 = .ok (.iload_n 1, 1) := by decide +kernel
theorem d_M_laysWeights_3 : decode b_M_laysWeights 3 = .ok (.aload_n 0, 1) := by decide +kernel
theorem d_M_laysWeights_4 : decode b_M_laysWeights 4 = .ok (.invokevirtual 118, 3) := by decide +kernel
theorem d_M_laysWeights_7 : decode b_M_laysWeights 7 = .ok (.if_icmp .ge 68, 3) := by decide +kernel
theorem d_M_laysWeights_10 : decode b_M_laysWeights 10 = .ok (.iconst 0, 1) := by decide +kernel
theorem d_M_laysWeights_11 : decode b_M_laysWeights 11 = .ok (.istore_n 2, 1) := by decide +kernel
theorem d_M_laysWeights_12 : decode b_M_laysWeights 12 = .ok (.iload_n 2, 1) := by decide +kernel
theorem d_M_laysWeights_13 : decode b_M_laysWeights 13 = .ok (.aload_n 0, 1) := by decide +kernel
theorem d_M_laysWeights_14 : decode b_M_laysWeights 14 = .ok (.invokevirtual 118, 3) := by decide +kernel
theorem d_M_laysWeights_17 : decode b_M_laysWeights 17 = .ok (.if_icmp .ge 52, 3) := by decide +kernel
theorem d_M_laysWeights_20 : decode b_M_laysWeights 20 = .ok (.aload_n 0, 1) := by decide +kernel
theorem d_M_laysWeights_21 : decode b_M_laysWeights 21 = .ok (.getfield 83, 3) := by decide +kernel
theorem d_M_laysWeights_24 : decode b_M_laysWeights 24 = .ok (.iload_n 1, 1) := by decide +kernel
theorem d_M_laysWeights_25 : decode b_M_laysWeights 25 = .ok (.iload_n 2, 1) := by decide +kernel
theorem d_M_laysWeights_26 : decode b_M_laysWeights 26 = .ok (.invokestatic 126, 3) := by decide +kernel
theorem d_M_laysWeights_29 : decode b_M_laysWeights 29 = .ok (.iload_n 1, 1) := by decide +kernel
theorem d_M_laysWeights_30 : decode b_M_laysWeights 30 = .ok (.iload_n 2, 1) := by decide +kernel
theorem d_M_laysWeights_31 : decode b_M_laysWeights 31 = .ok (.if_icmp .eq 30, 3) := by decide +kernel
theorem d_M_laysWeights_34 : decode b_M_laysWeights 34 = .ok (.aload_n 0, 1) := by decide +kernel
theorem d_M_laysWeights_35 : decode b_M_laysWeights 35 = .ok (.iload_n 1, 1) := by decide +kernel
theorem d_M_laysWeights_36 : decode b_M_laysWeights 36 = .ok (.iload_n 2, 1) := by decide +kernel
theorem d_M_laysWeights_37 : decode b_M_laysWeights 37 = .ok (.invokevirtual 134, 3) := by decide +kernel
theorem d_M_laysWeights_40 : decode b_M_laysWeights 40 = .ok (.ifCond .le 21, 3) := by decide +kernel
theorem d_M_laysWeights_43 : decode b_M_laysWeights 43 = .ok (.aload_n 0, 1) := by decide +kernel
theorem d_M_laysWeights_44 : decode b_M_laysWeights 44 = .ok (.iload_n 1, 1) := by decide +kernel
theorem d_M_laysWeights_45 : decode b_M_laysWeights 45 = .ok (.iload_n 2, 1) := by decide +kernel
theorem d_M_laysWeights_46 : decode b_M_laysWeights 46 = .ok (.invokevirtual 338, 3) := by decide +kernel
theorem d_M_laysWeights_49 : decode b_M_laysWeights 49 = .ok (.ifCond .ne 12, 3) := by decide +kernel
theorem d_M_laysWeights_52 : decode b_M_laysWeights 52 = .ok (.aload_n 0, 1) := by decide +kernel
theorem d_M_laysWeights_53 : decode b_M_laysWeights 53 = .ok (.iload_n 1, 1) := by decide +kernel
theorem d_M_laysWeights_54 : decode b_M_laysWeights 54 = .ok (.iload_n 2, 1) := by decide +kernel
theorem d_M_laysWeights_55 : decode b_M_laysWeights 55 = .ok (.invokevirtual 147, 3) := by decide +kernel
theorem d_M_laysWeights_58 : decode b_M_laysWeights 58 = .ok (.goto 4, 3) := by decide +kernel
theorem d_M_laysWeights_61 : decode b_M_laysWeights 61 = .ok (.iconst 0, 1) := by decide +kernel
theorem d_M_laysWeights_62 : decode b_M_laysWeights 62 = .ok (.iastore, 1) := by decide +kernel
theorem d_M_laysWeights_63 : decode b_M_laysWeights 63 = .ok (.iinc 2 1, 3) := by decide +kernel
theorem d_M_laysWeights_66 : decode b_M_laysWeights 66 = .ok (.goto (-54), 3) := by decide +kernel
theorem d_M_laysWeights_69 : decode b_M_laysWeights 69 = .ok (.iinc 1 1, 3) := by decide +kernel
theorem d_M_laysWeights_72 : decode b_M_laysWeights 72 = .ok (.goto (-70), 3) := by decide +kernel
theorem d_M_laysWeights_75 : decode b_M_laysWeights 75 = .ok (.return_, 1) := by decide +kernel
theorem mf_M_laysWeights : zMF y_M_laysWeights b_M_laysWeights 3 none 0 := ⟨zGW_in 1838 (by decide +kernel) (by decide +kernel), zGW_in 135 (by decide +kernel) (by decide +kernel), by decide +kernel⟩
theorem in_M_laysWeights : Cond.instanceMethod y_M_laysWeights ∈ zGW := zGW_in 1837 (by decide +kernel) (by decide +kernel)
theorem se_M_laysWeights : Cond.selects y_M_laysWeights.cls y_M_laysWeights y_M_laysWeights ∈ zGW := zGW_in 106 (by decide +kernel) (by decide +kernel)
def y_M_weightOut : MethodName := ⟨zNm 11, "weightOut", "(I)I"⟩
abbrev b_M_weightOut : ByteArray := prog_13_method_106_code
theorem d_M_weightOut_0 : decode b_M_weightOut 0 = .ok (.iconst 0, 1) := by decide +kernel
theorem d_M_weightOut_1 : decode b_M_weightOut 1 = .ok (.istore_n 2, 1) := by decide +kernel
theorem d_M_weightOut_2 : decode b_M_weightOut 2 = .ok (.iconst 0, 1) := by decide +kernel
theorem d_M_weightOut_3 : decode b_M_weightOut 3 = .ok (.istore_n 3, 1) := by decide +kernel
theorem d_M_weightOut_4 : decode b_M_weightOut 4 = .ok (.iload_n 3, 1) := by decide +kernel
theorem d_M_weightOut_5 : decode b_M_weightOut 5 = .ok (.aload_n 0, 1) := by decide +kernel
theorem d_M_weightOut_6 : decode b_M_weightOut 6 = .ok (.invokevirtual 118, 3) := by decide +kernel
theorem d_M_weightOut_9 : decode b_M_weightOut 9 = .ok (.if_icmp .ge 62, 3) := by decide +kernel
theorem d_M_weightOut_12 : decode b_M_weightOut 12 = .ok (.iconst 0, 1) := by decide +kernel
theorem d_M_weightOut_13 : decode b_M_weightOut 13 = .ok (.istore 4, 2) := by decide +kernel
theorem d_M_weightOut_15 : decode b_M_weightOut 15 = .ok (.iload 4, 2) := by decide +kernel
theorem d_M_weightOut_17 : decode b_M_weightOut 17 = .ok (.aload_n 0, 1) := by decide +kernel
theorem d_M_weightOut_18 : decode b_M_weightOut 18 = .ok (.invokevirtual 118, 3) := by decide +kernel
theorem d_M_weightOut_21 : decode b_M_weightOut 21 = .ok (.if_icmp .ge 44, 3) := by decide +kernel
theorem d_M_weightOut_24 : decode b_M_weightOut 24 = .ok (.iload_n 2, 1) := by decide +kernel
theorem d_M_weightOut_25 : decode b_M_weightOut 25 = .ok (.iload_n 1, 1) := by decide +kernel
theorem d_M_weightOut_26 : decode b_M_weightOut 26 = .ok (.iload_n 3, 1) := by decide +kernel
theorem d_M_weightOut_27 : decode b_M_weightOut 27 = .ok (.invokestatic 390, 3) := by decide +kernel
theorem d_M_weightOut_30 : decode b_M_weightOut 30 = .ok (.ifCond .eq 26, 3) := by decide +kernel
theorem d_M_weightOut_33 : decode b_M_weightOut 33 = .ok (.iload_n 1, 1) := by decide +kernel
theorem d_M_weightOut_34 : decode b_M_weightOut 34 = .ok (.iload 4, 2) := by decide +kernel
theorem d_M_weightOut_36 : decode b_M_weightOut 36 = .ok (.invokestatic 390, 3) := by decide +kernel
theorem d_M_weightOut_39 : decode b_M_weightOut 39 = .ok (.ifCond .ne 17, 3) := by decide +kernel
theorem d_M_weightOut_42 : decode b_M_weightOut 42 = .ok (.aload_n 0, 1) := by decide +kernel
theorem d_M_weightOut_43 : decode b_M_weightOut 43 = .ok (.getfield 83, 3) := by decide +kernel
theorem d_M_weightOut_46 : decode b_M_weightOut 46 = .ok (.iload_n 3, 1) := by decide +kernel
theorem d_M_weightOut_47 : decode b_M_weightOut 47 = .ok (.iload 4, 2) := by decide +kernel
theorem d_M_weightOut_49 : decode b_M_weightOut 49 = .ok (.invokestatic 126, 3) := by decide +kernel
theorem d_M_weightOut_52 : decode b_M_weightOut 52 = .ok (.iaload, 1) := by decide +kernel
theorem d_M_weightOut_53 : decode b_M_weightOut 53 = .ok (.goto 4, 3) := by decide +kernel
theorem d_M_weightOut_56 : decode b_M_weightOut 56 = .ok (.iconst 0, 1) := by decide +kernel
theorem d_M_weightOut_57 : decode b_M_weightOut 57 = .ok (.iadd, 1) := by decide +kernel
theorem d_M_weightOut_58 : decode b_M_weightOut 58 = .ok (.istore_n 2, 1) := by decide +kernel
theorem d_M_weightOut_59 : decode b_M_weightOut 59 = .ok (.iinc 4 1, 3) := by decide +kernel
theorem d_M_weightOut_62 : decode b_M_weightOut 62 = .ok (.goto (-47), 3) := by decide +kernel
theorem d_M_weightOut_65 : decode b_M_weightOut 65 = .ok (.iinc 3 1, 3) := by decide +kernel
theorem d_M_weightOut_68 : decode b_M_weightOut 68 = .ok (.goto (-64), 3) := by decide +kernel
theorem d_M_weightOut_71 : decode b_M_weightOut 71 = .ok (.iload_n 2, 1) := by decide +kernel
theorem d_M_weightOut_72 : decode b_M_weightOut 72 = .ok (.ireturn, 1) := by decide +kernel
theorem mf_M_weightOut : zMF y_M_weightOut b_M_weightOut 5 (some .int) 1 := ⟨zGW_in 1842 (by decide +kernel) (by decide +kernel), zGW_in 135 (by decide +kernel) (by decide +kernel), by decide +kernel⟩
theorem in_M_weightOut : Cond.instanceMethod y_M_weightOut ∈ zGW := zGW_in 1841 (by decide +kernel) (by decide +kernel)
theorem se_M_weightOut : Cond.selects y_M_weightOut.cls y_M_weightOut y_M_weightOut ∈ zGW := zGW_in 107 (by decide +kernel) (by decide +kernel)
def y_M_bound : MethodName := ⟨zNm 11, "bound", "(III)I"⟩
abbrev b_M_bound : ByteArray := prog_13_method_107_code
theorem d_M_bound_0 : decode b_M_bound 0 = .ok (.aload_n 0, 1) := by decide +kernel
theorem d_M_bound_1 : decode b_M_bound 1 = .ok (.iload_n 1, 1) := by decide +kernel
theorem d_M_bound_2 : decode b_M_bound 2 = .ok (.iload_n 2, 1) := by decide +kernel
theorem d_M_bound_3 : decode b_M_bound 3 = .ok (.invokevirtual 130, 3) := by decide +kernel
theorem d_M_bound_6 : decode b_M_bound 6 = .ok (.ifCond .eq 12, 3) := by decide +kernel
theorem d_M_bound_9 : decode b_M_bound 9 = .ok (.iload_n 3, 1) := by decide +kernel
theorem d_M_bound_10 : decode b_M_bound 10 = .ok (.iconst 0, 1) := by decide +kernel
theorem d_M_bound_11 : decode b_M_bound 11 = .ok (.iconst 1, 1) := by decide +kernel
theorem d_M_bound_12 : decode b_M_bound 12 = .ok (.invokestatic 108, 3) := by decide +kernel
theorem d_M_bound_15 : decode b_M_bound 15 = .ok (.ifCond .ne 5, 3) := by decide +kernel
theorem d_M_bound_18 : decode b_M_bound 18 = .ok (.iconst (-1), 1) := by decide +kernel
theorem d_M_bound_19 : decode b_M_bound 19 = .ok (.ireturn, 1) := by decide +kernel
theorem d_M_bound_20 : decode b_M_bound 20 = .ok (.aload_n 0, 1) := by decide +kernel
theorem d_M_bound_21 : decode b_M_bound 21 = .ok (.invokevirtual 403, 3) := by decide +kernel
theorem d_M_bound_24 : decode b_M_bound 24 = .ok (.iconst (-1), 1) := by decide +kernel
theorem d_M_bound_25 : decode b_M_bound 25 = .ok (.istore 4, 2) := by decide +kernel
theorem d_M_bound_27 : decode b_M_bound 27 = .ok (.ldc 177, 2) := by decide +kernel
theorem d_M_bound_29 : decode b_M_bound 29 = .ok (.istore 5, 2) := by decide +kernel
theorem d_M_bound_31 : decode b_M_bound 31 = .ok (.iconst 0, 1) := by decide +kernel
theorem d_M_bound_32 : decode b_M_bound 32 = .ok (.istore 6, 2) := by decide +kernel
theorem d_M_bound_34 : decode b_M_bound 34 = .ok (.iload 6, 2) := by decide +kernel
theorem d_M_bound_36 : decode b_M_bound 36 = .ok (.iconst 1, 1) := by decide +kernel
theorem d_M_bound_37 : decode b_M_bound 37 = .ok (.aload_n 0, 1) := by decide +kernel
theorem d_M_bound_38 : decode b_M_bound 38 = .ok (.invokevirtual 118, 3) := by decide +kernel
theorem d_M_bound_41 : decode b_M_bound 41 = .ok (.ishl, 1) := by decide +kernel
theorem d_M_bound_42 : decode b_M_bound 42 = .ok (.if_icmp .ge 56, 3) := by decide +kernel
theorem d_M_bound_45 : decode b_M_bound 45 = .ok (.iload 6, 2) := by decide +kernel
theorem d_M_bound_47 : decode b_M_bound 47 = .ok (.iload_n 1, 1) := by decide +kernel
theorem d_M_bound_48 : decode b_M_bound 48 = .ok (.invokestatic 390, 3) := by decide +kernel
theorem d_M_bound_51 : decode b_M_bound 51 = .ok (.ifCond .eq 41, 3) := by decide +kernel
theorem d_M_bound_54 : decode b_M_bound 54 = .ok (.iload 6, 2) := by decide +kernel
theorem d_M_bound_56 : decode b_M_bound 56 = .ok (.iload_n 2, 1) := by decide +kernel
theorem d_M_bound_57 : decode b_M_bound 57 = .ok (.invokestatic 390, 3) := by decide +kernel
theorem d_M_bound_60 : decode b_M_bound 60 = .ok (.ifCond .eq 6, 3) := by decide +kernel
theorem d_M_bound_63 : decode b_M_bound 63 = .ok (.goto 29, 3) := by decide +kernel
theorem d_M_bound_66 : decode b_M_bound 66 = .ok (.aload_n 0, 1) := by decide +kernel
theorem d_M_bound_67 : decode b_M_bound 67 = .ok (.iload 6, 2) := by decide +kernel
theorem d_M_bound_69 : decode b_M_bound 69 = .ok (.invokevirtual 406, 3) := by decide +kernel
theorem d_M_bound_72 : decode b_M_bound 72 = .ok (.istore 7, 2) := by decide +kernel
theorem d_M_bound_74 : decode b_M_bound 74 = .ok (.iload 7, 2) := by decide +kernel
theorem d_M_bound_76 : decode b_M_bound 76 = .ok (.iload 5, 2) := by decide +kernel
theorem d_M_bound_78 : decode b_M_bound 78 = .ok (.if_icmp .lt 6, 3) := by decide +kernel
theorem d_M_bound_81 : decode b_M_bound 81 = .ok (.goto 11, 3) := by decide +kernel
theorem d_M_bound_84 : decode b_M_bound 84 = .ok (.iload 7, 2) := by decide +kernel
theorem d_M_bound_86 : decode b_M_bound 86 = .ok (.istore 5, 2) := by decide +kernel
theorem d_M_bound_88 : decode b_M_bound 88 = .ok (.iload 6, 2) := by decide +kernel
theorem d_M_bound_90 : decode b_M_bound 90 = .ok (.istore 4, 2) := by decide +kernel
theorem d_M_bound_92 : decode b_M_bound 92 = .ok (.iinc 6 1, 3) := by decide +kernel
theorem d_M_bound_95 : decode b_M_bound 95 = .ok (.goto (-61), 3) := by decide +kernel
theorem d_M_bound_98 : decode b_M_bound 98 = .ok (.iload_n 3, 1) := by decide +kernel
theorem d_M_bound_99 : decode b_M_bound 99 = .ok (.ifCond .ne 8, 3) := by decide +kernel
theorem d_M_bound_102 : decode b_M_bound 102 = .ok (.iload 5, 2) := by decide +kernel
theorem d_M_bound_104 : decode b_M_bound 104 = .ok (.goto 5, 3) := by decide +kernel
theorem d_M_bound_107 : decode b_M_bound 107 = .ok (.iload 4, 2) := by decide +kernel
theorem d_M_bound_109 : decode b_M_bound 109 = .ok (.ireturn, 1) := by decide +kernel
theorem mf_M_bound : zMF y_M_bound b_M_bound 8 (some .int) 3 := ⟨zGW_in 1834 (by decide +kernel) (by decide +kernel), zGW_in 135 (by decide +kernel) (by decide +kernel), by decide +kernel⟩
theorem in_M_bound : Cond.instanceMethod y_M_bound ∈ zGW := zGW_in 1832 (by decide +kernel) (by decide +kernel)
theorem se_M_bound : Cond.selects y_M_bound.cls y_M_bound y_M_bound ∈ zGW := zGW_in 1833 (by decide +kernel) (by decide +kernel)
def y_M_share : MethodName := ⟨zNm 11, "share", "(II)I"⟩
abbrev b_M_share : ByteArray := prog_13_method_108_code
theorem d_M_share_0 : decode b_M_share 0 = .ok (.aload_n 0, 1) := by decide +kernel
theorem d_M_share_1 : decode b_M_share 1 = .ok (.iload_n 2, 1) := by decide +kernel
theorem d_M_share_2 : decode b_M_share 2 = .ok (.invokevirtual 122, 3) := by decide +kernel
theorem d_M_share_5 : decode b_M_share 5 = .ok (.ifCond .eq 11, 3) := by decide +kernel
theorem d_M_share_8 : decode b_M_share 8 = .ok (.aload_n 0, 1) := by decide +kernel
theorem d_M_share_9 : decode b_M_share 9 = .ok (.iload_n 1, 1) := by decide +kernel
theorem d_M_share_10 : decode b_M_share 10 = .ok (.invokevirtual 397, 3) := by decide +kernel
theorem d_M_share_13 : decode b_M_share 13 = .ok (.ifCond .ne 5, 3) := by decide +kernel
theorem d_M_share_16 : decode b_M_share 16 = .ok (.iconst (-1), 1) := by decide +kernel
theorem d_M_share_17 : decode b_M_share 17 = .ok (.ireturn, 1) := by decide +kernel
theorem d_M_share_18 : decode b_M_share 18 = .ok (.aload_n 0, 1) := by decide +kernel
theorem d_M_share_19 : decode b_M_share 19 = .ok (.invokevirtual 375, 3) := by decide +kernel
theorem d_M_share_22 : decode b_M_share 22 = .ok (.iconst (-1), 1) := by decide +kernel
theorem d_M_share_23 : decode b_M_share 23 = .ok (.istore_n 3, 1) := by decide +kernel
theorem d_M_share_24 : decode b_M_share 24 = .ok (.ldc 177, 2) := by decide +kernel
theorem d_M_share_26 : decode b_M_share 26 = .ok (.istore 4, 2) := by decide +kernel
theorem d_M_share_28 : decode b_M_share 28 = .ok (.iconst 0, 1) := by decide +kernel
theorem d_M_share_29 : decode b_M_share 29 = .ok (.istore 5, 2) := by decide +kernel
theorem d_M_share_31 : decode b_M_share 31 = .ok (.iload 5, 2) := by decide +kernel
theorem d_M_share_33 : decode b_M_share 33 = .ok (.aload_n 0, 1) := by decide +kernel
theorem d_M_share_34 : decode b_M_share 34 = .ok (.invokevirtual 118, 3) := by decide +kernel
theorem d_M_share_37 : decode b_M_share 37 = .ok (.if_icmp .ge 53, 3) := by decide +kernel
theorem d_M_share_40 : decode b_M_share 40 = .ok (.iload_n 1, 1) := by decide +kernel
theorem d_M_share_41 : decode b_M_share 41 = .ok (.iload 5, 2) := by decide +kernel
theorem d_M_share_43 : decode b_M_share 43 = .ok (.invokestatic 390, 3) := by decide +kernel
theorem d_M_share_46 : decode b_M_share 46 = .ok (.ifCond .eq 38, 3) := by decide +kernel
theorem d_M_share_49 : decode b_M_share 49 = .ok (.aload_n 0, 1) := by decide +kernel
theorem d_M_share_50 : decode b_M_share 50 = .ok (.getfield 77, 3) := by decide +kernel
theorem d_M_share_53 : decode b_M_share 53 = .ok (.iload 5, 2) := by decide +kernel
theorem d_M_share_55 : decode b_M_share 55 = .ok (.iload_n 2, 1) := by decide +kernel
theorem d_M_share_56 : decode b_M_share 56 = .ok (.invokestatic 126, 3) := by decide +kernel
theorem d_M_share_59 : decode b_M_share 59 = .ok (.iaload, 1) := by decide +kernel
theorem d_M_share_60 : decode b_M_share 60 = .ok (.iload 4, 2) := by decide +kernel
theorem d_M_share_62 : decode b_M_share 62 = .ok (.if_icmp .lt 6, 3) := by decide +kernel
theorem d_M_share_65 : decode b_M_share 65 = .ok (.goto 19, 3) := by decide +kernel
theorem d_M_share_68 : decode b_M_share 68 = .ok (.aload_n 0, 1) := by decide +kernel
theorem d_M_share_69 : decode b_M_share 69 = .ok (.getfield 77, 3) := by decide +kernel
theorem d_M_share_72 : decode b_M_share 72 = .ok (.iload 5, 2) := by decide +kernel
theorem d_M_share_74 : decode b_M_share 74 = .ok (.iload_n 2, 1) := by decide +kernel
theorem d_M_share_75 : decode b_M_share 75 = .ok (.invokestatic 126, 3) := by decide +kernel
theorem d_M_share_78 : decode b_M_share 78 = .ok (.iaload, 1) := by decide +kernel
theorem d_M_share_79 : decode b_M_share 79 = .ok (.istore 4, 2) := by decide +kernel
theorem d_M_share_81 : decode b_M_share 81 = .ok (.iload 5, 2) := by decide +kernel
theorem d_M_share_83 : decode b_M_share 83 = .ok (.istore_n 3, 1) := by decide +kernel
theorem d_M_share_84 : decode b_M_share 84 = .ok (.iinc 5 1, 3) := by decide +kernel
theorem d_M_share_87 : decode b_M_share 87 = .ok (.goto (-56), 3) := by decide +kernel
theorem d_M_share_90 : decode b_M_share 90 = .ok (.iload_n 3, 1) := by decide +kernel
theorem d_M_share_91 : decode b_M_share 91 = .ok (.ireturn, 1) := by decide +kernel
theorem mf_M_share : zMF y_M_share b_M_share 6 (some .int) 2 := ⟨zGW_in 1846 (by decide +kernel) (by decide +kernel), zGW_in 135 (by decide +kernel) (by decide +kernel), by decide +kernel⟩
theorem in_M_share : Cond.instanceMethod y_M_share ∈ zGW := zGW_in 1844 (by decide +kernel) (by decide +kernel)
theorem se_M_share : Cond.selects y_M_share.cls y_M_share y_M_share ∈ zGW := zGW_in 1845 (by decide +kernel) (by decide +kernel)
def y_M_seaAt : MethodName := ⟨zNm 11, "seaAt", "(II)I"⟩
abbrev b_M_seaAt : ByteArray := prog_13_method_109_code
theorem d_M_seaAt_0 : decode b_M_seaAt 0 = .ok (.aload_n 0, 1) := by decide +kernel
theorem d_M_seaAt_1 : decode b_M_seaAt 1 = .ok (.getfield 89, 3) := by decide +kernel
theorem d_M_seaAt_4 : decode b_M_seaAt 4 = .ok (.bipush 9, 2) := by decide +kernel
theorem d_M_seaAt_6 : decode b_M_seaAt 6 = .ok (.iload_n 1, 1) := by decide +kernel
theorem d_M_seaAt_7 : decode b_M_seaAt 7 = .ok (.imul, 1) := by decide +kernel
theorem d_M_seaAt_8 : decode b_M_seaAt 8 = .ok (.iload_n 2, 1) := by decide +kernel
theorem d_M_seaAt_9 : decode b_M_seaAt 9 = .ok (.iadd, 1) := by decide +kernel
theorem d_M_seaAt_10 : decode b_M_seaAt 10 = .ok (.iaload, 1) := by decide +kernel
theorem d_M_seaAt_11 : decode b_M_seaAt 11 = .ok (.ireturn, 1) := by decide +kernel
theorem mf_M_seaAt : zMF y_M_seaAt b_M_seaAt 3 (some .int) 2 := ⟨zGW_in 1858 (by decide +kernel) (by decide +kernel), zGW_in 135 (by decide +kernel) (by decide +kernel), by decide +kernel⟩
theorem in_M_seaAt : Cond.instanceMethod y_M_seaAt ∈ zGW := zGW_in 1857 (by decide +kernel) (by decide +kernel)
theorem se_M_seaAt : Cond.selects y_M_seaAt.cls y_M_seaAt y_M_seaAt ∈ zGW := zGW_in 109 (by decide +kernel) (by decide +kernel)
def y_M_seaBy : MethodName := ⟨zNm 11, "seaBy", "(III)I"⟩
abbrev b_M_seaBy : ByteArray := prog_13_method_110_code
theorem d_M_seaBy_0 : decode b_M_seaBy 0 = .ok (.aload_n 0, 1) := by decide +kernel
theorem d_M_seaBy_1 : decode b_M_seaBy 1 = .ok (.iload_n 2, 1) := by decide +kernel
theorem d_M_seaBy_2 : decode b_M_seaBy 2 = .ok (.iload_n 3, 1) := by decide +kernel
theorem d_M_seaBy_3 : decode b_M_seaBy 3 = .ok (.invokevirtual 338, 3) := by decide +kernel
theorem d_M_seaBy_6 : decode b_M_seaBy 6 = .ok (.ifCond .eq 9, 3) := by decide +kernel
theorem d_M_seaBy_9 : decode b_M_seaBy 9 = .ok (.iload_n 1, 1) := by decide +kernel
theorem d_M_seaBy_10 : decode b_M_seaBy 10 = .ok (.iconst 1, 1) := by decide +kernel
theorem d_M_seaBy_11 : decode b_M_seaBy 11 = .ok (.isub, 1) := by decide +kernel
theorem d_M_seaBy_12 : decode b_M_seaBy 12 = .ok (.goto 4, 3) := by decide +kernel
theorem d_M_seaBy_15 : decode b_M_seaBy 15 = .ok (.iload_n 1, 1) := by decide +kernel
theorem d_M_seaBy_16 : decode b_M_seaBy 16 = .ok (.istore 4, 2) := by decide +kernel
theorem d_M_seaBy_18 : decode b_M_seaBy 18 = .ok (.iload 4, 2) := by decide +kernel
theorem d_M_seaBy_20 : decode b_M_seaBy 20 = .ok (.ifCond .ge 8, 3) := by decide +kernel
theorem d_M_seaBy_23 : decode b_M_seaBy 23 = .ok (.ldc 177, 2) := by decide +kernel
theorem d_M_seaBy_25 : decode b_M_seaBy 25 = .ok (.goto 26, 3) := by decide +kernel
theorem d_M_seaBy_28 : decode b_M_seaBy 28 = .ok (.ldc 177, 2) := by decide +kernel
theorem d_M_seaBy_30 : decode b_M_seaBy 30 = .ok (.aload_n 0, 1) := by decide +kernel
theorem d_M_seaBy_31 : decode b_M_seaBy 31 = .ok (.getfield 86, 3) := by decide +kernel
theorem d_M_seaBy_34 : decode b_M_seaBy 34 = .ok (.iload_n 2, 1) := by decide +kernel
theorem d_M_seaBy_35 : decode b_M_seaBy 35 = .ok (.iload_n 3, 1) := by decide +kernel
theorem d_M_seaBy_36 : decode b_M_seaBy 36 = .ok (.invokestatic 126, 3) := by decide +kernel
theorem d_M_seaBy_39 : decode b_M_seaBy 39 = .ok (.iaload, 1) := by decide +kernel
theorem d_M_seaBy_40 : decode b_M_seaBy 40 = .ok (.aload_n 0, 1) := by decide +kernel
theorem d_M_seaBy_41 : decode b_M_seaBy 41 = .ok (.iload 4, 2) := by decide +kernel
theorem d_M_seaBy_43 : decode b_M_seaBy 43 = .ok (.iload_n 3, 1) := by decide +kernel
theorem d_M_seaBy_44 : decode b_M_seaBy 44 = .ok (.invokevirtual 409, 3) := by decide +kernel
theorem d_M_seaBy_47 : decode b_M_seaBy 47 = .ok (.iadd, 1) := by decide +kernel
theorem d_M_seaBy_48 : decode b_M_seaBy 48 = .ok (.invokestatic 372, 3) := by decide +kernel
theorem d_M_seaBy_51 : decode b_M_seaBy 51 = .ok (.ireturn, 1) := by decide +kernel
theorem mf_M_seaBy : zMF y_M_seaBy b_M_seaBy 5 (some .int) 3 := ⟨zGW_in 1862 (by decide +kernel) (by decide +kernel), zGW_in 135 (by decide +kernel) (by decide +kernel), by decide +kernel⟩
theorem in_M_seaBy : Cond.instanceMethod y_M_seaBy ∈ zGW := zGW_in 1861 (by decide +kernel) (by decide +kernel)
theorem se_M_seaBy : Cond.selects y_M_seaBy.cls y_M_seaBy y_M_seaBy ∈ zGW := zGW_in 110 (by decide +kernel) (by decide +kernel)
theorem lk_11_335 : Cond.methodLink (zNm 11) 335 y_M_goesThrough ∈ zGW := zGW_in 1730 (by decide +kernel) (by decide +kernel)
theorem lk_11_345 : Cond.methodLink (zNm 11) 345 y_M_isPassed ∈ zGW := zGW_in 1726 (by decide +kernel) (by decide +kernel)
theorem lk_11_348 : Cond.methodLink (zNm 11) 348 y_M_keeps ∈ zGW := zGW_in 1734 (by decide +kernel) (by decide +kernel)
theorem lk_11_357 : Cond.methodLink (zNm 11) 357 y_M_swimsKept ∈ zGW := zGW_in 1722 (by decide +kernel) (by decide +kernel)
theorem lk_11_360 : Cond.methodLink (zNm 11) 360 y_M_goodOr ∈ zGW := zGW_in 1738 (by decide +kernel) (by decide +kernel)
theorem lk_11_351 : Cond.methodLink (zNm 11) 351 y_M_turnsGate ∈ zGW := zGW_in 1750 (by decide +kernel) (by decide +kernel)
theorem lk_11_363 : Cond.methodLink (zNm 11) 363 y_M_gatesKept ∈ zGW := zGW_in 1746 (by decide +kernel) (by decide +kernel)
theorem lk_11_366 : Cond.methodLink (zNm 11) 366 y_M_stirsKept ∈ zGW := zGW_in 1758 (by decide +kernel) (by decide +kernel)
theorem lk_11_354 : Cond.methodLink (zNm 11) 354 y_M_dayPasses ∈ zGW := zGW_in 1770 (by decide +kernel) (by decide +kernel)
theorem lk_11_369 : Cond.methodLink (zNm 11) 369 y_M_passesKept ∈ zGW := zGW_in 1766 (by decide +kernel) (by decide +kernel)
theorem lk_11_372 : Cond.methodLink (zNm 11) 372 y_M_lesser ∈ zGW := zGW_in 1782 (by decide +kernel) (by decide +kernel)
theorem lk_11_375 : Cond.methodLink (zNm 11) 375 y_M_laysSoon ∈ zGW := zGW_in 1778 (by decide +kernel) (by decide +kernel)
theorem lk_11_378 : Cond.methodLink (zNm 11) 378 y_M_soonOr ∈ zGW := zGW_in 1785 (by decide +kernel) (by decide +kernel)
theorem lk_11_381 : Cond.methodLink (zNm 11) 381 y_M_nextTo ∈ zGW := zGW_in 1793 (by decide +kernel) (by decide +kernel)
theorem lk_11_384 : Cond.methodLink (zNm 11) 384 y_M_greater ∈ zGW := zGW_in 1805 (by decide +kernel) (by decide +kernel)
theorem lk_11_387 : Cond.methodLink (zNm 11) 387 y_M_roundAt ∈ zGW := zGW_in 1827 (by decide +kernel) (by decide +kernel)
theorem lk_11_390 : Cond.methodLink (zNm 11) 390 y_M_isIn ∈ zGW := zGW_in 1820 (by decide +kernel) (by decide +kernel)
theorem lk_11_393 : Cond.methodLink (zNm 11) 393 y_M_legOfRound ∈ zGW := zGW_in 1823 (by decide +kernel) (by decide +kernel)
theorem lk_11_397 : Cond.methodLink (zNm 11) 397 y_M_areSprings ∈ zGW := zGW_in 1812 (by decide +kernel) (by decide +kernel)
theorem lk_11_400 : Cond.methodLink (zNm 11) 400 y_M_laysRounds ∈ zGW := zGW_in 1816 (by decide +kernel) (by decide +kernel)
theorem lk_11_403 : Cond.methodLink (zNm 11) 403 y_M_laysWeights ∈ zGW := zGW_in 1835 (by decide +kernel) (by decide +kernel)
theorem lk_11_406 : Cond.methodLink (zNm 11) 406 y_M_weightOut ∈ zGW := zGW_in 1839 (by decide +kernel) (by decide +kernel)
theorem lk_11_409 : Cond.methodLink (zNm 11) 409 y_M_seaAt ∈ zGW := zGW_in 1855 (by decide +kernel) (by decide +kernel)
def f_M_undo_60 (fu : Nat) (a1 : Int32) (S : zSt) : Option (Int32 × zSt) := zgd (0 ≤ (a1 + (92 : Int32)) ∧ (a1 + (92 : Int32)).toNatClampNeg < 1488) (zb2 (f_M_good (zI S 86 (a1 + (92 : Int32)).toNatClampNeg) S) (fun r3 S4 => some (r3, S4)))
def f_M_undo_34 (fu : Nat) : Nat → Int32 → Int32 → zSt → Option (Int32 × zSt)
  | 0, _, _, _ => none
  | n + 1, a1, a2, S => if (92 : Int32) ≤ a2 then f_M_undo_60 fu a1 S else zgd (0 ≤ (a1 + a2) ∧ (a1 + a2).toNatClampNeg < 1488) (zgd (0 ≤ a2 ∧ a2.toNatClampNeg < 5807) (f_M_undo_34 fu n a1 (a2 + (1 : Int32)) (zwI S 74 a2.toNatClampNeg (zI S 86 (a1 + a2).toNatClampNeg))))
def f_M_undo (fu : Nat) (S : zSt) : Option (Int32 × zSt) := if (zI S 72 32) = 0 then zb2 (f_M_refuses (-3 : Int32) S) (fun r3 S4 => some (r3, S4)) else f_M_undo_34 fu fu ((93 : Int32) * (zI (zwI S 72 32 ((zI S 72 32) - (1 : Int32))) 72 32)) (0 : Int32) (zwI S 72 32 ((zI S 72 32) - (1 : Int32)))
set_option maxRecDepth 100000 in
set_option maxHeartbeats 4000000 in
theorem c_M_undo_60 {p : Program} {l : Launch} {e : Env} {s : State} {m : MethodId} {args : Array Value} {below : List Frame} {meth : Method} {c : Code} {G : zG} (C : zC p s m args meth c G b_M_undo 3 y_M_undo.cls) (hret : meth.sig.returnType = (some .int)) {fu : Nat} {r : Int32} {S1 : zSt} : ∀ (a1 : Int32) (S : zSt) , f_M_undo_60 fu a1 S = some (r, S1) → zJ p l e rm_M_undo s m args below meth c G true 3 0 0 (zQm below G args s rm_M_undo true (some (zi r)) S1) S 60 [(0, zr (some 72)), (1, zi a1)] [] := by
  intro a1 S h
  unfold f_M_undo_60 at h
  refine z_aload_n C 0 rfl d_M_undo_60 rfl ?_
  refine z_aload_n C 0 rfl d_M_undo_61 rfl ?_
  refine z_getF2 C 11 (by decide) 30 (by decide) rfl 14 1488 rfl (86) rfl zp_72 zk_72 zfl_11_65 d_M_undo_62 ?_
  refine z_iload_n C 1 rfl d_M_undo_65 rfl ?_
  refine z_bipush C (92 : Int32) (by decide) d_M_undo_66 ?_
  refine z_iadd C d_M_undo_68 ?_
  refine z_fact (fun hSR => ?_)
  obtain ⟨g1, h⟩ := zgd_some h
  refine z_ialoadS C zo_86 zk_86 (za_86 hSR) g1 d_M_undo_69 ?_
  obtain ⟨r3, S4, h2, h⟩ := zb2_some h
  refine z_cV C 11 (by decide) (m_M_good l h2) mf_M_good lk_11_14 in_M_good se_M_good rfl zo_72 zk_72 ⟨rfl, rfl⟩ ⟨by decide, by decide⟩ ⟨Nat.zero_le _, Nat.zero_le _⟩ rfl _ [] rfl (Nat.le_of_ble_eq_true rfl) d_M_undo_70 ?_
  cases h
  exact z_iret C .int hret rfl ⟨Nat.zero_le _, Nat.zero_le _⟩ d_M_undo_73
set_option maxRecDepth 100000 in
set_option maxHeartbeats 4000000 in
theorem c_M_undo_34 {p : Program} {l : Launch} {e : Env} {s : State} {m : MethodId} {args : Array Value} {below : List Frame} {meth : Method} {c : Code} {G : zG} (C : zC p s m args meth c G b_M_undo 3 y_M_undo.cls) (hret : meth.sig.returnType = (some .int)) {fu : Nat} {r : Int32} {S1 : zSt} : ∀ (n : Nat) (a1 : Int32) (a2 : Int32) (S : zSt) , f_M_undo_34 fu n a1 a2 S = some (r, S1) → zJ p l e rm_M_undo s m args below meth c G true 3 0 0 (zQm below G args s rm_M_undo true (some (zi r)) S1) S 34 [(0, zr (some 72)), (1, zi a1), (2, zi a2)] [] := by
  intro n
  induction n with
  | zero =>
    intro a1 a2 S h
    cases h
  | succ n ih =>
    intro a1 a2 S h
    rw [f_M_undo_34] at h
    refine z_iload_n C 2 rfl d_M_undo_34 rfl ?_
    refine z_bipush C (92 : Int32) (by decide) d_M_undo_35 ?_
    rcases zite h with ⟨c1, h⟩ | ⟨c1, h⟩
    · refine z_icmp_get C 60 c1 d_M_undo_37 (by decide) ?_
      refine zq_lsub [0, 1] [(0, zr (some 72)), (1, zi a1)] rfl ?_
      exact c_M_undo_60 C hret  a1 S h
    · refine z_icmp_gef C 60 c1 d_M_undo_37 (by decide) ?_
      refine z_aload_n C 0 rfl d_M_undo_40 rfl ?_
      refine z_getF2 C 11 (by decide) 2 (by decide) rfl 2 5807 rfl (74) rfl zp_72 zk_72 zfl_11_24 d_M_undo_41 ?_
      refine z_iload_n C 2 rfl d_M_undo_44 rfl ?_
      refine z_aload_n C 0 rfl d_M_undo_45 rfl ?_
      refine z_getF2 C 11 (by decide) 30 (by decide) rfl 14 1488 rfl (86) rfl zp_72 zk_72 zfl_11_65 d_M_undo_46 ?_
      refine z_iload_n C 1 rfl d_M_undo_49 rfl ?_
      refine z_iload_n C 2 rfl d_M_undo_50 rfl ?_
      refine z_iadd C d_M_undo_51 ?_
      refine z_fact (fun hSR => ?_)
      obtain ⟨g2, h⟩ := zgd_some h
      refine z_ialoadS C zo_86 zk_86 (za_86 hSR) g2 d_M_undo_52 ?_
      refine z_fact (fun hSR => ?_)
      obtain ⟨g3, h⟩ := zgd_some h
      refine z_iastoreS C zo_74 zk_74 (za_74 hSR) g3 d_M_undo_53 ?_
      refine z_iinc C 2 (a2 + (1 : Int32)) [(2, zi (a2 + (1 : Int32))), (0, zr (some 72)), (1, zi a1)] rfl d_M_undo_54 (by first | rfl | decide) (by decide) rfl ?_
      refine z_goto C 34 d_M_undo_57 (by decide) ?_
      refine zq_lsub [1, 2, 0] [(0, zr (some 72)), (1, zi a1), (2, zi (a2 + (1 : Int32)))] rfl ?_
      exact ih a1 (a2 + (1 : Int32)) (zwI S 74 a2.toNatClampNeg (zI S 86 (a1 + a2).toNatClampNeg)) h
set_option maxRecDepth 100000 in
set_option maxHeartbeats 4000000 in
theorem m_M_undo (l : Launch) {fu : Nat} {S : zSt} {r : Int32} {S1 : zSt} (h : f_M_undo fu  S = some (r, S1)) : zPM l y_M_undo b_M_undo 3 (some .int) rm_M_undo true true [zr (some 72)] S (some (zi r)) S1 := by
  refine zPM_of (by decide) (Nat.le_of_ble_eq_true rfl) (fun p e s m args below meth c G C hret hname => ?_)
  unfold f_M_undo at h
  refine (?_ : zJ p l e rm_M_undo s m args below meth c G true 3 0 0 (zQm below G args s rm_M_undo true (some (zi r)) S1) S 0 [(0, zr (some 72))] [])
  refine z_aload_n C 0 rfl d_M_undo_0 rfl ?_
  refine z_getI C 11 (by decide) 32 (by decide) rfl zo_72 zk_72 zfl_11_11 d_M_undo_1 ?_
  rcases zite h with ⟨c1, h⟩ | ⟨c1, h⟩
  · refine z_if_nef C 14 c1 d_M_undo_4 (by decide) ?_
    refine z_aload_n C 0 rfl d_M_undo_7 rfl ?_
    refine z_bipush C (-3 : Int32) (by decide) d_M_undo_8 ?_
    obtain ⟨r3, S4, h2, h⟩ := zb2_some h
    refine z_cV C 11 (by decide) (m_M_refuses l h2) mf_M_refuses lk_11_112 in_M_refuses se_M_refuses rfl zo_72 zk_72 ⟨rfl, rfl⟩ ⟨by decide, by decide⟩ ⟨Nat.zero_le _, Nat.zero_le _⟩ rfl _ [] rfl (Nat.le_of_ble_eq_true rfl) d_M_undo_10 ?_
    cases h
    exact z_iret C .int hret rfl ⟨Nat.zero_le _, Nat.zero_le _⟩ d_M_undo_13
  · refine z_if_net C 14 c1 d_M_undo_4 (by decide) ?_
    refine z_aload_n C 0 rfl d_M_undo_14 rfl ?_
    refine z_dup C rfl d_M_undo_15 ?_
    refine z_getI C 11 (by decide) 32 (by decide) rfl zo_72 zk_72 zfl_11_11 d_M_undo_16 ?_
    refine z_iconst C (1 : Int32) (by decide) d_M_undo_19 ?_
    refine z_isub C d_M_undo_20 ?_
    refine z_putI C 11 (by decide) 32 (by decide) rfl (Or.inl rfl) zo_72 zk_72 zfl_11_11 (Or.inl rfl) d_M_undo_21 ?_
    refine z_bipush C (93 : Int32) (by decide) d_M_undo_24 ?_
    refine z_aload_n C 0 rfl d_M_undo_26 rfl ?_
    refine z_getI C 11 (by decide) 32 (by decide) rfl zo_72 zk_72 zfl_11_11 d_M_undo_27 ?_
    refine z_imul C d_M_undo_30 ?_
    refine z_istore_n C [(1, zi ((93 : Int32) * (zI (zwI S 72 32 ((zI S 72 32) - (1 : Int32))) 72 32))), (0, zr (some 72))] d_M_undo_31 rfl (by decide) rfl ?_
    refine z_iconst C (0 : Int32) (by decide) d_M_undo_32 ?_
    refine z_istore_n C [(2, zi (0 : Int32)), (1, zi ((93 : Int32) * (zI (zwI S 72 32 ((zI S 72 32) - (1 : Int32))) 72 32))), (0, zr (some 72))] d_M_undo_33 rfl (by decide) rfl ?_
    refine zq_lsub [2, 1, 0] [(0, zr (some 72)), (1, zi ((93 : Int32) * (zI (zwI S 72 32 ((zI S 72 32) - (1 : Int32))) 72 32))), (2, zi (0 : Int32))] rfl ?_
    exact c_M_undo_34 C hret fu  ((93 : Int32) * (zI (zwI S 72 32 ((zI S 72 32) - (1 : Int32))) 72 32)) (0 : Int32) (zwI S 72 32 ((zI S 72 32) - (1 : Int32))) h
def f_M_goesThrough (fu : Nat) (a1 : Int32) (a2 : Int32) (S : zSt) : Option (Int32 × zSt) := if a1 = a2 then some ((0 : Int32), S) else zb1 (f_M_farOf a1 a2 S) (fun r3 => if r3 ≤ 0 then some ((0 : Int32), S) else zb2 (f_M_isBarred fu a1 a2 S) (fun r6 S7 => if r6 = 0 then some ((1 : Int32), S7) else some ((0 : Int32), S7)))
set_option maxRecDepth 100000 in
set_option maxHeartbeats 4000000 in
theorem m_M_goesThrough (l : Launch) {fu : Nat} {a1 : Int32} {a2 : Int32} {S : zSt} {r : Int32} {S1 : zSt} (h : f_M_goesThrough fu a1 a2 S = some (r, S1)) : zPM l y_M_goesThrough b_M_goesThrough 3 (some .boolean) rm_M_goesThrough true true [zr (some 72), zi a1, zi a2] S (some (zi r)) S1 := by
  refine zPM_of (by decide) (Nat.le_of_ble_eq_true rfl) (fun p e s m args below meth c G C hret hname => ?_)
  unfold f_M_goesThrough at h
  refine (?_ : zJ p l e rm_M_goesThrough s m args below meth c G true 3 0 0 (zQm below G args s rm_M_goesThrough true (some (zi r)) S1) S 0 [(0, zr (some 72)), (1, zi a1), (2, zi a2)] [])
  refine z_iload_n C 1 rfl d_M_goesThrough_0 rfl ?_
  refine z_iload_n C 2 rfl d_M_goesThrough_1 rfl ?_
  rcases zite h with ⟨c1, h⟩ | ⟨c1, h⟩
  · refine z_icmp_eqt C 27 c1 d_M_goesThrough_2 (by decide) ?_
    refine z_iconst C (0 : Int32) (by decide) d_M_goesThrough_27 ?_
    cases h
    exact z_iret C .boolean hret rfl ⟨Nat.zero_le _, Nat.zero_le _⟩ d_M_goesThrough_28
  · refine z_icmp_eqf C 27 c1 d_M_goesThrough_2 (by decide) ?_
    refine z_aload_n C 0 rfl d_M_goesThrough_5 rfl ?_
    refine z_iload_n C 1 rfl d_M_goesThrough_6 rfl ?_
    refine z_iload_n C 2 rfl d_M_goesThrough_7 rfl ?_
    obtain ⟨r3, h2, h⟩ := zb1_some h
    refine z_cV C 11 (by decide) (m_M_farOf l h2) mf_M_farOf lk_11_134 in_M_farOf se_M_farOf rfl zo_72 zk_72 ⟨rfl, rfl⟩ ⟨by decide, by decide⟩ ⟨Nat.zero_le _, Nat.zero_le _⟩ rfl _ [] rfl (Nat.le_of_ble_eq_true rfl) d_M_goesThrough_8 ?_
    rcases zite h with ⟨c4, h⟩ | ⟨c4, h⟩
    · refine z_if_let C 27 c4 d_M_goesThrough_11 (by decide) ?_
      refine z_iconst C (0 : Int32) (by decide) d_M_goesThrough_27 ?_
      cases h
      exact z_iret C .boolean hret rfl ⟨Nat.zero_le _, Nat.zero_le _⟩ d_M_goesThrough_28
    · refine z_if_lef C 27 c4 d_M_goesThrough_11 (by decide) ?_
      refine z_aload_n C 0 rfl d_M_goesThrough_14 rfl ?_
      refine z_iload_n C 1 rfl d_M_goesThrough_15 rfl ?_
      refine z_iload_n C 2 rfl d_M_goesThrough_16 rfl ?_
      obtain ⟨r6, S7, h5, h⟩ := zb2_some h
      refine z_cV C 11 (by decide) (m_M_isBarred l h5) mf_M_isBarred lk_11_150 in_M_isBarred se_M_isBarred rfl zo_72 zk_72 ⟨rfl, rfl⟩ ⟨by decide, by decide⟩ ⟨Nat.zero_le _, Nat.zero_le _⟩ rfl _ [] rfl (Nat.le_of_ble_eq_true rfl) d_M_goesThrough_17 ?_
      rcases zite h with ⟨c8, h⟩ | ⟨c8, h⟩
      · refine z_if_nef C 27 c8 d_M_goesThrough_20 (by decide) ?_
        refine z_iconst C (1 : Int32) (by decide) d_M_goesThrough_23 ?_
        refine z_goto C 28 d_M_goesThrough_24 (by decide) ?_
        cases h
        exact z_iret C .boolean hret rfl ⟨Nat.zero_le _, Nat.zero_le _⟩ d_M_goesThrough_28
      · refine z_if_net C 27 c8 d_M_goesThrough_20 (by decide) ?_
        refine z_iconst C (0 : Int32) (by decide) d_M_goesThrough_27 ?_
        cases h
        exact z_iret C .boolean hret rfl ⟨Nat.zero_le _, Nat.zero_le _⟩ d_M_goesThrough_28
def f_M_isPassed (fu : Nat) (a1 : Int32) (a2 : Int32) (S : zSt) : Option (Int32 × zSt) := zb2 (f_M_goesThrough fu a1 a2 S) (fun r2 S3 => if r2 = 0 then some ((0 : Int32), S3) else zb1 (f_M_isShut a1 a2 S3) (fun r6 => if r6 = 0 then some ((1 : Int32), S3) else some ((0 : Int32), S3)))
set_option maxRecDepth 100000 in
set_option maxHeartbeats 4000000 in
theorem m_M_isPassed (l : Launch) {fu : Nat} {a1 : Int32} {a2 : Int32} {S : zSt} {r : Int32} {S1 : zSt} (h : f_M_isPassed fu a1 a2 S = some (r, S1)) : zPM l y_M_isPassed b_M_isPassed 3 (some .boolean) rm_M_isPassed true true [zr (some 72), zi a1, zi a2] S (some (zi r)) S1 := by
  refine zPM_of (by decide) (Nat.le_of_ble_eq_true rfl) (fun p e s m args below meth c G C hret hname => ?_)
  unfold f_M_isPassed at h
  refine (?_ : zJ p l e rm_M_isPassed s m args below meth c G true 3 0 0 (zQm below G args s rm_M_isPassed true (some (zi r)) S1) S 0 [(0, zr (some 72)), (1, zi a1), (2, zi a2)] [])
  refine z_aload_n C 0 rfl d_M_isPassed_0 rfl ?_
  refine z_iload_n C 1 rfl d_M_isPassed_1 rfl ?_
  refine z_iload_n C 2 rfl d_M_isPassed_2 rfl ?_
  obtain ⟨r2, S3, h1, h⟩ := zb2_some h
  refine z_cV C 11 (by decide) (m_M_goesThrough l h1) mf_M_goesThrough lk_11_335 in_M_goesThrough se_M_goesThrough rfl zo_72 zk_72 ⟨rfl, rfl⟩ ⟨by decide, by decide⟩ ⟨Nat.zero_le _, Nat.zero_le _⟩ rfl _ [] rfl (Nat.le_of_ble_eq_true rfl) d_M_isPassed_3 ?_
  rcases zite h with ⟨c4, h⟩ | ⟨c4, h⟩
  · refine z_if_eqt C 22 c4 d_M_isPassed_6 (by decide) ?_
    refine z_iconst C (0 : Int32) (by decide) d_M_isPassed_22 ?_
    cases h
    exact z_iret C .boolean hret rfl ⟨Nat.zero_le _, Nat.zero_le _⟩ d_M_isPassed_23
  · refine z_if_eqf C 22 c4 d_M_isPassed_6 (by decide) ?_
    refine z_aload_n C 0 rfl d_M_isPassed_9 rfl ?_
    refine z_iload_n C 1 rfl d_M_isPassed_10 rfl ?_
    refine z_iload_n C 2 rfl d_M_isPassed_11 rfl ?_
    obtain ⟨r6, h5, h⟩ := zb1_some h
    refine z_cV C 11 (by decide) (m_M_isShut l h5) mf_M_isShut lk_11_338 in_M_isShut se_M_isShut rfl zo_72 zk_72 ⟨rfl, rfl⟩ ⟨by decide, by decide⟩ ⟨Nat.zero_le _, Nat.zero_le _⟩ rfl _ [] rfl (Nat.le_of_ble_eq_true rfl) d_M_isPassed_12 ?_
    rcases zite h with ⟨c7, h⟩ | ⟨c7, h⟩
    · refine z_if_nef C 22 c7 d_M_isPassed_15 (by decide) ?_
      refine z_iconst C (1 : Int32) (by decide) d_M_isPassed_18 ?_
      refine z_goto C 23 d_M_isPassed_19 (by decide) ?_
      cases h
      exact z_iret C .boolean hret rfl ⟨Nat.zero_le _, Nat.zero_le _⟩ d_M_isPassed_23
    · refine z_if_net C 22 c7 d_M_isPassed_15 (by decide) ?_
      refine z_iconst C (0 : Int32) (by decide) d_M_isPassed_22 ?_
      cases h
      exact z_iret C .boolean hret rfl ⟨Nat.zero_le _, Nat.zero_le _⟩ d_M_isPassed_23
def f_M_keeps_85 (fu : Nat) (a1 : Int32) (a2 : Int32) (S : zSt) : Option zSt := zgd (0 ≤ ((a2 * (zI S 72 32)) + (92 : Int32)) ∧ ((a2 * (zI S 72 32)) + (92 : Int32)).toNatClampNeg < 1488) (some (zwI (zwI S 86 ((a2 * (zI S 72 32)) + (92 : Int32)).toNatClampNeg a1) 72 32 ((zI (zwI S 86 ((a2 * (zI S 72 32)) + (92 : Int32)).toNatClampNeg a1) 72 32) + (1 : Int32))))
def f_M_keeps_54 (fu : Nat) : Nat → Int32 → Int32 → Int32 → zSt → Option zSt
  | 0, _, _, _, _ => none
  | n + 1, a1, a2, a3, S => if (92 : Int32) ≤ a3 then f_M_keeps_85 fu a1 a2 S else zgd (0 ≤ a3 ∧ a3.toNatClampNeg < 5807) (zgd (0 ≤ ((a2 * (zI S 72 32)) + a3) ∧ ((a2 * (zI S 72 32)) + a3).toNatClampNeg < 1488) (f_M_keeps_54 fu n a1 a2 (a3 + (1 : Int32)) (zwI S 86 ((a2 * (zI S 72 32)) + a3).toNatClampNeg (zI S 74 a3.toNatClampNeg))))
def f_M_keeps_42 (fu : Nat) (a1 : Int32) (a2 : Int32) (S : zSt) : Option zSt := f_M_keeps_54 fu fu a1 a2 (0 : Int32) (zwI S 72 32 ((zI S 72 32) - (1 : Int32)))
def f_M_keeps_14 (fu : Nat) : Nat → Int32 → Int32 → Int32 → zSt → Option zSt
  | 0, _, _, _, _ => none
  | n + 1, a1, a2, a3, S => if ((15 : Int32) * a2) ≤ a3 then f_M_keeps_42 fu a1 a2 S else zgd (0 ≤ (a3 + a2) ∧ (a3 + a2).toNatClampNeg < 1488) (zgd (0 ≤ a3 ∧ a3.toNatClampNeg < 1488) (f_M_keeps_14 fu n a1 a2 (a3 + (1 : Int32)) (zwI S 86 a3.toNatClampNeg (zI S 86 (a3 + a2).toNatClampNeg))))
def f_M_keeps (fu : Nat) (a1 : Int32) (S : zSt) : Option zSt := if (zI S 72 32) = (16 : Int32) then f_M_keeps_14 fu fu a1 (93 : Int32) (0 : Int32) S else f_M_keeps_54 fu fu a1 (93 : Int32) (0 : Int32) S
set_option maxRecDepth 100000 in
set_option maxHeartbeats 4000000 in
theorem c_M_keeps_85 {p : Program} {l : Launch} {e : Env} {s : State} {m : MethodId} {args : Array Value} {below : List Frame} {meth : Method} {c : Code} {G : zG} (C : zC p s m args meth c G b_M_keeps 4 y_M_keeps.cls) (hret : meth.sig.returnType = none) {fu : Nat} {S1 : zSt} : ∀ (a1 : Int32) (a2 : Int32) (S : zSt) , f_M_keeps_85 fu a1 a2 S = some S1 → zJ p l e rm_M_keeps s m args below meth c G true 4 0 0 (zQm below G args s rm_M_keeps true none S1) S 85 [(0, zr (some 72)), (1, zi a1), (2, zi a2)] [] := by
  intro a1 a2 S h
  unfold f_M_keeps_85 at h
  refine z_aload_n C 0 rfl d_M_keeps_85 rfl ?_
  refine z_getF2 C 11 (by decide) 30 (by decide) rfl 14 1488 rfl (86) rfl zp_72 zk_72 zfl_11_65 d_M_keeps_86 ?_
  refine z_iload_n C 2 rfl d_M_keeps_89 rfl ?_
  refine z_aload_n C 0 rfl d_M_keeps_90 rfl ?_
  refine z_getI C 11 (by decide) 32 (by decide) rfl zo_72 zk_72 zfl_11_11 d_M_keeps_91 ?_
  refine z_imul C d_M_keeps_94 ?_
  refine z_bipush C (92 : Int32) (by decide) d_M_keeps_95 ?_
  refine z_iadd C d_M_keeps_97 ?_
  refine z_iload_n C 1 rfl d_M_keeps_98 rfl ?_
  refine z_fact (fun hSR => ?_)
  obtain ⟨g1, h⟩ := zgd_some h
  refine z_iastoreS C zo_86 zk_86 (za_86 hSR) g1 d_M_keeps_99 ?_
  refine z_aload_n C 0 rfl d_M_keeps_100 rfl ?_
  refine z_dup C rfl d_M_keeps_101 ?_
  refine z_getI C 11 (by decide) 32 (by decide) rfl zo_72 zk_72 zfl_11_11 d_M_keeps_102 ?_
  refine z_iconst C (1 : Int32) (by decide) d_M_keeps_105 ?_
  refine z_iadd C d_M_keeps_106 ?_
  refine z_putI C 11 (by decide) 32 (by decide) rfl (Or.inl rfl) zo_72 zk_72 zfl_11_11 (Or.inl rfl) d_M_keeps_107 ?_
  cases h
  exact z_vret C hret ⟨Nat.zero_le _, Nat.zero_le _⟩ d_M_keeps_110
set_option maxRecDepth 100000 in
set_option maxHeartbeats 4000000 in
theorem c_M_keeps_54 {p : Program} {l : Launch} {e : Env} {s : State} {m : MethodId} {args : Array Value} {below : List Frame} {meth : Method} {c : Code} {G : zG} (C : zC p s m args meth c G b_M_keeps 4 y_M_keeps.cls) (hret : meth.sig.returnType = none) {fu : Nat} {S1 : zSt} : ∀ (n : Nat) (a1 : Int32) (a2 : Int32) (a3 : Int32) (S : zSt) , f_M_keeps_54 fu n a1 a2 a3 S = some S1 → zJ p l e rm_M_keeps s m args below meth c G true 4 0 0 (zQm below G args s rm_M_keeps true none S1) S 54 [(0, zr (some 72)), (1, zi a1), (2, zi a2), (3, zi a3)] [] := by
  intro n
  induction n with
  | zero =>
    intro a1 a2 a3 S h
    cases h
  | succ n ih =>
    intro a1 a2 a3 S h
    rw [f_M_keeps_54] at h
    refine z_iload_n C 3 rfl d_M_keeps_54 rfl ?_
    refine z_bipush C (92 : Int32) (by decide) d_M_keeps_55 ?_
    rcases zite h with ⟨c1, h⟩ | ⟨c1, h⟩
    · refine z_icmp_get C 85 c1 d_M_keeps_57 (by decide) ?_
      refine zq_lsub [0, 1, 2] [(0, zr (some 72)), (1, zi a1), (2, zi a2)] rfl ?_
      exact c_M_keeps_85 C hret  a1 a2 S h
    · refine z_icmp_gef C 85 c1 d_M_keeps_57 (by decide) ?_
      refine z_aload_n C 0 rfl d_M_keeps_60 rfl ?_
      refine z_getF2 C 11 (by decide) 30 (by decide) rfl 14 1488 rfl (86) rfl zp_72 zk_72 zfl_11_65 d_M_keeps_61 ?_
      refine z_iload_n C 2 rfl d_M_keeps_64 rfl ?_
      refine z_aload_n C 0 rfl d_M_keeps_65 rfl ?_
      refine z_getI C 11 (by decide) 32 (by decide) rfl zo_72 zk_72 zfl_11_11 d_M_keeps_66 ?_
      refine z_imul C d_M_keeps_69 ?_
      refine z_iload_n C 3 rfl d_M_keeps_70 rfl ?_
      refine z_iadd C d_M_keeps_71 ?_
      refine z_aload_n C 0 rfl d_M_keeps_72 rfl ?_
      refine z_getF2 C 11 (by decide) 2 (by decide) rfl 2 5807 rfl (74) rfl zp_72 zk_72 zfl_11_24 d_M_keeps_73 ?_
      refine z_iload_n C 3 rfl d_M_keeps_76 rfl ?_
      refine z_fact (fun hSR => ?_)
      obtain ⟨g2, h⟩ := zgd_some h
      refine z_ialoadS C zo_74 zk_74 (za_74 hSR) g2 d_M_keeps_77 ?_
      refine z_fact (fun hSR => ?_)
      obtain ⟨g3, h⟩ := zgd_some h
      refine z_iastoreS C zo_86 zk_86 (za_86 hSR) g3 d_M_keeps_78 ?_
      refine z_iinc C 3 (a3 + (1 : Int32)) [(3, zi (a3 + (1 : Int32))), (0, zr (some 72)), (1, zi a1), (2, zi a2)] rfl d_M_keeps_79 (by first | rfl | decide) (by decide) rfl ?_
      refine z_goto C 54 d_M_keeps_82 (by decide) ?_
      refine zq_lsub [1, 2, 3, 0] [(0, zr (some 72)), (1, zi a1), (2, zi a2), (3, zi (a3 + (1 : Int32)))] rfl ?_
      exact ih a1 a2 (a3 + (1 : Int32)) (zwI S 86 ((a2 * (zI S 72 32)) + a3).toNatClampNeg (zI S 74 a3.toNatClampNeg)) h
set_option maxRecDepth 100000 in
set_option maxHeartbeats 4000000 in
theorem c_M_keeps_42 {p : Program} {l : Launch} {e : Env} {s : State} {m : MethodId} {args : Array Value} {below : List Frame} {meth : Method} {c : Code} {G : zG} (C : zC p s m args meth c G b_M_keeps 4 y_M_keeps.cls) (hret : meth.sig.returnType = none) {fu : Nat} {S1 : zSt} : ∀ (a1 : Int32) (a2 : Int32) (S : zSt) , f_M_keeps_42 fu a1 a2 S = some S1 → zJ p l e rm_M_keeps s m args below meth c G true 4 0 0 (zQm below G args s rm_M_keeps true none S1) S 42 [(0, zr (some 72)), (1, zi a1), (2, zi a2)] [] := by
  intro a1 a2 S h
  unfold f_M_keeps_42 at h
  refine z_aload_n C 0 rfl d_M_keeps_42 rfl ?_
  refine z_dup C rfl d_M_keeps_43 ?_
  refine z_getI C 11 (by decide) 32 (by decide) rfl zo_72 zk_72 zfl_11_11 d_M_keeps_44 ?_
  refine z_iconst C (1 : Int32) (by decide) d_M_keeps_47 ?_
  refine z_isub C d_M_keeps_48 ?_
  refine z_putI C 11 (by decide) 32 (by decide) rfl (Or.inl rfl) zo_72 zk_72 zfl_11_11 (Or.inl rfl) d_M_keeps_49 ?_
  refine z_iconst C (0 : Int32) (by decide) d_M_keeps_52 ?_
  refine z_istore_n C [(3, zi (0 : Int32)), (0, zr (some 72)), (1, zi a1), (2, zi a2)] d_M_keeps_53 rfl (by decide) rfl ?_
  refine zq_lsub [1, 2, 3, 0] [(0, zr (some 72)), (1, zi a1), (2, zi a2), (3, zi (0 : Int32))] rfl ?_
  exact c_M_keeps_54 C hret fu  a1 a2 (0 : Int32) (zwI S 72 32 ((zI S 72 32) - (1 : Int32))) h
set_option maxRecDepth 100000 in
set_option maxHeartbeats 4000000 in
theorem c_M_keeps_14 {p : Program} {l : Launch} {e : Env} {s : State} {m : MethodId} {args : Array Value} {below : List Frame} {meth : Method} {c : Code} {G : zG} (C : zC p s m args meth c G b_M_keeps 4 y_M_keeps.cls) (hret : meth.sig.returnType = none) {fu : Nat} {S1 : zSt} : ∀ (n : Nat) (a1 : Int32) (a2 : Int32) (a3 : Int32) (S : zSt) , f_M_keeps_14 fu n a1 a2 a3 S = some S1 → zJ p l e rm_M_keeps s m args below meth c G true 4 0 0 (zQm below G args s rm_M_keeps true none S1) S 14 [(0, zr (some 72)), (1, zi a1), (2, zi a2), (3, zi a3)] [] := by
  intro n
  induction n with
  | zero =>
    intro a1 a2 a3 S h
    cases h
  | succ n ih =>
    intro a1 a2 a3 S h
    rw [f_M_keeps_14] at h
    refine z_iload_n C 3 rfl d_M_keeps_14 rfl ?_
    refine z_bipush C (15 : Int32) (by decide) d_M_keeps_15 ?_
    refine z_iload_n C 2 rfl d_M_keeps_17 rfl ?_
    refine z_imul C d_M_keeps_18 ?_
    rcases zite h with ⟨c1, h⟩ | ⟨c1, h⟩
    · refine z_icmp_get C 42 c1 d_M_keeps_19 (by decide) ?_
      refine zq_lsub [0, 1, 2] [(0, zr (some 72)), (1, zi a1), (2, zi a2)] rfl ?_
      exact c_M_keeps_42 C hret  a1 a2 S h
    · refine z_icmp_gef C 42 c1 d_M_keeps_19 (by decide) ?_
      refine z_aload_n C 0 rfl d_M_keeps_22 rfl ?_
      refine z_getF2 C 11 (by decide) 30 (by decide) rfl 14 1488 rfl (86) rfl zp_72 zk_72 zfl_11_65 d_M_keeps_23 ?_
      refine z_iload_n C 3 rfl d_M_keeps_26 rfl ?_
      refine z_aload_n C 0 rfl d_M_keeps_27 rfl ?_
      refine z_getF2 C 11 (by decide) 30 (by decide) rfl 14 1488 rfl (86) rfl zp_72 zk_72 zfl_11_65 d_M_keeps_28 ?_
      refine z_iload_n C 3 rfl d_M_keeps_31 rfl ?_
      refine z_iload_n C 2 rfl d_M_keeps_32 rfl ?_
      refine z_iadd C d_M_keeps_33 ?_
      refine z_fact (fun hSR => ?_)
      obtain ⟨g2, h⟩ := zgd_some h
      refine z_ialoadS C zo_86 zk_86 (za_86 hSR) g2 d_M_keeps_34 ?_
      refine z_fact (fun hSR => ?_)
      obtain ⟨g3, h⟩ := zgd_some h
      refine z_iastoreS C zo_86 zk_86 (za_86 hSR) g3 d_M_keeps_35 ?_
      refine z_iinc C 3 (a3 + (1 : Int32)) [(3, zi (a3 + (1 : Int32))), (0, zr (some 72)), (1, zi a1), (2, zi a2)] rfl d_M_keeps_36 (by first | rfl | decide) (by decide) rfl ?_
      refine z_goto C 14 d_M_keeps_39 (by decide) ?_
      refine zq_lsub [1, 2, 3, 0] [(0, zr (some 72)), (1, zi a1), (2, zi a2), (3, zi (a3 + (1 : Int32)))] rfl ?_
      exact ih a1 a2 (a3 + (1 : Int32)) (zwI S 86 a3.toNatClampNeg (zI S 86 (a3 + a2).toNatClampNeg)) h
set_option maxRecDepth 100000 in
set_option maxHeartbeats 4000000 in
theorem m_M_keeps (l : Launch) {fu : Nat} {a1 : Int32} {S : zSt} {S1 : zSt} (h : f_M_keeps fu a1 S = some S1) : zPM l y_M_keeps b_M_keeps 4 none rm_M_keeps true true [zr (some 72), zi a1] S none S1 := by
  refine zPM_of (by decide) (Nat.le_of_ble_eq_true rfl) (fun p e s m args below meth c G C hret hname => ?_)
  unfold f_M_keeps at h
  refine (?_ : zJ p l e rm_M_keeps s m args below meth c G true 4 0 0 (zQm below G args s rm_M_keeps true none S1) S 0 [(0, zr (some 72)), (1, zi a1)] [])
  refine z_bipush C (93 : Int32) (by decide) d_M_keeps_0 ?_
  refine z_istore_n C [(2, zi (93 : Int32)), (0, zr (some 72)), (1, zi a1)] d_M_keeps_2 rfl (by decide) rfl ?_
  refine z_aload_n C 1 rfl d_M_keeps_3 rfl ?_
  refine z_getI C 11 (by decide) 32 (by decide) rfl zo_72 zk_72 zfl_11_11 d_M_keeps_4 ?_
  refine z_bipush C (16 : Int32) (by decide) d_M_keeps_7 ?_
  rcases zite h with ⟨c1, h⟩ | ⟨c1, h⟩
  · refine z_icmp_nef C 52 c1 d_M_keeps_9 (by decide) ?_
    refine z_iconst C (0 : Int32) (by decide) d_M_keeps_12 ?_
    refine z_istore_n C [(3, zi (0 : Int32)), (2, zi (93 : Int32)), (0, zr (some 72)), (1, zi a1)] d_M_keeps_13 rfl (by decide) rfl ?_
    refine zq_lsub [2, 3, 1, 0] [(0, zr (some 72)), (1, zi a1), (2, zi (93 : Int32)), (3, zi (0 : Int32))] rfl ?_
    exact c_M_keeps_14 C hret fu  a1 (93 : Int32) (0 : Int32) S h
  · refine z_icmp_net C 52 c1 d_M_keeps_9 (by decide) ?_
    refine z_iconst C (0 : Int32) (by decide) d_M_keeps_52 ?_
    refine z_istore_n C [(3, zi (0 : Int32)), (2, zi (93 : Int32)), (0, zr (some 72)), (1, zi a1)] d_M_keeps_53 rfl (by decide) rfl ?_
    refine zq_lsub [2, 3, 1, 0] [(0, zr (some 72)), (1, zi a1), (2, zi (93 : Int32)), (3, zi (0 : Int32))] rfl ?_
    exact c_M_keeps_54 C hret fu  a1 (93 : Int32) (0 : Int32) S h
def f_M_swimsKept (fu : Nat) (a1 : Int32) (S : zSt) : Option (Int32 × zSt) := zb1 (f_M_isSpring a1 S) (fun r2 => if r2 = 0 then some ((-2 : Int32), S) else zb2 (f_M_isPassed fu (zI S 74 (0 : Int32).toNatClampNeg) a1 S) (fun r5 S6 => if r5 = 0 then some ((-3 : Int32), S6) else zb2 (f_M_takesFor fu (zI S6 74 (0 : Int32).toNatClampNeg) a1 S6) (fun r9 S10 => zb1 (f_M_keeps fu (0 : Int32) S10) (fun S12 => some (r9, zwI S12 74 (0 : Int32).toNatClampNeg a1)))))
set_option maxRecDepth 100000 in
set_option maxHeartbeats 4000000 in
theorem m_M_swimsKept (l : Launch) {fu : Nat} {a1 : Int32} {S : zSt} {r : Int32} {S1 : zSt} (h : f_M_swimsKept fu a1 S = some (r, S1)) : zPM l y_M_swimsKept b_M_swimsKept 3 (some .int) rm_M_swimsKept true true [zr (some 72), zi a1] S (some (zi r)) S1 := by
  refine zPM_of (by decide) (Nat.le_of_ble_eq_true rfl) (fun p e s m args below meth c G C hret hname => ?_)
  unfold f_M_swimsKept at h
  refine (?_ : zJ p l e rm_M_swimsKept s m args below meth c G true 3 0 0 (zQm below G args s rm_M_swimsKept true (some (zi r)) S1) S 0 [(0, zr (some 72)), (1, zi a1)] [])
  refine z_aload_n C 0 rfl d_M_swimsKept_0 rfl ?_
  refine z_iload_n C 1 rfl d_M_swimsKept_1 rfl ?_
  obtain ⟨r2, h1, h⟩ := zb1_some h
  refine z_cV C 11 (by decide) (m_M_isSpring l h1) mf_M_isSpring lk_11_122 in_M_isSpring se_M_isSpring rfl zo_72 zk_72 ⟨rfl, rfl⟩ ⟨by decide, by decide⟩ ⟨Nat.zero_le _, Nat.zero_le _⟩ rfl _ [] rfl (Nat.le_of_ble_eq_true rfl) d_M_swimsKept_2 ?_
  rcases zite h with ⟨c3, h⟩ | ⟨c3, h⟩
  · refine z_if_nef C 11 c3 d_M_swimsKept_5 (by decide) ?_
    refine z_bipush C (-2 : Int32) (by decide) d_M_swimsKept_8 ?_
    cases h
    exact z_iret C .int hret rfl ⟨Nat.zero_le _, Nat.zero_le _⟩ d_M_swimsKept_10
  · refine z_if_net C 11 c3 d_M_swimsKept_5 (by decide) ?_
    refine z_aload_n C 0 rfl d_M_swimsKept_11 rfl ?_
    refine z_aload_n C 0 rfl d_M_swimsKept_12 rfl ?_
    refine z_getF2 C 11 (by decide) 2 (by decide) rfl 2 5807 rfl (74) rfl zp_72 zk_72 zfl_11_24 d_M_swimsKept_13 ?_
    refine z_iconst C (0 : Int32) (by decide) d_M_swimsKept_16 ?_
    refine z_fact (fun hSR => ?_)
    refine z_ialoadS C zo_74 zk_74 (za_74 hSR) (by decide) d_M_swimsKept_17 ?_
    refine z_iload_n C 1 rfl d_M_swimsKept_18 rfl ?_
    obtain ⟨r5, S6, h4, h⟩ := zb2_some h
    refine z_cV C 11 (by decide) (m_M_isPassed l h4) mf_M_isPassed lk_11_345 in_M_isPassed se_M_isPassed rfl zo_72 zk_72 ⟨rfl, rfl⟩ ⟨by decide, by decide⟩ ⟨Nat.zero_le _, Nat.zero_le _⟩ rfl _ [] rfl (Nat.le_of_ble_eq_true rfl) d_M_swimsKept_19 ?_
    rcases zite h with ⟨c7, h⟩ | ⟨c7, h⟩
    · refine z_if_nef C 28 c7 d_M_swimsKept_22 (by decide) ?_
      refine z_bipush C (-3 : Int32) (by decide) d_M_swimsKept_25 ?_
      cases h
      exact z_iret C .int hret rfl ⟨Nat.zero_le _, Nat.zero_le _⟩ d_M_swimsKept_27
    · refine z_if_net C 28 c7 d_M_swimsKept_22 (by decide) ?_
      refine z_aload_n C 0 rfl d_M_swimsKept_28 rfl ?_
      refine z_aload_n C 0 rfl d_M_swimsKept_29 rfl ?_
      refine z_getF2 C 11 (by decide) 2 (by decide) rfl 2 5807 rfl (74) rfl zp_72 zk_72 zfl_11_24 d_M_swimsKept_30 ?_
      refine z_iconst C (0 : Int32) (by decide) d_M_swimsKept_33 ?_
      refine z_fact (fun hSR => ?_)
      refine z_ialoadS C zo_74 zk_74 (za_74 hSR) (by decide) d_M_swimsKept_34 ?_
      refine z_iload_n C 1 rfl d_M_swimsKept_35 rfl ?_
      obtain ⟨r9, S10, h8, h⟩ := zb2_some h
      refine z_cV C 11 (by decide) (m_M_takesFor l h8) mf_M_takesFor lk_11_144 in_M_takesFor se_M_takesFor rfl zo_72 zk_72 ⟨rfl, rfl⟩ ⟨by decide, by decide⟩ ⟨Nat.zero_le _, Nat.zero_le _⟩ rfl _ [] rfl (Nat.le_of_ble_eq_true rfl) d_M_swimsKept_36 ?_
      refine z_istore_n C [(2, zi r9), (0, zr (some 72)), (1, zi a1)] d_M_swimsKept_39 rfl (by decide) rfl ?_
      refine z_aload_n C 1 rfl d_M_swimsKept_40 rfl ?_
      refine z_iconst C (0 : Int32) (by decide) d_M_swimsKept_41 ?_
      obtain ⟨S12, h11, h⟩ := zb1_some h
      refine z_cV C 11 (by decide) (m_M_keeps l h11) mf_M_keeps lk_11_348 in_M_keeps se_M_keeps rfl zo_72 zk_72 ⟨rfl, rfl⟩ ⟨by decide, by decide⟩ ⟨Nat.zero_le _, Nat.zero_le _⟩ rfl _ [] rfl (Nat.le_of_ble_eq_true rfl) d_M_swimsKept_42 ?_
      refine z_aload_n C 1 rfl d_M_swimsKept_45 rfl ?_
      refine z_getF2 C 11 (by decide) 2 (by decide) rfl 2 5807 rfl (74) rfl zp_72 zk_72 zfl_11_24 d_M_swimsKept_46 ?_
      refine z_iconst C (0 : Int32) (by decide) d_M_swimsKept_49 ?_
      refine z_iload_n C 2 rfl d_M_swimsKept_50 rfl ?_
      refine z_fact (fun hSR => ?_)
      refine z_iastoreS C zo_74 zk_74 (za_74 hSR) (by decide) d_M_swimsKept_51 ?_
      refine z_iload_n C 0 rfl d_M_swimsKept_52 rfl ?_
      cases h
      exact z_iret C .int hret rfl ⟨Nat.zero_le _, Nat.zero_le _⟩ d_M_swimsKept_53
def f_M_goodOr (a1 : Int32) (S : zSt) : Option (Int32 × zSt) := if 0 ≤ a1 then zb2 (f_M_good a1 S) (fun r3 S4 => some (r3, S4)) else zb2 (f_M_refuses a1 S) (fun r6 S7 => some (r6, S7))
set_option maxRecDepth 100000 in
set_option maxHeartbeats 4000000 in
theorem m_M_goodOr (l : Launch) {a1 : Int32} {S : zSt} {r : Int32} {S1 : zSt} (h : f_M_goodOr a1 S = some (r, S1)) : zPM l y_M_goodOr b_M_goodOr 2 (some .int) rm_M_goodOr true true [zr (some 72), zi a1] S (some (zi r)) S1 := by
  refine zPM_of (by decide) (Nat.le_of_ble_eq_true rfl) (fun p e s m args below meth c G C hret hname => ?_)
  unfold f_M_goodOr at h
  refine (?_ : zJ p l e rm_M_goodOr s m args below meth c G true 2 0 0 (zQm below G args s rm_M_goodOr true (some (zi r)) S1) S 0 [(0, zr (some 72)), (1, zi a1)] [])
  refine z_iload_n C 1 rfl d_M_goodOr_0 rfl ?_
  rcases zite h with ⟨c1, h⟩ | ⟨c1, h⟩
  · refine z_if_get C 12 c1 d_M_goodOr_1 (by decide) ?_
    refine z_aload_n C 0 rfl d_M_goodOr_12 rfl ?_
    refine z_iload_n C 1 rfl d_M_goodOr_13 rfl ?_
    obtain ⟨r3, S4, h2, h⟩ := zb2_some h
    refine z_cV C 11 (by decide) (m_M_good l h2) mf_M_good lk_11_14 in_M_good se_M_good rfl zo_72 zk_72 ⟨rfl, rfl⟩ ⟨by decide, by decide⟩ ⟨Nat.zero_le _, Nat.zero_le _⟩ rfl _ [] rfl (Nat.le_of_ble_eq_true rfl) d_M_goodOr_14 ?_
    cases h
    exact z_iret C .int hret rfl ⟨Nat.zero_le _, Nat.zero_le _⟩ d_M_goodOr_17
  · refine z_if_gef C 12 c1 d_M_goodOr_1 (by decide) ?_
    refine z_aload_n C 0 rfl d_M_goodOr_4 rfl ?_
    refine z_iload_n C 1 rfl d_M_goodOr_5 rfl ?_
    obtain ⟨r6, S7, h5, h⟩ := zb2_some h
    refine z_cV C 11 (by decide) (m_M_refuses l h5) mf_M_refuses lk_11_112 in_M_refuses se_M_refuses rfl zo_72 zk_72 ⟨rfl, rfl⟩ ⟨by decide, by decide⟩ ⟨Nat.zero_le _, Nat.zero_le _⟩ rfl _ [] rfl (Nat.le_of_ble_eq_true rfl) d_M_goodOr_6 ?_
    refine z_goto C 17 d_M_goodOr_9 (by decide) ?_
    cases h
    exact z_iret C .int hret rfl ⟨Nat.zero_le _, Nat.zero_le _⟩ d_M_goodOr_17
def f_M_swim (fu : Nat) (a1 : Int32) (S : zSt) : Option (Int32 × zSt) := zb2 (f_M_swimsKept fu a1 S) (fun r2 S3 => zb2 (f_M_goodOr r2 S3) (fun r5 S6 => some (r5, S6)))
set_option maxRecDepth 100000 in
set_option maxHeartbeats 4000000 in
theorem m_M_swim (l : Launch) {fu : Nat} {a1 : Int32} {S : zSt} {r : Int32} {S1 : zSt} (h : f_M_swim fu a1 S = some (r, S1)) : zPM l y_M_swim b_M_swim 2 (some .int) rm_M_swim true true [zr (some 72), zi a1] S (some (zi r)) S1 := by
  refine zPM_of (by decide) (Nat.le_of_ble_eq_true rfl) (fun p e s m args below meth c G C hret hname => ?_)
  unfold f_M_swim at h
  refine (?_ : zJ p l e rm_M_swim s m args below meth c G true 2 0 0 (zQm below G args s rm_M_swim true (some (zi r)) S1) S 0 [(0, zr (some 72)), (1, zi a1)] [])
  refine z_aload_n C 0 rfl d_M_swim_0 rfl ?_
  refine z_aload_n C 0 rfl d_M_swim_1 rfl ?_
  refine z_iload_n C 1 rfl d_M_swim_2 rfl ?_
  obtain ⟨r2, S3, h1, h⟩ := zb2_some h
  refine z_cV C 11 (by decide) (m_M_swimsKept l h1) mf_M_swimsKept lk_11_357 in_M_swimsKept se_M_swimsKept rfl zo_72 zk_72 ⟨rfl, rfl⟩ ⟨by decide, by decide⟩ ⟨Nat.zero_le _, Nat.zero_le _⟩ rfl _ [zr (some 72)] rfl (Nat.le_of_ble_eq_true rfl) d_M_swim_3 ?_
  obtain ⟨r5, S6, h4, h⟩ := zb2_some h
  refine z_cV C 11 (by decide) (m_M_goodOr l h4) mf_M_goodOr lk_11_360 in_M_goodOr se_M_goodOr rfl zo_72 zk_72 ⟨rfl, rfl⟩ ⟨by decide, by decide⟩ ⟨Nat.zero_le _, Nat.zero_le _⟩ rfl _ [] rfl (Nat.le_of_ble_eq_true rfl) d_M_swim_6 ?_
  cases h
  exact z_iret C .int hret rfl ⟨Nat.zero_le _, Nat.zero_le _⟩ d_M_swim_9
def f_M_turnsGate_14 (a1 : Int32) (a2 : Int32) (k0 : Int32) (S : zSt) : Option (Int32 × zSt) := zb1 (f_M_pairAt a1 a2) (fun r2 => zgd (0 ≤ ((10 : Int32) + r2) ∧ ((10 : Int32) + r2).toNatClampNeg < 5807) (zb1 (f_M_pairAt a2 a1) (fun r5 => zgd (0 ≤ ((10 : Int32) + r5) ∧ ((10 : Int32) + r5).toNatClampNeg < 5807) (some (k0, zwI (zwI S 74 ((10 : Int32) + r2).toNatClampNeg k0) 74 ((10 : Int32) + r5).toNatClampNeg k0)))))
def f_M_turnsGate (a1 : Int32) (a2 : Int32) (S : zSt) : Option (Int32 × zSt) := zb1 (f_M_isShut a1 a2 S) (fun r2 => if r2 = 0 then f_M_turnsGate_14 a1 a2 (1 : Int32) S else f_M_turnsGate_14 a1 a2 (0 : Int32) S)
set_option maxRecDepth 100000 in
set_option maxHeartbeats 4000000 in
theorem c_M_turnsGate_14 {p : Program} {l : Launch} {e : Env} {s : State} {m : MethodId} {args : Array Value} {below : List Frame} {meth : Method} {c : Code} {G : zG} (C : zC p s m args meth c G b_M_turnsGate 4 y_M_turnsGate.cls) (hret : meth.sig.returnType = (some .int)) {r : Int32} {S1 : zSt} : ∀ (a1 : Int32) (a2 : Int32) (k0 : Int32) (S : zSt) , f_M_turnsGate_14 a1 a2 k0 S = some (r, S1) → zJ p l e rm_M_turnsGate s m args below meth c G true 4 0 0 (zQm below G args s rm_M_turnsGate true (some (zi r)) S1) S 14 [(0, zr (some 72)), (1, zi a1), (2, zi a2)] [zi k0] := by
  intro a1 a2 k0 S h
  unfold f_M_turnsGate_14 at h
  refine z_istore_n C [(3, zi k0), (0, zr (some 72)), (1, zi a1), (2, zi a2)] d_M_turnsGate_14 rfl (by decide) rfl ?_
  refine z_aload_n C 1 rfl d_M_turnsGate_15 rfl ?_
  refine z_getF2 C 11 (by decide) 2 (by decide) rfl 2 5807 rfl (74) rfl zp_72 zk_72 zfl_11_24 d_M_turnsGate_16 ?_
  refine z_bipush C (10 : Int32) (by decide) d_M_turnsGate_19 ?_
  refine z_iload_n C 2 rfl d_M_turnsGate_21 rfl ?_
  refine z_iload_n C 3 rfl d_M_turnsGate_22 rfl ?_
  obtain ⟨r2, h1, h⟩ := zb1_some h
  refine z_cS C (m_M_pairAt l h1) mf_M_pairAt lk_11_126 st_M_pairAt ⟨rfl, rfl⟩ ⟨by decide, by decide⟩ ⟨Nat.zero_le _, Nat.zero_le _⟩ rfl _ [zi (10 : Int32), zr (some 74)] rfl (Nat.le_of_ble_eq_true rfl) d_M_turnsGate_23 ?_
  refine z_iadd C d_M_turnsGate_26 ?_
  refine z_iload_n C 0 rfl d_M_turnsGate_27 rfl ?_
  refine z_fact (fun hSR => ?_)
  obtain ⟨g3, h⟩ := zgd_some h
  refine z_iastoreS C zo_74 zk_74 (za_74 hSR) g3 d_M_turnsGate_28 ?_
  refine z_aload_n C 1 rfl d_M_turnsGate_29 rfl ?_
  refine z_getF2 C 11 (by decide) 2 (by decide) rfl 2 5807 rfl (74) rfl zp_72 zk_72 zfl_11_24 d_M_turnsGate_30 ?_
  refine z_bipush C (10 : Int32) (by decide) d_M_turnsGate_33 ?_
  refine z_iload_n C 3 rfl d_M_turnsGate_35 rfl ?_
  refine z_iload_n C 2 rfl d_M_turnsGate_36 rfl ?_
  obtain ⟨r5, h4, h⟩ := zb1_some h
  refine z_cS C (m_M_pairAt l h4) mf_M_pairAt lk_11_126 st_M_pairAt ⟨rfl, rfl⟩ ⟨by decide, by decide⟩ ⟨Nat.zero_le _, Nat.zero_le _⟩ rfl _ [zi (10 : Int32), zr (some 74)] rfl (Nat.le_of_ble_eq_true rfl) d_M_turnsGate_37 ?_
  refine z_iadd C d_M_turnsGate_40 ?_
  refine z_iload_n C 0 rfl d_M_turnsGate_41 rfl ?_
  refine z_fact (fun hSR => ?_)
  obtain ⟨g6, h⟩ := zgd_some h
  refine z_iastoreS C zo_74 zk_74 (za_74 hSR) g6 d_M_turnsGate_42 ?_
  refine z_iload_n C 0 rfl d_M_turnsGate_43 rfl ?_
  cases h
  exact z_iret C .int hret rfl ⟨Nat.zero_le _, Nat.zero_le _⟩ d_M_turnsGate_44
set_option maxRecDepth 100000 in
set_option maxHeartbeats 4000000 in
theorem m_M_turnsGate (l : Launch) {a1 : Int32} {a2 : Int32} {S : zSt} {r : Int32} {S1 : zSt} (h : f_M_turnsGate a1 a2 S = some (r, S1)) : zPM l y_M_turnsGate b_M_turnsGate 4 (some .int) rm_M_turnsGate true true [zr (some 72), zi a1, zi a2] S (some (zi r)) S1 := by
  refine zPM_of (by decide) (Nat.le_of_ble_eq_true rfl) (fun p e s m args below meth c G C hret hname => ?_)
  unfold f_M_turnsGate at h
  refine (?_ : zJ p l e rm_M_turnsGate s m args below meth c G true 4 0 0 (zQm below G args s rm_M_turnsGate true (some (zi r)) S1) S 0 [(0, zr (some 72)), (1, zi a1), (2, zi a2)] [])
  refine z_aload_n C 0 rfl d_M_turnsGate_0 rfl ?_
  refine z_iload_n C 1 rfl d_M_turnsGate_1 rfl ?_
  refine z_iload_n C 2 rfl d_M_turnsGate_2 rfl ?_
  obtain ⟨r2, h1, h⟩ := zb1_some h
  refine z_cV C 11 (by decide) (m_M_isShut l h1) mf_M_isShut lk_11_338 in_M_isShut se_M_isShut rfl zo_72 zk_72 ⟨rfl, rfl⟩ ⟨by decide, by decide⟩ ⟨Nat.zero_le _, Nat.zero_le _⟩ rfl _ [] rfl (Nat.le_of_ble_eq_true rfl) d_M_turnsGate_3 ?_
  rcases zite h with ⟨c3, h⟩ | ⟨c3, h⟩
  · refine z_if_eqt C 13 c3 d_M_turnsGate_6 (by decide) ?_
    refine z_iconst C (1 : Int32) (by decide) d_M_turnsGate_13 ?_
    refine zq_lsub [0, 1, 2] [(0, zr (some 72)), (1, zi a1), (2, zi a2)] rfl ?_
    exact c_M_turnsGate_14 C hret  a1 a2 (1 : Int32) S h
  · refine z_if_eqf C 13 c3 d_M_turnsGate_6 (by decide) ?_
    refine z_iconst C (0 : Int32) (by decide) d_M_turnsGate_9 ?_
    refine z_goto C 14 d_M_turnsGate_10 (by decide) ?_
    refine zq_lsub [0, 1, 2] [(0, zr (some 72)), (1, zi a1), (2, zi a2)] rfl ?_
    exact c_M_turnsGate_14 C hret  a1 a2 (0 : Int32) S h
def f_M_gatesKept (fu : Nat) (a1 : Int32) (a2 : Int32) (S : zSt) : Option (Int32 × zSt) := if a1 = a2 then some ((-1 : Int32), S) else zb1 (f_M_areTwo a1 a2 S) (fun r3 => if r3 = 0 then some ((-2 : Int32), S) else zb1 (f_M_farOf a1 a2 S) (fun r6 => if r6 = 0 then some ((-3 : Int32), S) else zb1 (f_M_keeps fu (1 : Int32) S) (fun S9 => zb2 (f_M_turnsGate a1 a2 S9) (fun r11 S12 => some (r11, S12)))))
set_option maxRecDepth 100000 in
set_option maxHeartbeats 4000000 in
theorem m_M_gatesKept (l : Launch) {fu : Nat} {a1 : Int32} {a2 : Int32} {S : zSt} {r : Int32} {S1 : zSt} (h : f_M_gatesKept fu a1 a2 S = some (r, S1)) : zPM l y_M_gatesKept b_M_gatesKept 3 (some .int) rm_M_gatesKept true true [zr (some 72), zi a1, zi a2] S (some (zi r)) S1 := by
  refine zPM_of (by decide) (Nat.le_of_ble_eq_true rfl) (fun p e s m args below meth c G C hret hname => ?_)
  unfold f_M_gatesKept at h
  refine (?_ : zJ p l e rm_M_gatesKept s m args below meth c G true 3 0 0 (zQm below G args s rm_M_gatesKept true (some (zi r)) S1) S 0 [(0, zr (some 72)), (1, zi a1), (2, zi a2)] [])
  refine z_iload_n C 1 rfl d_M_gatesKept_0 rfl ?_
  refine z_iload_n C 2 rfl d_M_gatesKept_1 rfl ?_
  rcases zite h with ⟨c1, h⟩ | ⟨c1, h⟩
  · refine z_icmp_nef C 7 c1 d_M_gatesKept_2 (by decide) ?_
    refine z_iconst C (-1 : Int32) (by decide) d_M_gatesKept_5 ?_
    cases h
    exact z_iret C .int hret rfl ⟨Nat.zero_le _, Nat.zero_le _⟩ d_M_gatesKept_6
  · refine z_icmp_net C 7 c1 d_M_gatesKept_2 (by decide) ?_
    refine z_aload_n C 0 rfl d_M_gatesKept_7 rfl ?_
    refine z_iload_n C 1 rfl d_M_gatesKept_8 rfl ?_
    refine z_iload_n C 2 rfl d_M_gatesKept_9 rfl ?_
    obtain ⟨r3, h2, h⟩ := zb1_some h
    refine z_cV C 11 (by decide) (m_M_areTwo l h2) mf_M_areTwo lk_11_130 in_M_areTwo se_M_areTwo rfl zo_72 zk_72 ⟨rfl, rfl⟩ ⟨by decide, by decide⟩ ⟨Nat.zero_le _, Nat.zero_le _⟩ rfl _ [] rfl (Nat.le_of_ble_eq_true rfl) d_M_gatesKept_10 ?_
    rcases zite h with ⟨c4, h⟩ | ⟨c4, h⟩
    · refine z_if_nef C 19 c4 d_M_gatesKept_13 (by decide) ?_
      refine z_bipush C (-2 : Int32) (by decide) d_M_gatesKept_16 ?_
      cases h
      exact z_iret C .int hret rfl ⟨Nat.zero_le _, Nat.zero_le _⟩ d_M_gatesKept_18
    · refine z_if_net C 19 c4 d_M_gatesKept_13 (by decide) ?_
      refine z_aload_n C 0 rfl d_M_gatesKept_19 rfl ?_
      refine z_iload_n C 1 rfl d_M_gatesKept_20 rfl ?_
      refine z_iload_n C 2 rfl d_M_gatesKept_21 rfl ?_
      obtain ⟨r6, h5, h⟩ := zb1_some h
      refine z_cV C 11 (by decide) (m_M_farOf l h5) mf_M_farOf lk_11_134 in_M_farOf se_M_farOf rfl zo_72 zk_72 ⟨rfl, rfl⟩ ⟨by decide, by decide⟩ ⟨Nat.zero_le _, Nat.zero_le _⟩ rfl _ [] rfl (Nat.le_of_ble_eq_true rfl) d_M_gatesKept_22 ?_
      rcases zite h with ⟨c7, h⟩ | ⟨c7, h⟩
      · refine z_if_nef C 31 c7 d_M_gatesKept_25 (by decide) ?_
        refine z_bipush C (-3 : Int32) (by decide) d_M_gatesKept_28 ?_
        cases h
        exact z_iret C .int hret rfl ⟨Nat.zero_le _, Nat.zero_le _⟩ d_M_gatesKept_30
      · refine z_if_net C 31 c7 d_M_gatesKept_25 (by decide) ?_
        refine z_aload_n C 0 rfl d_M_gatesKept_31 rfl ?_
        refine z_iconst C (1 : Int32) (by decide) d_M_gatesKept_32 ?_
        obtain ⟨S9, h8, h⟩ := zb1_some h
        refine z_cV C 11 (by decide) (m_M_keeps l h8) mf_M_keeps lk_11_348 in_M_keeps se_M_keeps rfl zo_72 zk_72 ⟨rfl, rfl⟩ ⟨by decide, by decide⟩ ⟨Nat.zero_le _, Nat.zero_le _⟩ rfl _ [] rfl (Nat.le_of_ble_eq_true rfl) d_M_gatesKept_33 ?_
        refine z_aload_n C 0 rfl d_M_gatesKept_36 rfl ?_
        refine z_iload_n C 1 rfl d_M_gatesKept_37 rfl ?_
        refine z_iload_n C 2 rfl d_M_gatesKept_38 rfl ?_
        obtain ⟨r11, S12, h10, h⟩ := zb2_some h
        refine z_cV C 11 (by decide) (m_M_turnsGate l h10) mf_M_turnsGate lk_11_351 in_M_turnsGate se_M_turnsGate rfl zo_72 zk_72 ⟨rfl, rfl⟩ ⟨by decide, by decide⟩ ⟨Nat.zero_le _, Nat.zero_le _⟩ rfl _ [] rfl (Nat.le_of_ble_eq_true rfl) d_M_gatesKept_39 ?_
        cases h
        exact z_iret C .int hret rfl ⟨Nat.zero_le _, Nat.zero_le _⟩ d_M_gatesKept_42
def f_M_gate (fu : Nat) (a1 : Int32) (a2 : Int32) (S : zSt) : Option (Int32 × zSt) := zb2 (f_M_gatesKept fu a1 a2 S) (fun r2 S3 => zb2 (f_M_goodOr r2 S3) (fun r5 S6 => some (r5, S6)))
set_option maxRecDepth 100000 in
set_option maxHeartbeats 4000000 in
theorem m_M_gate (l : Launch) {fu : Nat} {a1 : Int32} {a2 : Int32} {S : zSt} {r : Int32} {S1 : zSt} (h : f_M_gate fu a1 a2 S = some (r, S1)) : zPM l y_M_gate b_M_gate 3 (some .int) rm_M_gate true true [zr (some 72), zi a1, zi a2] S (some (zi r)) S1 := by
  refine zPM_of (by decide) (Nat.le_of_ble_eq_true rfl) (fun p e s m args below meth c G C hret hname => ?_)
  unfold f_M_gate at h
  refine (?_ : zJ p l e rm_M_gate s m args below meth c G true 3 0 0 (zQm below G args s rm_M_gate true (some (zi r)) S1) S 0 [(0, zr (some 72)), (1, zi a1), (2, zi a2)] [])
  refine z_aload_n C 0 rfl d_M_gate_0 rfl ?_
  refine z_aload_n C 0 rfl d_M_gate_1 rfl ?_
  refine z_iload_n C 1 rfl d_M_gate_2 rfl ?_
  refine z_iload_n C 2 rfl d_M_gate_3 rfl ?_
  obtain ⟨r2, S3, h1, h⟩ := zb2_some h
  refine z_cV C 11 (by decide) (m_M_gatesKept l h1) mf_M_gatesKept lk_11_363 in_M_gatesKept se_M_gatesKept rfl zo_72 zk_72 ⟨rfl, rfl⟩ ⟨by decide, by decide⟩ ⟨Nat.zero_le _, Nat.zero_le _⟩ rfl _ [zr (some 72)] rfl (Nat.le_of_ble_eq_true rfl) d_M_gate_4 ?_
  obtain ⟨r5, S6, h4, h⟩ := zb2_some h
  refine z_cV C 11 (by decide) (m_M_goodOr l h4) mf_M_goodOr lk_11_360 in_M_goodOr se_M_goodOr rfl zo_72 zk_72 ⟨rfl, rfl⟩ ⟨by decide, by decide⟩ ⟨Nat.zero_le _, Nat.zero_le _⟩ rfl _ [] rfl (Nat.le_of_ble_eq_true rfl) d_M_gate_7 ?_
  cases h
  exact z_iret C .int hret rfl ⟨Nat.zero_le _, Nat.zero_le _⟩ d_M_gate_10
def f_M_stirsKept (fu : Nat) (a1 : Int32) (a2 : Int32) (S : zSt) : Option (Int32 × zSt) := zb1 (f_M_lies a2 (0 : Int32) (9 : Int32)) (fun r2 => if r2 = 0 then some ((-1 : Int32), S) else zb1 (f_M_isSpring a1 S) (fun r5 => if r5 = 0 then some ((-2 : Int32), S) else zgd (0 ≤ ((1 : Int32) + a1) ∧ ((1 : Int32) + a1).toNatClampNeg < 5807) (if (zI S 74 ((1 : Int32) + a1).toNatClampNeg) = a2 then some ((-3 : Int32), S) else zb1 (f_M_keeps fu (2 : Int32) S) (fun S10 => zgd (0 ≤ ((1 : Int32) + a1) ∧ ((1 : Int32) + a1).toNatClampNeg < 5807) (some (zI S 74 ((1 : Int32) + a1).toNatClampNeg, zwI S10 74 ((1 : Int32) + a1).toNatClampNeg a2))))))
set_option maxRecDepth 100000 in
set_option maxHeartbeats 4000000 in
theorem m_M_stirsKept (l : Launch) {fu : Nat} {a1 : Int32} {a2 : Int32} {S : zSt} {r : Int32} {S1 : zSt} (h : f_M_stirsKept fu a1 a2 S = some (r, S1)) : zPM l y_M_stirsKept b_M_stirsKept 4 (some .int) rm_M_stirsKept true true [zr (some 72), zi a1, zi a2] S (some (zi r)) S1 := by
  refine zPM_of (by decide) (Nat.le_of_ble_eq_true rfl) (fun p e s m args below meth c G C hret hname => ?_)
  unfold f_M_stirsKept at h
  refine (?_ : zJ p l e rm_M_stirsKept s m args below meth c G true 4 0 0 (zQm below G args s rm_M_stirsKept true (some (zi r)) S1) S 0 [(0, zr (some 72)), (1, zi a1), (2, zi a2)] [])
  refine z_iload_n C 2 rfl d_M_stirsKept_0 rfl ?_
  refine z_iconst C (0 : Int32) (by decide) d_M_stirsKept_1 ?_
  refine z_bipush C (9 : Int32) (by decide) d_M_stirsKept_2 ?_
  obtain ⟨r2, h1, h⟩ := zb1_some h
  refine z_cS C (m_M_lies l h1) mf_M_lies lk_11_108 st_M_lies ⟨rfl, rfl⟩ ⟨by decide, by decide⟩ ⟨Nat.zero_le _, Nat.zero_le _⟩ rfl _ [] rfl (Nat.le_of_ble_eq_true rfl) d_M_stirsKept_4 ?_
  rcases zite h with ⟨c3, h⟩ | ⟨c3, h⟩
  · refine z_if_nef C 12 c3 d_M_stirsKept_7 (by decide) ?_
    refine z_iconst C (-1 : Int32) (by decide) d_M_stirsKept_10 ?_
    cases h
    exact z_iret C .int hret rfl ⟨Nat.zero_le _, Nat.zero_le _⟩ d_M_stirsKept_11
  · refine z_if_net C 12 c3 d_M_stirsKept_7 (by decide) ?_
    refine z_aload_n C 0 rfl d_M_stirsKept_12 rfl ?_
    refine z_iload_n C 1 rfl d_M_stirsKept_13 rfl ?_
    obtain ⟨r5, h4, h⟩ := zb1_some h
    refine z_cV C 11 (by decide) (m_M_isSpring l h4) mf_M_isSpring lk_11_122 in_M_isSpring se_M_isSpring rfl zo_72 zk_72 ⟨rfl, rfl⟩ ⟨by decide, by decide⟩ ⟨Nat.zero_le _, Nat.zero_le _⟩ rfl _ [] rfl (Nat.le_of_ble_eq_true rfl) d_M_stirsKept_14 ?_
    rcases zite h with ⟨c6, h⟩ | ⟨c6, h⟩
    · refine z_if_nef C 23 c6 d_M_stirsKept_17 (by decide) ?_
      refine z_bipush C (-2 : Int32) (by decide) d_M_stirsKept_20 ?_
      cases h
      exact z_iret C .int hret rfl ⟨Nat.zero_le _, Nat.zero_le _⟩ d_M_stirsKept_22
    · refine z_if_net C 23 c6 d_M_stirsKept_17 (by decide) ?_
      refine z_aload_n C 0 rfl d_M_stirsKept_23 rfl ?_
      refine z_getF2 C 11 (by decide) 2 (by decide) rfl 2 5807 rfl (74) rfl zp_72 zk_72 zfl_11_24 d_M_stirsKept_24 ?_
      refine z_iconst C (1 : Int32) (by decide) d_M_stirsKept_27 ?_
      refine z_iload_n C 1 rfl d_M_stirsKept_28 rfl ?_
      refine z_iadd C d_M_stirsKept_29 ?_
      refine z_fact (fun hSR => ?_)
      obtain ⟨g7, h⟩ := zgd_some h
      refine z_ialoadS C zo_74 zk_74 (za_74 hSR) g7 d_M_stirsKept_30 ?_
      refine z_istore_n C [(3, zi (zI S 74 ((1 : Int32) + a1).toNatClampNeg)), (0, zr (some 72)), (1, zi a1), (2, zi a2)] d_M_stirsKept_31 rfl (by decide) rfl ?_
      refine z_iload_n C 0 rfl d_M_stirsKept_32 rfl ?_
      refine z_iload_n C 3 rfl d_M_stirsKept_33 rfl ?_
      rcases zite h with ⟨c8, h⟩ | ⟨c8, h⟩
      · refine z_icmp_nef C 40 c8 d_M_stirsKept_34 (by decide) ?_
        refine z_bipush C (-3 : Int32) (by decide) d_M_stirsKept_37 ?_
        cases h
        exact z_iret C .int hret rfl ⟨Nat.zero_le _, Nat.zero_le _⟩ d_M_stirsKept_39
      · refine z_icmp_net C 40 c8 d_M_stirsKept_34 (by decide) ?_
        refine z_aload_n C 1 rfl d_M_stirsKept_40 rfl ?_
        refine z_iconst C (2 : Int32) (by decide) d_M_stirsKept_41 ?_
        obtain ⟨S10, h9, h⟩ := zb1_some h
        refine z_cV C 11 (by decide) (m_M_keeps l h9) mf_M_keeps lk_11_348 in_M_keeps se_M_keeps rfl zo_72 zk_72 ⟨rfl, rfl⟩ ⟨by decide, by decide⟩ ⟨Nat.zero_le _, Nat.zero_le _⟩ rfl _ [] rfl (Nat.le_of_ble_eq_true rfl) d_M_stirsKept_42 ?_
        refine z_aload_n C 1 rfl d_M_stirsKept_45 rfl ?_
        refine z_getF2 C 11 (by decide) 2 (by decide) rfl 2 5807 rfl (74) rfl zp_72 zk_72 zfl_11_24 d_M_stirsKept_46 ?_
        refine z_iconst C (1 : Int32) (by decide) d_M_stirsKept_49 ?_
        refine z_iload_n C 2 rfl d_M_stirsKept_50 rfl ?_
        refine z_iadd C d_M_stirsKept_51 ?_
        refine z_iload_n C 3 rfl d_M_stirsKept_52 rfl ?_
        refine z_fact (fun hSR => ?_)
        obtain ⟨g11, h⟩ := zgd_some h
        refine z_iastoreS C zo_74 zk_74 (za_74 hSR) g11 d_M_stirsKept_53 ?_
        refine z_iload_n C 0 rfl d_M_stirsKept_54 rfl ?_
        cases h
        exact z_iret C .int hret rfl ⟨Nat.zero_le _, Nat.zero_le _⟩ d_M_stirsKept_55
def f_M_stir (fu : Nat) (a1 : Int32) (a2 : Int32) (S : zSt) : Option (Int32 × zSt) := zb2 (f_M_stirsKept fu a1 a2 S) (fun r2 S3 => zb2 (f_M_goodOr r2 S3) (fun r5 S6 => some (r5, S6)))
set_option maxRecDepth 100000 in
set_option maxHeartbeats 4000000 in
theorem m_M_stir (l : Launch) {fu : Nat} {a1 : Int32} {a2 : Int32} {S : zSt} {r : Int32} {S1 : zSt} (h : f_M_stir fu a1 a2 S = some (r, S1)) : zPM l y_M_stir b_M_stir 3 (some .int) rm_M_stir true true [zr (some 72), zi a1, zi a2] S (some (zi r)) S1 := by
  refine zPM_of (by decide) (Nat.le_of_ble_eq_true rfl) (fun p e s m args below meth c G C hret hname => ?_)
  unfold f_M_stir at h
  refine (?_ : zJ p l e rm_M_stir s m args below meth c G true 3 0 0 (zQm below G args s rm_M_stir true (some (zi r)) S1) S 0 [(0, zr (some 72)), (1, zi a1), (2, zi a2)] [])
  refine z_aload_n C 0 rfl d_M_stir_0 rfl ?_
  refine z_aload_n C 0 rfl d_M_stir_1 rfl ?_
  refine z_iload_n C 1 rfl d_M_stir_2 rfl ?_
  refine z_iload_n C 2 rfl d_M_stir_3 rfl ?_
  obtain ⟨r2, S3, h1, h⟩ := zb2_some h
  refine z_cV C 11 (by decide) (m_M_stirsKept l h1) mf_M_stirsKept lk_11_366 in_M_stirsKept se_M_stirsKept rfl zo_72 zk_72 ⟨rfl, rfl⟩ ⟨by decide, by decide⟩ ⟨Nat.zero_le _, Nat.zero_le _⟩ rfl _ [zr (some 72)] rfl (Nat.le_of_ble_eq_true rfl) d_M_stir_4 ?_
  obtain ⟨r5, S6, h4, h⟩ := zb2_some h
  refine z_cV C 11 (by decide) (m_M_goodOr l h4) mf_M_goodOr lk_11_360 in_M_goodOr se_M_goodOr rfl zo_72 zk_72 ⟨rfl, rfl⟩ ⟨by decide, by decide⟩ ⟨Nat.zero_le _, Nat.zero_le _⟩ rfl _ [] rfl (Nat.le_of_ble_eq_true rfl) d_M_stir_7 ?_
  cases h
  exact z_iret C .int hret rfl ⟨Nat.zero_le _, Nat.zero_le _⟩ d_M_stir_10
def f_M_dayPasses_62 (fu : Nat) (k31 : Int32 → Int32 → zSt → Option (Int32 × zSt)) (a2 : Int32) (k0 : Int32) (k1 : Int32) (S : zSt) : Option (Int32 × zSt) := zgd (0 ≤ a2 ∧ a2.toNatClampNeg < 9) (zgd (0 ≤ ((1 : Int32) + a2) ∧ ((1 : Int32) + a2).toNatClampNeg < 5807) (k31 (k1 + k0) (a2 + (1 : Int32)) (zwI S 74 ((1 : Int32) + a2).toNatClampNeg (zI S 88 a2.toNatClampNeg))))
def f_M_dayPasses_84 (fu : Nat) (a1 : Int32) (S : zSt) : Option (Int32 × zSt) := some (a1, zwI S 74 (91 : Int32).toNatClampNeg ((zI S 74 (91 : Int32).toNatClampNeg) + (1 : Int32)))
def f_M_dayPasses_31 (fu : Nat) : Nat → Int32 → Int32 → zSt → Option (Int32 × zSt)
  | 0, _, _, _ => none
  | n + 1, a1, a2, S => zb1 (f_M_springMany S) (fun r2 => if r2 ≤ a2 then f_M_dayPasses_84 fu a1 S else zgd (0 ≤ a2 ∧ a2.toNatClampNeg < 9) (zgd (0 ≤ ((1 : Int32) + a2) ∧ ((1 : Int32) + a2).toNatClampNeg < 5807) (if (zI S 88 a2.toNatClampNeg) = (zI S 74 ((1 : Int32) + a2).toNatClampNeg) then f_M_dayPasses_62 fu (f_M_dayPasses_31 fu n) a2 (0 : Int32) a1 S else f_M_dayPasses_62 fu (f_M_dayPasses_31 fu n) a2 (1 : Int32) a1 S)))
def f_M_dayPasses_4 (fu : Nat) : Nat → Int32 → Int32 → zSt → Option (Int32 × zSt)
  | 0, _, _, _ => none
  | n + 1, a1, a2, S => zb1 (f_M_springMany S) (fun r2 => if r2 ≤ a2 then f_M_dayPasses_31 fu fu a1 (0 : Int32) S else zb2 (f_M_settlesTo fu a2 S) (fun r5 S6 => zgd (0 ≤ a2 ∧ a2.toNatClampNeg < 9) (f_M_dayPasses_4 fu n a1 (a2 + (1 : Int32)) (zwI S6 88 a2.toNatClampNeg r5))))
def f_M_dayPasses (fu : Nat) (S : zSt) : Option (Int32 × zSt) := f_M_dayPasses_4 fu fu (0 : Int32) (0 : Int32) S
set_option maxRecDepth 100000 in
set_option maxHeartbeats 4000000 in
theorem c_M_dayPasses_62 {p : Program} {l : Launch} {e : Env} {s : State} {m : MethodId} {args : Array Value} {below : List Frame} {meth : Method} {c : Code} {G : zG} (C : zC p s m args meth c G b_M_dayPasses 3 y_M_dayPasses.cls) (hret : meth.sig.returnType = (some .int)) {fu : Nat} {r : Int32} {S1 : zSt} {k31 : Int32 → Int32 → zSt → Option (Int32 × zSt)} (hk31 : ∀ (a1 : Int32) (a2 : Int32) (S : zSt) , k31 a1 a2 S = some (r, S1) → zJ p l e rm_M_dayPasses s m args below meth c G true 3 0 0 (zQm below G args s rm_M_dayPasses true (some (zi r)) S1) S 31 [(0, zr (some 72)), (1, zi a1), (2, zi a2)] []) : ∀ (a2 : Int32) (k0 : Int32) (k1 : Int32) (S : zSt) , f_M_dayPasses_62 fu k31 a2 k0 k1 S = some (r, S1) → zJ p l e rm_M_dayPasses s m args below meth c G true 3 0 0 (zQm below G args s rm_M_dayPasses true (some (zi r)) S1) S 62 [(0, zr (some 72)), (2, zi a2)] [zi k0, zi k1] := by
  intro a2 k0 k1 S h
  unfold f_M_dayPasses_62 at h
  refine z_iadd C d_M_dayPasses_62 ?_
  refine z_istore_n C [(1, zi (k1 + k0)), (0, zr (some 72)), (2, zi a2)] d_M_dayPasses_63 rfl (by decide) rfl ?_
  refine z_aload_n C 1 rfl d_M_dayPasses_64 rfl ?_
  refine z_getF2 C 11 (by decide) 2 (by decide) rfl 2 5807 rfl (74) rfl zp_72 zk_72 zfl_11_24 d_M_dayPasses_65 ?_
  refine z_iconst C (1 : Int32) (by decide) d_M_dayPasses_68 ?_
  refine z_iload_n C 2 rfl d_M_dayPasses_69 rfl ?_
  refine z_iadd C d_M_dayPasses_70 ?_
  refine z_aload_n C 1 rfl d_M_dayPasses_71 rfl ?_
  refine z_getF2 C 11 (by decide) 33 (by decide) rfl 16 9 rfl (88) rfl zp_72 zk_72 zfl_11_71 d_M_dayPasses_72 ?_
  refine z_iload_n C 2 rfl d_M_dayPasses_75 rfl ?_
  refine z_fact (fun hSR => ?_)
  obtain ⟨g1, h⟩ := zgd_some h
  refine z_ialoadS C zo_88 zk_88 (za_88 hSR) g1 d_M_dayPasses_76 ?_
  refine z_fact (fun hSR => ?_)
  obtain ⟨g2, h⟩ := zgd_some h
  refine z_iastoreS C zo_74 zk_74 (za_74 hSR) g2 d_M_dayPasses_77 ?_
  refine z_iinc C 2 (a2 + (1 : Int32)) [(2, zi (a2 + (1 : Int32))), (1, zi (k1 + k0)), (0, zr (some 72))] rfl d_M_dayPasses_78 (by first | rfl | decide) (by decide) rfl ?_
  refine z_goto C 31 d_M_dayPasses_81 (by decide) ?_
  refine zq_lsub [2, 1, 0] [(0, zr (some 72)), (1, zi (k1 + k0)), (2, zi (a2 + (1 : Int32)))] rfl ?_
  exact hk31 (k1 + k0) (a2 + (1 : Int32)) (zwI S 74 ((1 : Int32) + a2).toNatClampNeg (zI S 88 a2.toNatClampNeg)) h
set_option maxRecDepth 100000 in
set_option maxHeartbeats 4000000 in
theorem c_M_dayPasses_84 {p : Program} {l : Launch} {e : Env} {s : State} {m : MethodId} {args : Array Value} {below : List Frame} {meth : Method} {c : Code} {G : zG} (C : zC p s m args meth c G b_M_dayPasses 3 y_M_dayPasses.cls) (hret : meth.sig.returnType = (some .int)) {fu : Nat} {r : Int32} {S1 : zSt} : ∀ (a1 : Int32) (S : zSt) , f_M_dayPasses_84 fu a1 S = some (r, S1) → zJ p l e rm_M_dayPasses s m args below meth c G true 3 0 0 (zQm below G args s rm_M_dayPasses true (some (zi r)) S1) S 84 [(0, zr (some 72)), (1, zi a1)] [] := by
  intro a1 S h
  unfold f_M_dayPasses_84 at h
  refine z_aload_n C 0 rfl d_M_dayPasses_84 rfl ?_
  refine z_getF2 C 11 (by decide) 2 (by decide) rfl 2 5807 rfl (74) rfl zp_72 zk_72 zfl_11_24 d_M_dayPasses_85 ?_
  refine z_bipush C (91 : Int32) (by decide) d_M_dayPasses_88 ?_
  refine z_dup2 C rfl rfl d_M_dayPasses_90 ?_
  refine z_fact (fun hSR => ?_)
  refine z_ialoadS C zo_74 zk_74 (za_74 hSR) (by decide) d_M_dayPasses_91 ?_
  refine z_iconst C (1 : Int32) (by decide) d_M_dayPasses_92 ?_
  refine z_iadd C d_M_dayPasses_93 ?_
  refine z_fact (fun hSR => ?_)
  refine z_iastoreS C zo_74 zk_74 (za_74 hSR) (by decide) d_M_dayPasses_94 ?_
  refine z_iload_n C 1 rfl d_M_dayPasses_95 rfl ?_
  cases h
  exact z_iret C .int hret rfl ⟨Nat.zero_le _, Nat.zero_le _⟩ d_M_dayPasses_96
set_option maxRecDepth 100000 in
set_option maxHeartbeats 4000000 in
theorem c_M_dayPasses_31 {p : Program} {l : Launch} {e : Env} {s : State} {m : MethodId} {args : Array Value} {below : List Frame} {meth : Method} {c : Code} {G : zG} (C : zC p s m args meth c G b_M_dayPasses 3 y_M_dayPasses.cls) (hret : meth.sig.returnType = (some .int)) {fu : Nat} {r : Int32} {S1 : zSt} : ∀ (n : Nat) (a1 : Int32) (a2 : Int32) (S : zSt) , f_M_dayPasses_31 fu n a1 a2 S = some (r, S1) → zJ p l e rm_M_dayPasses s m args below meth c G true 3 0 0 (zQm below G args s rm_M_dayPasses true (some (zi r)) S1) S 31 [(0, zr (some 72)), (1, zi a1), (2, zi a2)] [] := by
  intro n
  induction n with
  | zero =>
    intro a1 a2 S h
    cases h
  | succ n ih =>
    intro a1 a2 S h
    rw [f_M_dayPasses_31] at h
    refine z_iload_n C 2 rfl d_M_dayPasses_31 rfl ?_
    refine z_aload_n C 0 rfl d_M_dayPasses_32 rfl ?_
    obtain ⟨r2, h1, h⟩ := zb1_some h
    refine z_cV C 11 (by decide) (m_M_springMany l h1) mf_M_springMany lk_11_118 in_M_springMany se_M_springMany rfl zo_72 zk_72 ⟨rfl, rfl⟩ ⟨by decide, by decide⟩ ⟨Nat.zero_le _, Nat.zero_le _⟩ rfl _ [zi a2] rfl (Nat.le_of_ble_eq_true rfl) d_M_dayPasses_33 ?_
    rcases zite h with ⟨c3, h⟩ | ⟨c3, h⟩
    · refine z_icmp_get C 84 c3 d_M_dayPasses_36 (by decide) ?_
      refine zq_lsub [0, 1] [(0, zr (some 72)), (1, zi a1)] rfl ?_
      exact c_M_dayPasses_84 C hret  a1 S h
    · refine z_icmp_gef C 84 c3 d_M_dayPasses_36 (by decide) ?_
      refine z_iload_n C 1 rfl d_M_dayPasses_39 rfl ?_
      refine z_aload_n C 0 rfl d_M_dayPasses_40 rfl ?_
      refine z_getF2 C 11 (by decide) 33 (by decide) rfl 16 9 rfl (88) rfl zp_72 zk_72 zfl_11_71 d_M_dayPasses_41 ?_
      refine z_iload_n C 2 rfl d_M_dayPasses_44 rfl ?_
      refine z_fact (fun hSR => ?_)
      obtain ⟨g4, h⟩ := zgd_some h
      refine z_ialoadS C zo_88 zk_88 (za_88 hSR) g4 d_M_dayPasses_45 ?_
      refine z_aload_n C 0 rfl d_M_dayPasses_46 rfl ?_
      refine z_getF2 C 11 (by decide) 2 (by decide) rfl 2 5807 rfl (74) rfl zp_72 zk_72 zfl_11_24 d_M_dayPasses_47 ?_
      refine z_iconst C (1 : Int32) (by decide) d_M_dayPasses_50 ?_
      refine z_iload_n C 2 rfl d_M_dayPasses_51 rfl ?_
      refine z_iadd C d_M_dayPasses_52 ?_
      refine z_fact (fun hSR => ?_)
      obtain ⟨g5, h⟩ := zgd_some h
      refine z_ialoadS C zo_74 zk_74 (za_74 hSR) g5 d_M_dayPasses_53 ?_
      rcases zite h with ⟨c6, h⟩ | ⟨c6, h⟩
      · refine z_icmp_nef C 61 c6 d_M_dayPasses_54 (by decide) ?_
        refine z_iconst C (0 : Int32) (by decide) d_M_dayPasses_57 ?_
        refine z_goto C 62 d_M_dayPasses_58 (by decide) ?_
        refine zq_lsub [0, 2] [(0, zr (some 72)), (2, zi a2)] rfl ?_
        exact c_M_dayPasses_62 C hret (fun z0 z1 zS zh => ih z0 z1 zS zh)  a2 (0 : Int32) a1 S h
      · refine z_icmp_net C 61 c6 d_M_dayPasses_54 (by decide) ?_
        refine z_iconst C (1 : Int32) (by decide) d_M_dayPasses_61 ?_
        refine zq_lsub [0, 2] [(0, zr (some 72)), (2, zi a2)] rfl ?_
        exact c_M_dayPasses_62 C hret (fun z0 z1 zS zh => ih z0 z1 zS zh)  a2 (1 : Int32) a1 S h
set_option maxRecDepth 100000 in
set_option maxHeartbeats 4000000 in
theorem c_M_dayPasses_4 {p : Program} {l : Launch} {e : Env} {s : State} {m : MethodId} {args : Array Value} {below : List Frame} {meth : Method} {c : Code} {G : zG} (C : zC p s m args meth c G b_M_dayPasses 3 y_M_dayPasses.cls) (hret : meth.sig.returnType = (some .int)) {fu : Nat} {r : Int32} {S1 : zSt} : ∀ (n : Nat) (a1 : Int32) (a2 : Int32) (S : zSt) , f_M_dayPasses_4 fu n a1 a2 S = some (r, S1) → zJ p l e rm_M_dayPasses s m args below meth c G true 3 0 0 (zQm below G args s rm_M_dayPasses true (some (zi r)) S1) S 4 [(0, zr (some 72)), (1, zi a1), (2, zi a2)] [] := by
  intro n
  induction n with
  | zero =>
    intro a1 a2 S h
    cases h
  | succ n ih =>
    intro a1 a2 S h
    rw [f_M_dayPasses_4] at h
    refine z_iload_n C 2 rfl d_M_dayPasses_4 rfl ?_
    refine z_aload_n C 0 rfl d_M_dayPasses_5 rfl ?_
    obtain ⟨r2, h1, h⟩ := zb1_some h
    refine z_cV C 11 (by decide) (m_M_springMany l h1) mf_M_springMany lk_11_118 in_M_springMany se_M_springMany rfl zo_72 zk_72 ⟨rfl, rfl⟩ ⟨by decide, by decide⟩ ⟨Nat.zero_le _, Nat.zero_le _⟩ rfl _ [zi a2] rfl (Nat.le_of_ble_eq_true rfl) d_M_dayPasses_6 ?_
    rcases zite h with ⟨c3, h⟩ | ⟨c3, h⟩
    · refine z_icmp_get C 29 c3 d_M_dayPasses_9 (by decide) ?_
      refine z_iconst C (0 : Int32) (by decide) d_M_dayPasses_29 ?_
      refine z_istore_n C [(2, zi (0 : Int32)), (0, zr (some 72)), (1, zi a1)] d_M_dayPasses_30 rfl (by decide) rfl ?_
      refine zq_lsub [1, 2, 0] [(0, zr (some 72)), (1, zi a1), (2, zi (0 : Int32))] rfl ?_
      exact c_M_dayPasses_31 C hret fu  a1 (0 : Int32) S h
    · refine z_icmp_gef C 29 c3 d_M_dayPasses_9 (by decide) ?_
      refine z_aload_n C 0 rfl d_M_dayPasses_12 rfl ?_
      refine z_getF2 C 11 (by decide) 33 (by decide) rfl 16 9 rfl (88) rfl zp_72 zk_72 zfl_11_71 d_M_dayPasses_13 ?_
      refine z_iload_n C 2 rfl d_M_dayPasses_16 rfl ?_
      refine z_aload_n C 0 rfl d_M_dayPasses_17 rfl ?_
      refine z_iload_n C 2 rfl d_M_dayPasses_18 rfl ?_
      obtain ⟨r5, S6, h4, h⟩ := zb2_some h
      refine z_cV C 11 (by decide) (m_M_settlesTo l h4) mf_M_settlesTo lk_11_141 in_M_settlesTo se_M_settlesTo rfl zo_72 zk_72 ⟨rfl, rfl⟩ ⟨by decide, by decide⟩ ⟨Nat.zero_le _, Nat.zero_le _⟩ rfl _ [zi a2, zr (some 88)] rfl (Nat.le_of_ble_eq_true rfl) d_M_dayPasses_19 ?_
      refine z_fact (fun hSR => ?_)
      obtain ⟨g7, h⟩ := zgd_some h
      refine z_iastoreS C zo_88 zk_88 (za_88 hSR) g7 d_M_dayPasses_22 ?_
      refine z_iinc C 2 (a2 + (1 : Int32)) [(2, zi (a2 + (1 : Int32))), (0, zr (some 72)), (1, zi a1)] rfl d_M_dayPasses_23 (by first | rfl | decide) (by decide) rfl ?_
      refine z_goto C 4 d_M_dayPasses_26 (by decide) ?_
      refine zq_lsub [1, 2, 0] [(0, zr (some 72)), (1, zi a1), (2, zi (a2 + (1 : Int32)))] rfl ?_
      exact ih a1 (a2 + (1 : Int32)) (zwI S6 88 a2.toNatClampNeg r5) h
set_option maxRecDepth 100000 in
set_option maxHeartbeats 4000000 in
theorem m_M_dayPasses (l : Launch) {fu : Nat} {S : zSt} {r : Int32} {S1 : zSt} (h : f_M_dayPasses fu  S = some (r, S1)) : zPM l y_M_dayPasses b_M_dayPasses 3 (some .int) rm_M_dayPasses true true [zr (some 72)] S (some (zi r)) S1 := by
  refine zPM_of (by decide) (Nat.le_of_ble_eq_true rfl) (fun p e s m args below meth c G C hret hname => ?_)
  unfold f_M_dayPasses at h
  refine (?_ : zJ p l e rm_M_dayPasses s m args below meth c G true 3 0 0 (zQm below G args s rm_M_dayPasses true (some (zi r)) S1) S 0 [(0, zr (some 72))] [])
  refine z_iconst C (0 : Int32) (by decide) d_M_dayPasses_0 ?_
  refine z_istore_n C [(1, zi (0 : Int32)), (0, zr (some 72))] d_M_dayPasses_1 rfl (by decide) rfl ?_
  refine z_iconst C (0 : Int32) (by decide) d_M_dayPasses_2 ?_
  refine z_istore_n C [(2, zi (0 : Int32)), (1, zi (0 : Int32)), (0, zr (some 72))] d_M_dayPasses_3 rfl (by decide) rfl ?_
  refine zq_lsub [2, 1, 0] [(0, zr (some 72)), (1, zi (0 : Int32)), (2, zi (0 : Int32))] rfl ?_
  exact c_M_dayPasses_4 C hret fu  (0 : Int32) (0 : Int32) S h
def f_M_passesKept (fu : Nat) (S : zSt) : Option (Int32 × zSt) := if (zI S 74 (91 : Int32).toNatClampNeg) = (999 : Int32) then some ((-3 : Int32), S) else zb1 (f_M_keeps fu (3 : Int32) S) (fun S3 => zb2 (f_M_dayPasses fu S3) (fun r5 S6 => some (r5, S6)))
set_option maxRecDepth 100000 in
set_option maxHeartbeats 4000000 in
theorem m_M_passesKept (l : Launch) {fu : Nat} {S : zSt} {r : Int32} {S1 : zSt} (h : f_M_passesKept fu  S = some (r, S1)) : zPM l y_M_passesKept b_M_passesKept 1 (some .int) rm_M_passesKept true true [zr (some 72)] S (some (zi r)) S1 := by
  refine zPM_of (by decide) (Nat.le_of_ble_eq_true rfl) (fun p e s m args below meth c G C hret hname => ?_)
  unfold f_M_passesKept at h
  refine (?_ : zJ p l e rm_M_passesKept s m args below meth c G true 1 0 0 (zQm below G args s rm_M_passesKept true (some (zi r)) S1) S 0 [(0, zr (some 72))] [])
  refine z_aload_n C 0 rfl d_M_passesKept_0 rfl ?_
  refine z_getF2 C 11 (by decide) 2 (by decide) rfl 2 5807 rfl (74) rfl zp_72 zk_72 zfl_11_24 d_M_passesKept_1 ?_
  refine z_bipush C (91 : Int32) (by decide) d_M_passesKept_4 ?_
  refine z_fact (fun hSR => ?_)
  refine z_ialoadS C zo_74 zk_74 (za_74 hSR) (by decide) d_M_passesKept_6 ?_
  refine z_sipush C (999 : Int32) (by decide) d_M_passesKept_7 ?_
  rcases zite h with ⟨c1, h⟩ | ⟨c1, h⟩
  · refine z_icmp_nef C 16 c1 d_M_passesKept_10 (by decide) ?_
    refine z_bipush C (-3 : Int32) (by decide) d_M_passesKept_13 ?_
    cases h
    exact z_iret C .int hret rfl ⟨Nat.zero_le _, Nat.zero_le _⟩ d_M_passesKept_15
  · refine z_icmp_net C 16 c1 d_M_passesKept_10 (by decide) ?_
    refine z_aload_n C 0 rfl d_M_passesKept_16 rfl ?_
    refine z_iconst C (3 : Int32) (by decide) d_M_passesKept_17 ?_
    obtain ⟨S3, h2, h⟩ := zb1_some h
    refine z_cV C 11 (by decide) (m_M_keeps l h2) mf_M_keeps lk_11_348 in_M_keeps se_M_keeps rfl zo_72 zk_72 ⟨rfl, rfl⟩ ⟨by decide, by decide⟩ ⟨Nat.zero_le _, Nat.zero_le _⟩ rfl _ [] rfl (Nat.le_of_ble_eq_true rfl) d_M_passesKept_18 ?_
    refine z_aload_n C 0 rfl d_M_passesKept_21 rfl ?_
    obtain ⟨r5, S6, h4, h⟩ := zb2_some h
    refine z_cV C 11 (by decide) (m_M_dayPasses l h4) mf_M_dayPasses lk_11_354 in_M_dayPasses se_M_dayPasses rfl zo_72 zk_72 ⟨rfl, rfl⟩ ⟨by decide, by decide⟩ ⟨Nat.zero_le _, Nat.zero_le _⟩ rfl _ [] rfl (Nat.le_of_ble_eq_true rfl) d_M_passesKept_22 ?_
    cases h
    exact z_iret C .int hret rfl ⟨Nat.zero_le _, Nat.zero_le _⟩ d_M_passesKept_25
def f_M_pass (fu : Nat) (S : zSt) : Option (Int32 × zSt) := zb2 (f_M_passesKept fu S) (fun r2 S3 => zb2 (f_M_goodOr r2 S3) (fun r5 S6 => some (r5, S6)))
set_option maxRecDepth 100000 in
set_option maxHeartbeats 4000000 in
theorem m_M_pass (l : Launch) {fu : Nat} {S : zSt} {r : Int32} {S1 : zSt} (h : f_M_pass fu  S = some (r, S1)) : zPM l y_M_pass b_M_pass 1 (some .int) rm_M_pass true true [zr (some 72)] S (some (zi r)) S1 := by
  refine zPM_of (by decide) (Nat.le_of_ble_eq_true rfl) (fun p e s m args below meth c G C hret hname => ?_)
  unfold f_M_pass at h
  refine (?_ : zJ p l e rm_M_pass s m args below meth c G true 1 0 0 (zQm below G args s rm_M_pass true (some (zi r)) S1) S 0 [(0, zr (some 72))] [])
  refine z_aload_n C 0 rfl d_M_pass_0 rfl ?_
  refine z_aload_n C 0 rfl d_M_pass_1 rfl ?_
  obtain ⟨r2, S3, h1, h⟩ := zb2_some h
  refine z_cV C 11 (by decide) (m_M_passesKept l h1) mf_M_passesKept lk_11_369 in_M_passesKept se_M_passesKept rfl zo_72 zk_72 ⟨rfl, rfl⟩ ⟨by decide, by decide⟩ ⟨Nat.zero_le _, Nat.zero_le _⟩ rfl _ [zr (some 72)] rfl (Nat.le_of_ble_eq_true rfl) d_M_pass_2 ?_
  obtain ⟨r5, S6, h4, h⟩ := zb2_some h
  refine z_cV C 11 (by decide) (m_M_goodOr l h4) mf_M_goodOr lk_11_360 in_M_goodOr se_M_goodOr rfl zo_72 zk_72 ⟨rfl, rfl⟩ ⟨by decide, by decide⟩ ⟨Nat.zero_le _, Nat.zero_le _⟩ rfl _ [] rfl (Nat.le_of_ble_eq_true rfl) d_M_pass_5 ?_
  cases h
  exact z_iret C .int hret rfl ⟨Nat.zero_le _, Nat.zero_le _⟩ d_M_pass_8
def f_M_lesser (a0 : Int32) (a1 : Int32) : Option Int32 := if a1 ≤ a0 then some a1 else some a0
set_option maxRecDepth 100000 in
set_option maxHeartbeats 4000000 in
theorem m_M_lesser (l : Launch) {a0 : Int32} {a1 : Int32} {S : zSt} {r : Int32} (h : f_M_lesser a0 a1 = some r) : zPM l y_M_lesser b_M_lesser 2 (some .int) rm_M_lesser true true [zi a0, zi a1] S (some (zi r)) S := by
  refine zPM_of (by decide) (Nat.le_of_ble_eq_true rfl) (fun p e s m args below meth c G C hret hname => ?_)
  unfold f_M_lesser at h
  refine (?_ : zJ p l e rm_M_lesser s m args below meth c G true 2 0 0 (zQm below G args s rm_M_lesser true (some (zi r)) S) S 0 [(0, zi a0), (1, zi a1)] [])
  refine z_iload_n C 0 rfl d_M_lesser_0 rfl ?_
  refine z_iload_n C 1 rfl d_M_lesser_1 rfl ?_
  rcases zite h with ⟨c1, h⟩ | ⟨c1, h⟩
  · refine z_icmp_get C 9 c1 d_M_lesser_2 (by decide) ?_
    refine z_iload_n C 1 rfl d_M_lesser_9 rfl ?_
    cases h
    exact z_iret C .int hret rfl ⟨Nat.zero_le _, Nat.zero_le _⟩ d_M_lesser_10
  · refine z_icmp_gef C 9 c1 d_M_lesser_2 (by decide) ?_
    refine z_iload_n C 0 rfl d_M_lesser_5 rfl ?_
    refine z_goto C 10 d_M_lesser_6 (by decide) ?_
    cases h
    exact z_iret C .int hret rfl ⟨Nat.zero_le _, Nat.zero_le _⟩ d_M_lesser_10
def f_M_laysSoon_49 (fu : Nat) (k2 : Int32 → zSt → Option zSt) (k12 : Int32 → Int32 → zSt → Option zSt) (a1 : Int32) (a2 : Int32) (k0 : Int32) (k1 : Int32) (S : zSt) : Option zSt := zgd (0 ≤ k1 ∧ k1.toNatClampNeg < 81) (zb1 (f_M_pairAt a1 a2) (fun r3 => if a1 = a2 then zgd (0 ≤ r3 ∧ r3.toNatClampNeg < 81) (k12 a1 (a2 + (1 : Int32)) (zwI (zwI S 89 k1.toNatClampNeg k0) 90 r3.toNatClampNeg (0 : Int32))) else zb1 (f_M_pairAt a1 a2) (fun r6 => zgd (0 ≤ r6 ∧ r6.toNatClampNeg < 81) (zgd (0 ≤ r3 ∧ r3.toNatClampNeg < 81) (k12 a1 (a2 + (1 : Int32)) (zwI (zwI S 89 k1.toNatClampNeg k0) 90 r3.toNatClampNeg (zI (zwI S 89 k1.toNatClampNeg k0) 89 r6.toNatClampNeg)))))))
def f_M_laysSoon_12 (fu : Nat) (k2 : Int32 → zSt → Option zSt) : Nat → Int32 → Int32 → zSt → Option zSt
  | 0, _, _, _ => none
  | n + 1, a1, a2, S => zb1 (f_M_springMany S) (fun r2 => if r2 ≤ a2 then k2 (a1 + (1 : Int32)) S else zb1 (f_M_pairAt a1 a2) (fun r5 => zb2 (f_M_isPassed fu a1 a2 S) (fun r7 S8 => if r7 = 0 then f_M_laysSoon_49 fu k2 (f_M_laysSoon_12 fu k2 n) a1 a2 (1000000 : Int32) r5 S8 else zb2 (f_M_takesFor fu a1 a2 S8) (fun r11 S12 => f_M_laysSoon_49 fu k2 (f_M_laysSoon_12 fu k2 n) a1 a2 r11 r5 S12))))
def f_M_laysSoon_113 (fu : Nat) (k93 : Int32 → zSt → Option zSt) (k103 : Int32 → Int32 → zSt → Option zSt) : Nat → Int32 → Int32 → Int32 → zSt → Option zSt
  | 0, _, _, _, _ => none
  | n + 1, a1, a2, a3, S => zb1 (f_M_springMany S) (fun r2 => if r2 ≤ a3 then k103 a1 (a2 + (1 : Int32)) S else zb1 (f_M_pairAt a2 a3) (fun r5 => zb1 (f_M_pairAt a2 a3) (fun r7 => zgd (0 ≤ r7 ∧ r7.toNatClampNeg < 81) (zb1 (f_M_pairAt a2 a1) (fun r10 => zgd (0 ≤ r10 ∧ r10.toNatClampNeg < 81) (zb1 (f_M_pairAt a1 a3) (fun r13 => zgd (0 ≤ r13 ∧ r13.toNatClampNeg < 81) (zb1 (f_M_lesser (zI S 90 r7.toNatClampNeg) ((zI S 90 r10.toNatClampNeg) + (zI S 90 r13.toNatClampNeg))) (fun r16 => zgd (0 ≤ r5 ∧ r5.toNatClampNeg < 81) (f_M_laysSoon_113 fu k93 k103 n a1 a2 (a3 + (1 : Int32)) (zwI S 90 r5.toNatClampNeg r16)))))))))))
def f_M_laysSoon_103 (fu : Nat) (k93 : Int32 → zSt → Option zSt) : Nat → Int32 → Int32 → zSt → Option zSt
  | 0, _, _, _ => none
  | n + 1, a1, a2, S => zb1 (f_M_springMany S) (fun r2 => if r2 ≤ a2 then k93 (a1 + (1 : Int32)) S else f_M_laysSoon_113 fu k93 (f_M_laysSoon_103 fu k93 n) fu a1 a2 (0 : Int32) S)
def f_M_laysSoon_93 (fu : Nat) : Nat → Int32 → zSt → Option zSt
  | 0, _, _ => none
  | n + 1, a1, S => zb1 (f_M_springMany S) (fun r2 => if r2 ≤ a1 then some S else f_M_laysSoon_103 fu (f_M_laysSoon_93 fu n) fu a1 (0 : Int32) S)
def f_M_laysSoon_2 (fu : Nat) : Nat → Int32 → zSt → Option zSt
  | 0, _, _ => none
  | n + 1, a1, S => zb1 (f_M_springMany S) (fun r2 => if r2 ≤ a1 then f_M_laysSoon_93 fu fu (0 : Int32) S else f_M_laysSoon_12 fu (f_M_laysSoon_2 fu n) fu a1 (0 : Int32) S)
def f_M_laysSoon (fu : Nat) (S : zSt) : Option zSt := f_M_laysSoon_2 fu fu (0 : Int32) S
set_option maxRecDepth 100000 in
set_option maxHeartbeats 4000000 in
theorem c_M_laysSoon_49 {p : Program} {l : Launch} {e : Env} {s : State} {m : MethodId} {args : Array Value} {below : List Frame} {meth : Method} {c : Code} {G : zG} (C : zC p s m args meth c G b_M_laysSoon 4 y_M_laysSoon.cls) (hret : meth.sig.returnType = none) {fu : Nat} {S1 : zSt} {k2 : Int32 → zSt → Option zSt} (hk2 : ∀ (a1 : Int32) (S : zSt) , k2 a1 S = some S1 → zJ p l e rm_M_laysSoon s m args below meth c G true 4 0 0 (zQm below G args s rm_M_laysSoon true none S1) S 2 [(0, zr (some 72)), (1, zi a1)] []) {k12 : Int32 → Int32 → zSt → Option zSt} (hk12 : ∀ (a1 : Int32) (a2 : Int32) (S : zSt) , k12 a1 a2 S = some S1 → zJ p l e rm_M_laysSoon s m args below meth c G true 4 0 0 (zQm below G args s rm_M_laysSoon true none S1) S 12 [(0, zr (some 72)), (1, zi a1), (2, zi a2)] []) : ∀ (a1 : Int32) (a2 : Int32) (k0 : Int32) (k1 : Int32) (S : zSt) , f_M_laysSoon_49 fu k2 k12 a1 a2 k0 k1 S = some S1 → zJ p l e rm_M_laysSoon s m args below meth c G true 4 0 0 (zQm below G args s rm_M_laysSoon true none S1) S 49 [(0, zr (some 72)), (1, zi a1), (2, zi a2)] [zi k0, zi k1, zr (some 89)] := by
  intro a1 a2 k0 k1 S h
  unfold f_M_laysSoon_49 at h
  refine z_fact (fun hSR => ?_)
  obtain ⟨g1, h⟩ := zgd_some h
  refine z_iastoreS C zo_89 zk_89 (za_89 hSR) g1 d_M_laysSoon_49 ?_
  refine z_aload_n C 0 rfl d_M_laysSoon_50 rfl ?_
  refine z_getF2 C 11 (by decide) 35 (by decide) rfl 18 81 rfl (90) rfl zp_72 zk_72 zfl_11_77 d_M_laysSoon_51 ?_
  refine z_iload_n C 1 rfl d_M_laysSoon_54 rfl ?_
  refine z_iload_n C 2 rfl d_M_laysSoon_55 rfl ?_
  obtain ⟨r3, h2, h⟩ := zb1_some h
  refine z_cS C (m_M_pairAt l h2) mf_M_pairAt lk_11_126 st_M_pairAt ⟨rfl, rfl⟩ ⟨by decide, by decide⟩ ⟨Nat.zero_le _, Nat.zero_le _⟩ rfl _ [zr (some 90)] rfl (Nat.le_of_ble_eq_true rfl) d_M_laysSoon_56 ?_
  refine z_iload_n C 1 rfl d_M_laysSoon_59 rfl ?_
  refine z_iload_n C 2 rfl d_M_laysSoon_60 rfl ?_
  rcases zite h with ⟨c4, h⟩ | ⟨c4, h⟩
  · refine z_icmp_nef C 68 c4 d_M_laysSoon_61 (by decide) ?_
    refine z_iconst C (0 : Int32) (by decide) d_M_laysSoon_64 ?_
    refine z_goto C 78 d_M_laysSoon_65 (by decide) ?_
    refine z_fact (fun hSR => ?_)
    obtain ⟨g9, h⟩ := zgd_some h
    refine z_iastoreS C zo_90 zk_90 (za_90 hSR) g9 d_M_laysSoon_78 ?_
    refine z_iinc C 2 (a2 + (1 : Int32)) [(2, zi (a2 + (1 : Int32))), (0, zr (some 72)), (1, zi a1)] rfl d_M_laysSoon_79 (by first | rfl | decide) (by decide) rfl ?_
    refine z_goto C 12 d_M_laysSoon_82 (by decide) ?_
    refine zq_lsub [1, 2, 0] [(0, zr (some 72)), (1, zi a1), (2, zi (a2 + (1 : Int32)))] rfl ?_
    exact hk12 a1 (a2 + (1 : Int32)) (zwI (zwI S 89 k1.toNatClampNeg k0) 90 r3.toNatClampNeg (0 : Int32)) h
  · refine z_icmp_net C 68 c4 d_M_laysSoon_61 (by decide) ?_
    refine z_aload_n C 0 rfl d_M_laysSoon_68 rfl ?_
    refine z_getF2 C 11 (by decide) 34 (by decide) rfl 17 81 rfl (89) rfl zp_72 zk_72 zfl_11_74 d_M_laysSoon_69 ?_
    refine z_iload_n C 1 rfl d_M_laysSoon_72 rfl ?_
    refine z_iload_n C 2 rfl d_M_laysSoon_73 rfl ?_
    obtain ⟨r6, h5, h⟩ := zb1_some h
    refine z_cS C (m_M_pairAt l h5) mf_M_pairAt lk_11_126 st_M_pairAt ⟨rfl, rfl⟩ ⟨by decide, by decide⟩ ⟨Nat.zero_le _, Nat.zero_le _⟩ rfl _ [zr (some 89), zi r3, zr (some 90)] rfl (Nat.le_of_ble_eq_true rfl) d_M_laysSoon_74 ?_
    refine z_fact (fun hSR => ?_)
    obtain ⟨g7, h⟩ := zgd_some h
    refine z_ialoadS C zo_89 zk_89 (za_89 hSR) g7 d_M_laysSoon_77 ?_
    refine z_fact (fun hSR => ?_)
    obtain ⟨g8, h⟩ := zgd_some h
    refine z_iastoreS C zo_90 zk_90 (za_90 hSR) g8 d_M_laysSoon_78 ?_
    refine z_iinc C 2 (a2 + (1 : Int32)) [(2, zi (a2 + (1 : Int32))), (0, zr (some 72)), (1, zi a1)] rfl d_M_laysSoon_79 (by first | rfl | decide) (by decide) rfl ?_
    refine z_goto C 12 d_M_laysSoon_82 (by decide) ?_
    refine zq_lsub [1, 2, 0] [(0, zr (some 72)), (1, zi a1), (2, zi (a2 + (1 : Int32)))] rfl ?_
    exact hk12 a1 (a2 + (1 : Int32)) (zwI (zwI S 89 k1.toNatClampNeg k0) 90 r3.toNatClampNeg (zI (zwI S 89 k1.toNatClampNeg k0) 89 r6.toNatClampNeg)) h
set_option maxRecDepth 100000 in
set_option maxHeartbeats 4000000 in
theorem c_M_laysSoon_12 {p : Program} {l : Launch} {e : Env} {s : State} {m : MethodId} {args : Array Value} {below : List Frame} {meth : Method} {c : Code} {G : zG} (C : zC p s m args meth c G b_M_laysSoon 4 y_M_laysSoon.cls) (hret : meth.sig.returnType = none) {fu : Nat} {S1 : zSt} {k2 : Int32 → zSt → Option zSt} (hk2 : ∀ (a1 : Int32) (S : zSt) , k2 a1 S = some S1 → zJ p l e rm_M_laysSoon s m args below meth c G true 4 0 0 (zQm below G args s rm_M_laysSoon true none S1) S 2 [(0, zr (some 72)), (1, zi a1)] []) : ∀ (n : Nat) (a1 : Int32) (a2 : Int32) (S : zSt) , f_M_laysSoon_12 fu k2 n a1 a2 S = some S1 → zJ p l e rm_M_laysSoon s m args below meth c G true 4 0 0 (zQm below G args s rm_M_laysSoon true none S1) S 12 [(0, zr (some 72)), (1, zi a1), (2, zi a2)] [] := by
  intro n
  induction n with
  | zero =>
    intro a1 a2 S h
    cases h
  | succ n ih =>
    intro a1 a2 S h
    rw [f_M_laysSoon_12] at h
    refine z_iload_n C 2 rfl d_M_laysSoon_12 rfl ?_
    refine z_aload_n C 0 rfl d_M_laysSoon_13 rfl ?_
    obtain ⟨r2, h1, h⟩ := zb1_some h
    refine z_cV C 11 (by decide) (m_M_springMany l h1) mf_M_springMany lk_11_118 in_M_springMany se_M_springMany rfl zo_72 zk_72 ⟨rfl, rfl⟩ ⟨by decide, by decide⟩ ⟨Nat.zero_le _, Nat.zero_le _⟩ rfl _ [zi a2] rfl (Nat.le_of_ble_eq_true rfl) d_M_laysSoon_14 ?_
    rcases zite h with ⟨c3, h⟩ | ⟨c3, h⟩
    · refine z_icmp_get C 85 c3 d_M_laysSoon_17 (by decide) ?_
      refine z_iinc C 1 (a1 + (1 : Int32)) [(1, zi (a1 + (1 : Int32))), (0, zr (some 72)), (2, zi a2)] rfl d_M_laysSoon_85 (by first | rfl | decide) (by decide) rfl ?_
      refine z_goto C 2 d_M_laysSoon_88 (by decide) ?_
      refine zq_lsub [1, 0] [(0, zr (some 72)), (1, zi (a1 + (1 : Int32)))] rfl ?_
      exact hk2 (a1 + (1 : Int32)) S h
    · refine z_icmp_gef C 85 c3 d_M_laysSoon_17 (by decide) ?_
      refine z_aload_n C 0 rfl d_M_laysSoon_20 rfl ?_
      refine z_getF2 C 11 (by decide) 34 (by decide) rfl 17 81 rfl (89) rfl zp_72 zk_72 zfl_11_74 d_M_laysSoon_21 ?_
      refine z_iload_n C 1 rfl d_M_laysSoon_24 rfl ?_
      refine z_iload_n C 2 rfl d_M_laysSoon_25 rfl ?_
      obtain ⟨r5, h4, h⟩ := zb1_some h
      refine z_cS C (m_M_pairAt l h4) mf_M_pairAt lk_11_126 st_M_pairAt ⟨rfl, rfl⟩ ⟨by decide, by decide⟩ ⟨Nat.zero_le _, Nat.zero_le _⟩ rfl _ [zr (some 89)] rfl (Nat.le_of_ble_eq_true rfl) d_M_laysSoon_26 ?_
      refine z_aload_n C 0 rfl d_M_laysSoon_29 rfl ?_
      refine z_iload_n C 1 rfl d_M_laysSoon_30 rfl ?_
      refine z_iload_n C 2 rfl d_M_laysSoon_31 rfl ?_
      obtain ⟨r7, S8, h6, h⟩ := zb2_some h
      refine z_cV C 11 (by decide) (m_M_isPassed l h6) mf_M_isPassed lk_11_345 in_M_isPassed se_M_isPassed rfl zo_72 zk_72 ⟨rfl, rfl⟩ ⟨by decide, by decide⟩ ⟨Nat.zero_le _, Nat.zero_le _⟩ rfl _ [zi r5, zr (some 89)] rfl (Nat.le_of_ble_eq_true rfl) d_M_laysSoon_32 ?_
      rcases zite h with ⟨c9, h⟩ | ⟨c9, h⟩
      · refine z_if_eqt C 47 c9 d_M_laysSoon_35 (by decide) ?_
        refine z_ldc C zc_11_177 d_M_laysSoon_47 ?_
        refine zq_lsub [0, 1, 2] [(0, zr (some 72)), (1, zi a1), (2, zi a2)] rfl ?_
        exact c_M_laysSoon_49 C hret hk2 (fun z0 z1 zS zh => ih z0 z1 zS zh)  a1 a2 (1000000 : Int32) r5 S8 h
      · refine z_if_eqf C 47 c9 d_M_laysSoon_35 (by decide) ?_
        refine z_aload_n C 0 rfl d_M_laysSoon_38 rfl ?_
        refine z_iload_n C 1 rfl d_M_laysSoon_39 rfl ?_
        refine z_iload_n C 2 rfl d_M_laysSoon_40 rfl ?_
        obtain ⟨r11, S12, h10, h⟩ := zb2_some h
        refine z_cV C 11 (by decide) (m_M_takesFor l h10) mf_M_takesFor lk_11_144 in_M_takesFor se_M_takesFor rfl zo_72 zk_72 ⟨rfl, rfl⟩ ⟨by decide, by decide⟩ ⟨Nat.zero_le _, Nat.zero_le _⟩ rfl _ [zi r5, zr (some 89)] rfl (Nat.le_of_ble_eq_true rfl) d_M_laysSoon_41 ?_
        refine z_goto C 49 d_M_laysSoon_44 (by decide) ?_
        refine zq_lsub [0, 1, 2] [(0, zr (some 72)), (1, zi a1), (2, zi a2)] rfl ?_
        exact c_M_laysSoon_49 C hret hk2 (fun z0 z1 zS zh => ih z0 z1 zS zh)  a1 a2 r11 r5 S12 h
set_option maxRecDepth 100000 in
set_option maxHeartbeats 4000000 in
theorem c_M_laysSoon_113 {p : Program} {l : Launch} {e : Env} {s : State} {m : MethodId} {args : Array Value} {below : List Frame} {meth : Method} {c : Code} {G : zG} (C : zC p s m args meth c G b_M_laysSoon 4 y_M_laysSoon.cls) (hret : meth.sig.returnType = none) {fu : Nat} {S1 : zSt} {k93 : Int32 → zSt → Option zSt} (hk93 : ∀ (a1 : Int32) (S : zSt) , k93 a1 S = some S1 → zJ p l e rm_M_laysSoon s m args below meth c G true 4 0 0 (zQm below G args s rm_M_laysSoon true none S1) S 93 [(0, zr (some 72)), (1, zi a1)] []) {k103 : Int32 → Int32 → zSt → Option zSt} (hk103 : ∀ (a1 : Int32) (a2 : Int32) (S : zSt) , k103 a1 a2 S = some S1 → zJ p l e rm_M_laysSoon s m args below meth c G true 4 0 0 (zQm below G args s rm_M_laysSoon true none S1) S 103 [(0, zr (some 72)), (1, zi a1), (2, zi a2)] []) : ∀ (n : Nat) (a1 : Int32) (a2 : Int32) (a3 : Int32) (S : zSt) , f_M_laysSoon_113 fu k93 k103 n a1 a2 a3 S = some S1 → zJ p l e rm_M_laysSoon s m args below meth c G true 4 0 0 (zQm below G args s rm_M_laysSoon true none S1) S 113 [(0, zr (some 72)), (1, zi a1), (2, zi a2), (3, zi a3)] [] := by
  intro n
  induction n with
  | zero =>
    intro a1 a2 a3 S h
    cases h
  | succ n ih =>
    intro a1 a2 a3 S h
    rw [f_M_laysSoon_113] at h
    refine z_iload_n C 3 rfl d_M_laysSoon_113 rfl ?_
    refine z_aload_n C 0 rfl d_M_laysSoon_114 rfl ?_
    obtain ⟨r2, h1, h⟩ := zb1_some h
    refine z_cV C 11 (by decide) (m_M_springMany l h1) mf_M_springMany lk_11_118 in_M_springMany se_M_springMany rfl zo_72 zk_72 ⟨rfl, rfl⟩ ⟨by decide, by decide⟩ ⟨Nat.zero_le _, Nat.zero_le _⟩ rfl _ [zi a3] rfl (Nat.le_of_ble_eq_true rfl) d_M_laysSoon_115 ?_
    rcases zite h with ⟨c3, h⟩ | ⟨c3, h⟩
    · refine z_icmp_get C 171 c3 d_M_laysSoon_118 (by decide) ?_
      refine z_iinc C 2 (a2 + (1 : Int32)) [(2, zi (a2 + (1 : Int32))), (0, zr (some 72)), (1, zi a1), (3, zi a3)] rfl d_M_laysSoon_171 (by first | rfl | decide) (by decide) rfl ?_
      refine z_goto C 103 d_M_laysSoon_174 (by decide) ?_
      refine zq_lsub [1, 2, 0] [(0, zr (some 72)), (1, zi a1), (2, zi (a2 + (1 : Int32)))] rfl ?_
      exact hk103 a1 (a2 + (1 : Int32)) S h
    · refine z_icmp_gef C 171 c3 d_M_laysSoon_118 (by decide) ?_
      refine z_aload_n C 0 rfl d_M_laysSoon_121 rfl ?_
      refine z_getF2 C 11 (by decide) 35 (by decide) rfl 18 81 rfl (90) rfl zp_72 zk_72 zfl_11_77 d_M_laysSoon_122 ?_
      refine z_iload_n C 2 rfl d_M_laysSoon_125 rfl ?_
      refine z_iload_n C 3 rfl d_M_laysSoon_126 rfl ?_
      obtain ⟨r5, h4, h⟩ := zb1_some h
      refine z_cS C (m_M_pairAt l h4) mf_M_pairAt lk_11_126 st_M_pairAt ⟨rfl, rfl⟩ ⟨by decide, by decide⟩ ⟨Nat.zero_le _, Nat.zero_le _⟩ rfl _ [zr (some 90)] rfl (Nat.le_of_ble_eq_true rfl) d_M_laysSoon_127 ?_
      refine z_aload_n C 0 rfl d_M_laysSoon_130 rfl ?_
      refine z_getF2 C 11 (by decide) 35 (by decide) rfl 18 81 rfl (90) rfl zp_72 zk_72 zfl_11_77 d_M_laysSoon_131 ?_
      refine z_iload_n C 2 rfl d_M_laysSoon_134 rfl ?_
      refine z_iload_n C 3 rfl d_M_laysSoon_135 rfl ?_
      obtain ⟨r7, h6, h⟩ := zb1_some h
      refine z_cS C (m_M_pairAt l h6) mf_M_pairAt lk_11_126 st_M_pairAt ⟨rfl, rfl⟩ ⟨by decide, by decide⟩ ⟨Nat.zero_le _, Nat.zero_le _⟩ rfl _ [zr (some 90), zi r5, zr (some 90)] rfl (Nat.le_of_ble_eq_true rfl) d_M_laysSoon_136 ?_
      refine z_fact (fun hSR => ?_)
      obtain ⟨g8, h⟩ := zgd_some h
      refine z_ialoadS C zo_90 zk_90 (za_90 hSR) g8 d_M_laysSoon_139 ?_
      refine z_aload_n C 0 rfl d_M_laysSoon_140 rfl ?_
      refine z_getF2 C 11 (by decide) 35 (by decide) rfl 18 81 rfl (90) rfl zp_72 zk_72 zfl_11_77 d_M_laysSoon_141 ?_
      refine z_iload_n C 2 rfl d_M_laysSoon_144 rfl ?_
      refine z_iload_n C 1 rfl d_M_laysSoon_145 rfl ?_
      obtain ⟨r10, h9, h⟩ := zb1_some h
      refine z_cS C (m_M_pairAt l h9) mf_M_pairAt lk_11_126 st_M_pairAt ⟨rfl, rfl⟩ ⟨by decide, by decide⟩ ⟨Nat.zero_le _, Nat.zero_le _⟩ rfl _ [zr (some 90), zi (zI S 90 r7.toNatClampNeg), zi r5, zr (some 90)] rfl (Nat.le_of_ble_eq_true rfl) d_M_laysSoon_146 ?_
      refine z_fact (fun hSR => ?_)
      obtain ⟨g11, h⟩ := zgd_some h
      refine z_ialoadS C zo_90 zk_90 (za_90 hSR) g11 d_M_laysSoon_149 ?_
      refine z_aload_n C 0 rfl d_M_laysSoon_150 rfl ?_
      refine z_getF2 C 11 (by decide) 35 (by decide) rfl 18 81 rfl (90) rfl zp_72 zk_72 zfl_11_77 d_M_laysSoon_151 ?_
      refine z_iload_n C 1 rfl d_M_laysSoon_154 rfl ?_
      refine z_iload_n C 3 rfl d_M_laysSoon_155 rfl ?_
      obtain ⟨r13, h12, h⟩ := zb1_some h
      refine z_cS C (m_M_pairAt l h12) mf_M_pairAt lk_11_126 st_M_pairAt ⟨rfl, rfl⟩ ⟨by decide, by decide⟩ ⟨Nat.zero_le _, Nat.zero_le _⟩ rfl _ [zr (some 90), zi (zI S 90 r10.toNatClampNeg), zi (zI S 90 r7.toNatClampNeg), zi r5, zr (some 90)] rfl (Nat.le_of_ble_eq_true rfl) d_M_laysSoon_156 ?_
      refine z_fact (fun hSR => ?_)
      obtain ⟨g14, h⟩ := zgd_some h
      refine z_ialoadS C zo_90 zk_90 (za_90 hSR) g14 d_M_laysSoon_159 ?_
      refine z_iadd C d_M_laysSoon_160 ?_
      obtain ⟨r16, h15, h⟩ := zb1_some h
      refine z_cS C (m_M_lesser l h15) mf_M_lesser lk_11_372 st_M_lesser ⟨rfl, rfl⟩ ⟨by decide, by decide⟩ ⟨Nat.zero_le _, Nat.zero_le _⟩ rfl _ [zi r5, zr (some 90)] rfl (Nat.le_of_ble_eq_true rfl) d_M_laysSoon_161 ?_
      refine z_fact (fun hSR => ?_)
      obtain ⟨g17, h⟩ := zgd_some h
      refine z_iastoreS C zo_90 zk_90 (za_90 hSR) g17 d_M_laysSoon_164 ?_
      refine z_iinc C 3 (a3 + (1 : Int32)) [(3, zi (a3 + (1 : Int32))), (0, zr (some 72)), (1, zi a1), (2, zi a2)] rfl d_M_laysSoon_165 (by first | rfl | decide) (by decide) rfl ?_
      refine z_goto C 113 d_M_laysSoon_168 (by decide) ?_
      refine zq_lsub [1, 2, 3, 0] [(0, zr (some 72)), (1, zi a1), (2, zi a2), (3, zi (a3 + (1 : Int32)))] rfl ?_
      exact ih a1 a2 (a3 + (1 : Int32)) (zwI S 90 r5.toNatClampNeg r16) h
set_option maxRecDepth 100000 in
set_option maxHeartbeats 4000000 in
theorem c_M_laysSoon_103 {p : Program} {l : Launch} {e : Env} {s : State} {m : MethodId} {args : Array Value} {below : List Frame} {meth : Method} {c : Code} {G : zG} (C : zC p s m args meth c G b_M_laysSoon 4 y_M_laysSoon.cls) (hret : meth.sig.returnType = none) {fu : Nat} {S1 : zSt} {k93 : Int32 → zSt → Option zSt} (hk93 : ∀ (a1 : Int32) (S : zSt) , k93 a1 S = some S1 → zJ p l e rm_M_laysSoon s m args below meth c G true 4 0 0 (zQm below G args s rm_M_laysSoon true none S1) S 93 [(0, zr (some 72)), (1, zi a1)] []) : ∀ (n : Nat) (a1 : Int32) (a2 : Int32) (S : zSt) , f_M_laysSoon_103 fu k93 n a1 a2 S = some S1 → zJ p l e rm_M_laysSoon s m args below meth c G true 4 0 0 (zQm below G args s rm_M_laysSoon true none S1) S 103 [(0, zr (some 72)), (1, zi a1), (2, zi a2)] [] := by
  intro n
  induction n with
  | zero =>
    intro a1 a2 S h
    cases h
  | succ n ih =>
    intro a1 a2 S h
    rw [f_M_laysSoon_103] at h
    refine z_iload_n C 2 rfl d_M_laysSoon_103 rfl ?_
    refine z_aload_n C 0 rfl d_M_laysSoon_104 rfl ?_
    obtain ⟨r2, h1, h⟩ := zb1_some h
    refine z_cV C 11 (by decide) (m_M_springMany l h1) mf_M_springMany lk_11_118 in_M_springMany se_M_springMany rfl zo_72 zk_72 ⟨rfl, rfl⟩ ⟨by decide, by decide⟩ ⟨Nat.zero_le _, Nat.zero_le _⟩ rfl _ [zi a2] rfl (Nat.le_of_ble_eq_true rfl) d_M_laysSoon_105 ?_
    rcases zite h with ⟨c3, h⟩ | ⟨c3, h⟩
    · refine z_icmp_get C 177 c3 d_M_laysSoon_108 (by decide) ?_
      refine z_iinc C 1 (a1 + (1 : Int32)) [(1, zi (a1 + (1 : Int32))), (0, zr (some 72)), (2, zi a2)] rfl d_M_laysSoon_177 (by first | rfl | decide) (by decide) rfl ?_
      refine z_goto C 93 d_M_laysSoon_180 (by decide) ?_
      refine zq_lsub [1, 0] [(0, zr (some 72)), (1, zi (a1 + (1 : Int32)))] rfl ?_
      exact hk93 (a1 + (1 : Int32)) S h
    · refine z_icmp_gef C 177 c3 d_M_laysSoon_108 (by decide) ?_
      refine z_iconst C (0 : Int32) (by decide) d_M_laysSoon_111 ?_
      refine z_istore_n C [(3, zi (0 : Int32)), (0, zr (some 72)), (1, zi a1), (2, zi a2)] d_M_laysSoon_112 rfl (by decide) rfl ?_
      refine zq_lsub [1, 2, 3, 0] [(0, zr (some 72)), (1, zi a1), (2, zi a2), (3, zi (0 : Int32))] rfl ?_
      exact c_M_laysSoon_113 C hret hk93 (fun z0 z1 zS zh => ih z0 z1 zS zh) fu  a1 a2 (0 : Int32) S h
set_option maxRecDepth 100000 in
set_option maxHeartbeats 4000000 in
theorem c_M_laysSoon_93 {p : Program} {l : Launch} {e : Env} {s : State} {m : MethodId} {args : Array Value} {below : List Frame} {meth : Method} {c : Code} {G : zG} (C : zC p s m args meth c G b_M_laysSoon 4 y_M_laysSoon.cls) (hret : meth.sig.returnType = none) {fu : Nat} {S1 : zSt} : ∀ (n : Nat) (a1 : Int32) (S : zSt) , f_M_laysSoon_93 fu n a1 S = some S1 → zJ p l e rm_M_laysSoon s m args below meth c G true 4 0 0 (zQm below G args s rm_M_laysSoon true none S1) S 93 [(0, zr (some 72)), (1, zi a1)] [] := by
  intro n
  induction n with
  | zero =>
    intro a1 S h
    cases h
  | succ n ih =>
    intro a1 S h
    rw [f_M_laysSoon_93] at h
    refine z_iload_n C 1 rfl d_M_laysSoon_93 rfl ?_
    refine z_aload_n C 0 rfl d_M_laysSoon_94 rfl ?_
    obtain ⟨r2, h1, h⟩ := zb1_some h
    refine z_cV C 11 (by decide) (m_M_springMany l h1) mf_M_springMany lk_11_118 in_M_springMany se_M_springMany rfl zo_72 zk_72 ⟨rfl, rfl⟩ ⟨by decide, by decide⟩ ⟨Nat.zero_le _, Nat.zero_le _⟩ rfl _ [zi a1] rfl (Nat.le_of_ble_eq_true rfl) d_M_laysSoon_95 ?_
    rcases zite h with ⟨c3, h⟩ | ⟨c3, h⟩
    · refine z_icmp_get C 183 c3 d_M_laysSoon_98 (by decide) ?_
      cases h
      exact z_vret C hret ⟨Nat.zero_le _, Nat.zero_le _⟩ d_M_laysSoon_183
    · refine z_icmp_gef C 183 c3 d_M_laysSoon_98 (by decide) ?_
      refine z_iconst C (0 : Int32) (by decide) d_M_laysSoon_101 ?_
      refine z_istore_n C [(2, zi (0 : Int32)), (0, zr (some 72)), (1, zi a1)] d_M_laysSoon_102 rfl (by decide) rfl ?_
      refine zq_lsub [1, 2, 0] [(0, zr (some 72)), (1, zi a1), (2, zi (0 : Int32))] rfl ?_
      exact c_M_laysSoon_103 C hret (fun z0 zS zh => ih z0 zS zh) fu  a1 (0 : Int32) S h
set_option maxRecDepth 100000 in
set_option maxHeartbeats 4000000 in
theorem c_M_laysSoon_2 {p : Program} {l : Launch} {e : Env} {s : State} {m : MethodId} {args : Array Value} {below : List Frame} {meth : Method} {c : Code} {G : zG} (C : zC p s m args meth c G b_M_laysSoon 4 y_M_laysSoon.cls) (hret : meth.sig.returnType = none) {fu : Nat} {S1 : zSt} : ∀ (n : Nat) (a1 : Int32) (S : zSt) , f_M_laysSoon_2 fu n a1 S = some S1 → zJ p l e rm_M_laysSoon s m args below meth c G true 4 0 0 (zQm below G args s rm_M_laysSoon true none S1) S 2 [(0, zr (some 72)), (1, zi a1)] [] := by
  intro n
  induction n with
  | zero =>
    intro a1 S h
    cases h
  | succ n ih =>
    intro a1 S h
    rw [f_M_laysSoon_2] at h
    refine z_iload_n C 1 rfl d_M_laysSoon_2 rfl ?_
    refine z_aload_n C 0 rfl d_M_laysSoon_3 rfl ?_
    obtain ⟨r2, h1, h⟩ := zb1_some h
    refine z_cV C 11 (by decide) (m_M_springMany l h1) mf_M_springMany lk_11_118 in_M_springMany se_M_springMany rfl zo_72 zk_72 ⟨rfl, rfl⟩ ⟨by decide, by decide⟩ ⟨Nat.zero_le _, Nat.zero_le _⟩ rfl _ [zi a1] rfl (Nat.le_of_ble_eq_true rfl) d_M_laysSoon_4 ?_
    rcases zite h with ⟨c3, h⟩ | ⟨c3, h⟩
    · refine z_icmp_get C 91 c3 d_M_laysSoon_7 (by decide) ?_
      refine z_iconst C (0 : Int32) (by decide) d_M_laysSoon_91 ?_
      refine z_istore_n C [(1, zi (0 : Int32)), (0, zr (some 72))] d_M_laysSoon_92 rfl (by decide) rfl ?_
      refine zq_lsub [1, 0] [(0, zr (some 72)), (1, zi (0 : Int32))] rfl ?_
      exact c_M_laysSoon_93 C hret fu  (0 : Int32) S h
    · refine z_icmp_gef C 91 c3 d_M_laysSoon_7 (by decide) ?_
      refine z_iconst C (0 : Int32) (by decide) d_M_laysSoon_10 ?_
      refine z_istore_n C [(2, zi (0 : Int32)), (0, zr (some 72)), (1, zi a1)] d_M_laysSoon_11 rfl (by decide) rfl ?_
      refine zq_lsub [1, 2, 0] [(0, zr (some 72)), (1, zi a1), (2, zi (0 : Int32))] rfl ?_
      exact c_M_laysSoon_12 C hret (fun z0 zS zh => ih z0 zS zh) fu  a1 (0 : Int32) S h
set_option maxRecDepth 100000 in
set_option maxHeartbeats 4000000 in
theorem m_M_laysSoon (l : Launch) {fu : Nat} {S : zSt} {S1 : zSt} (h : f_M_laysSoon fu  S = some S1) : zPM l y_M_laysSoon b_M_laysSoon 4 none rm_M_laysSoon true true [zr (some 72)] S none S1 := by
  refine zPM_of (by decide) (Nat.le_of_ble_eq_true rfl) (fun p e s m args below meth c G C hret hname => ?_)
  unfold f_M_laysSoon at h
  refine (?_ : zJ p l e rm_M_laysSoon s m args below meth c G true 4 0 0 (zQm below G args s rm_M_laysSoon true none S1) S 0 [(0, zr (some 72))] [])
  refine z_iconst C (0 : Int32) (by decide) d_M_laysSoon_0 ?_
  refine z_istore_n C [(1, zi (0 : Int32)), (0, zr (some 72))] d_M_laysSoon_1 rfl (by decide) rfl ?_
  refine zq_lsub [1, 0] [(0, zr (some 72)), (1, zi (0 : Int32))] rfl ?_
  exact c_M_laysSoon_2 C hret fu  (0 : Int32) S h
def f_M_soonOr (a1 : Int32) (a2 : Int32) (S : zSt) : Option Int32 := zb1 (f_M_pairAt a1 a2) (fun r2 => zgd (0 ≤ r2 ∧ r2.toNatClampNeg < 81) (if (zI S 90 r2.toNatClampNeg) < (1000000 : Int32) then zb1 (f_M_pairAt a1 a2) (fun r6 => zgd (0 ≤ r6 ∧ r6.toNatClampNeg < 81) (some (zI S 90 r6.toNatClampNeg))) else some (-1 : Int32)))
set_option maxRecDepth 100000 in
set_option maxHeartbeats 4000000 in
theorem m_M_soonOr (l : Launch) {a1 : Int32} {a2 : Int32} {S : zSt} {r : Int32} (h : f_M_soonOr a1 a2 S = some r) : zPM l y_M_soonOr b_M_soonOr 3 (some .int) rm_M_soonOr true true [zr (some 72), zi a1, zi a2] S (some (zi r)) S := by
  refine zPM_of (by decide) (Nat.le_of_ble_eq_true rfl) (fun p e s m args below meth c G C hret hname => ?_)
  unfold f_M_soonOr at h
  refine (?_ : zJ p l e rm_M_soonOr s m args below meth c G true 3 0 0 (zQm below G args s rm_M_soonOr true (some (zi r)) S) S 0 [(0, zr (some 72)), (1, zi a1), (2, zi a2)] [])
  refine z_aload_n C 0 rfl d_M_soonOr_0 rfl ?_
  refine z_getF2 C 11 (by decide) 35 (by decide) rfl 18 81 rfl (90) rfl zp_72 zk_72 zfl_11_77 d_M_soonOr_1 ?_
  refine z_iload_n C 1 rfl d_M_soonOr_4 rfl ?_
  refine z_iload_n C 2 rfl d_M_soonOr_5 rfl ?_
  obtain ⟨r2, h1, h⟩ := zb1_some h
  refine z_cS C (m_M_pairAt l h1) mf_M_pairAt lk_11_126 st_M_pairAt ⟨rfl, rfl⟩ ⟨by decide, by decide⟩ ⟨Nat.zero_le _, Nat.zero_le _⟩ rfl _ [zr (some 90)] rfl (Nat.le_of_ble_eq_true rfl) d_M_soonOr_6 ?_
  refine z_fact (fun hSR => ?_)
  obtain ⟨g3, h⟩ := zgd_some h
  refine z_ialoadS C zo_90 zk_90 (za_90 hSR) g3 d_M_soonOr_9 ?_
  refine z_ldc C zc_11_177 d_M_soonOr_10 ?_
  rcases zite h with ⟨c4, h⟩ | ⟨c4, h⟩
  · refine z_icmp_ltt C 19 c4 d_M_soonOr_12 (by decide) ?_
    refine z_aload_n C 0 rfl d_M_soonOr_19 rfl ?_
    refine z_getF2 C 11 (by decide) 35 (by decide) rfl 18 81 rfl (90) rfl zp_72 zk_72 zfl_11_77 d_M_soonOr_20 ?_
    refine z_iload_n C 1 rfl d_M_soonOr_23 rfl ?_
    refine z_iload_n C 2 rfl d_M_soonOr_24 rfl ?_
    obtain ⟨r6, h5, h⟩ := zb1_some h
    refine z_cS C (m_M_pairAt l h5) mf_M_pairAt lk_11_126 st_M_pairAt ⟨rfl, rfl⟩ ⟨by decide, by decide⟩ ⟨Nat.zero_le _, Nat.zero_le _⟩ rfl _ [zr (some 90)] rfl (Nat.le_of_ble_eq_true rfl) d_M_soonOr_25 ?_
    refine z_fact (fun hSR => ?_)
    obtain ⟨g7, h⟩ := zgd_some h
    refine z_ialoadS C zo_90 zk_90 (za_90 hSR) g7 d_M_soonOr_28 ?_
    cases h
    exact z_iret C .int hret rfl ⟨Nat.zero_le _, Nat.zero_le _⟩ d_M_soonOr_29
  · refine z_icmp_ltf C 19 c4 d_M_soonOr_12 (by decide) ?_
    refine z_iconst C (-1 : Int32) (by decide) d_M_soonOr_15 ?_
    refine z_goto C 29 d_M_soonOr_16 (by decide) ?_
    cases h
    exact z_iret C .int hret rfl ⟨Nat.zero_le _, Nat.zero_le _⟩ d_M_soonOr_29
def f_M_soon (fu : Nat) (a1 : Int32) (a2 : Int32) (S : zSt) : Option (Int32 × zSt) := zb1 (f_M_isSpring a1 S) (fun r2 => if r2 = 0 then some ((-1 : Int32), S) else zb1 (f_M_isSpring a2 S) (fun r5 => if r5 = 0 then some ((-1 : Int32), S) else zb1 (f_M_laysSoon fu S) (fun S8 => zb1 (f_M_soonOr a1 a2 S8) (fun r10 => some (r10, S8)))))
set_option maxRecDepth 100000 in
set_option maxHeartbeats 4000000 in
theorem m_M_soon (l : Launch) {fu : Nat} {a1 : Int32} {a2 : Int32} {S : zSt} {r : Int32} {S1 : zSt} (h : f_M_soon fu a1 a2 S = some (r, S1)) : zPM l y_M_soon b_M_soon 3 (some .int) rm_M_soon true true [zr (some 72), zi a1, zi a2] S (some (zi r)) S1 := by
  refine zPM_of (by decide) (Nat.le_of_ble_eq_true rfl) (fun p e s m args below meth c G C hret hname => ?_)
  unfold f_M_soon at h
  refine (?_ : zJ p l e rm_M_soon s m args below meth c G true 3 0 0 (zQm below G args s rm_M_soon true (some (zi r)) S1) S 0 [(0, zr (some 72)), (1, zi a1), (2, zi a2)] [])
  refine z_aload_n C 0 rfl d_M_soon_0 rfl ?_
  refine z_iload_n C 1 rfl d_M_soon_1 rfl ?_
  obtain ⟨r2, h1, h⟩ := zb1_some h
  refine z_cV C 11 (by decide) (m_M_isSpring l h1) mf_M_isSpring lk_11_122 in_M_isSpring se_M_isSpring rfl zo_72 zk_72 ⟨rfl, rfl⟩ ⟨by decide, by decide⟩ ⟨Nat.zero_le _, Nat.zero_le _⟩ rfl _ [] rfl (Nat.le_of_ble_eq_true rfl) d_M_soon_2 ?_
  rcases zite h with ⟨c3, h⟩ | ⟨c3, h⟩
  · refine z_if_eqt C 16 c3 d_M_soon_5 (by decide) ?_
    refine z_iconst C (-1 : Int32) (by decide) d_M_soon_16 ?_
    cases h
    exact z_iret C .int hret rfl ⟨Nat.zero_le _, Nat.zero_le _⟩ d_M_soon_17
  · refine z_if_eqf C 16 c3 d_M_soon_5 (by decide) ?_
    refine z_aload_n C 0 rfl d_M_soon_8 rfl ?_
    refine z_iload_n C 2 rfl d_M_soon_9 rfl ?_
    obtain ⟨r5, h4, h⟩ := zb1_some h
    refine z_cV C 11 (by decide) (m_M_isSpring l h4) mf_M_isSpring lk_11_122 in_M_isSpring se_M_isSpring rfl zo_72 zk_72 ⟨rfl, rfl⟩ ⟨by decide, by decide⟩ ⟨Nat.zero_le _, Nat.zero_le _⟩ rfl _ [] rfl (Nat.le_of_ble_eq_true rfl) d_M_soon_10 ?_
    rcases zite h with ⟨c6, h⟩ | ⟨c6, h⟩
    · refine z_if_nef C 18 c6 d_M_soon_13 (by decide) ?_
      refine z_iconst C (-1 : Int32) (by decide) d_M_soon_16 ?_
      cases h
      exact z_iret C .int hret rfl ⟨Nat.zero_le _, Nat.zero_le _⟩ d_M_soon_17
    · refine z_if_net C 18 c6 d_M_soon_13 (by decide) ?_
      refine z_aload_n C 0 rfl d_M_soon_18 rfl ?_
      obtain ⟨S8, h7, h⟩ := zb1_some h
      refine z_cV C 11 (by decide) (m_M_laysSoon l h7) mf_M_laysSoon lk_11_375 in_M_laysSoon se_M_laysSoon rfl zo_72 zk_72 ⟨rfl, rfl⟩ ⟨by decide, by decide⟩ ⟨Nat.zero_le _, Nat.zero_le _⟩ rfl _ [] rfl (Nat.le_of_ble_eq_true rfl) d_M_soon_19 ?_
      refine z_aload_n C 0 rfl d_M_soon_22 rfl ?_
      refine z_iload_n C 1 rfl d_M_soon_23 rfl ?_
      refine z_iload_n C 2 rfl d_M_soon_24 rfl ?_
      obtain ⟨r10, h9, h⟩ := zb1_some h
      refine z_cV C 11 (by decide) (m_M_soonOr l h9) mf_M_soonOr lk_11_378 in_M_soonOr se_M_soonOr rfl zo_72 zk_72 ⟨rfl, rfl⟩ ⟨by decide, by decide⟩ ⟨Nat.zero_le _, Nat.zero_le _⟩ rfl _ [] rfl (Nat.le_of_ble_eq_true rfl) d_M_soon_25 ?_
      cases h
      exact z_iret C .int hret rfl ⟨Nat.zero_le _, Nat.zero_le _⟩ d_M_soon_28
def f_M_nextTo_2 (fu : Nat) : Nat → Int32 → Int32 → Int32 → zSt → Option Int32
  | 0, _, _, _, _ => none
  | n + 1, a1, a2, a3, S => zb1 (f_M_pairAt a1 a3) (fun r2 => zgd (0 ≤ r2 ∧ r2.toNatClampNeg < 81) (if (1000000 : Int32) ≤ (zI S 89 r2.toNatClampNeg) then f_M_nextTo_2 fu n a1 a2 (a3 + (1 : Int32)) S else zb1 (f_M_pairAt a1 a3) (fun r6 => zgd (0 ≤ r6 ∧ r6.toNatClampNeg < 81) (zb1 (f_M_pairAt a3 a2) (fun r9 => zgd (0 ≤ r9 ∧ r9.toNatClampNeg < 81) (zb1 (f_M_pairAt a1 a2) (fun r12 => zgd (0 ≤ r12 ∧ r12.toNatClampNeg < 81) (if ((zI S 89 r6.toNatClampNeg) + (zI S 90 r9.toNatClampNeg)) = (zI S 90 r12.toNatClampNeg) then some a3 else f_M_nextTo_2 fu n a1 a2 (a3 + (1 : Int32)) S))))))))
def f_M_nextTo (fu : Nat) (a1 : Int32) (a2 : Int32) (S : zSt) : Option Int32 := f_M_nextTo_2 fu fu a1 a2 (0 : Int32) S
set_option maxRecDepth 100000 in
set_option maxHeartbeats 4000000 in
theorem c_M_nextTo_2 {p : Program} {l : Launch} {e : Env} {s : State} {m : MethodId} {args : Array Value} {below : List Frame} {meth : Method} {c : Code} {G : zG} (C : zC p s m args meth c G b_M_nextTo 4 y_M_nextTo.cls) (hret : meth.sig.returnType = (some .int)) {fu : Nat} {r : Int32} : ∀ (n : Nat) (a1 : Int32) (a2 : Int32) (a3 : Int32) (S : zSt) , f_M_nextTo_2 fu n a1 a2 a3 S = some r → zJ p l e rm_M_nextTo s m args below meth c G true 4 0 0 (zQm below G args s rm_M_nextTo true (some (zi r)) S) S 2 [(0, zr (some 72)), (1, zi a1), (2, zi a2), (3, zi a3)] [] := by
  intro n
  induction n with
  | zero =>
    intro a1 a2 a3 S h
    cases h
  | succ n ih =>
    intro a1 a2 a3 S h
    rw [f_M_nextTo_2] at h
    refine z_aload_n C 0 rfl d_M_nextTo_2 rfl ?_
    refine z_getF2 C 11 (by decide) 34 (by decide) rfl 17 81 rfl (89) rfl zp_72 zk_72 zfl_11_74 d_M_nextTo_3 ?_
    refine z_iload_n C 1 rfl d_M_nextTo_6 rfl ?_
    refine z_iload_n C 3 rfl d_M_nextTo_7 rfl ?_
    obtain ⟨r2, h1, h⟩ := zb1_some h
    refine z_cS C (m_M_pairAt l h1) mf_M_pairAt lk_11_126 st_M_pairAt ⟨rfl, rfl⟩ ⟨by decide, by decide⟩ ⟨Nat.zero_le _, Nat.zero_le _⟩ rfl _ [zr (some 89)] rfl (Nat.le_of_ble_eq_true rfl) d_M_nextTo_8 ?_
    refine z_fact (fun hSR => ?_)
    obtain ⟨g3, h⟩ := zgd_some h
    refine z_ialoadS C zo_89 zk_89 (za_89 hSR) g3 d_M_nextTo_11 ?_
    refine z_ldc C zc_11_177 d_M_nextTo_12 ?_
    rcases zite h with ⟨c4, h⟩ | ⟨c4, h⟩
    · refine z_icmp_get C 51 c4 d_M_nextTo_14 (by decide) ?_
      refine z_iinc C 3 (a3 + (1 : Int32)) [(3, zi (a3 + (1 : Int32))), (0, zr (some 72)), (1, zi a1), (2, zi a2)] rfl d_M_nextTo_51 (by first | rfl | decide) (by decide) rfl ?_
      refine z_goto C 2 d_M_nextTo_54 (by decide) ?_
      refine zq_lsub [1, 2, 3, 0] [(0, zr (some 72)), (1, zi a1), (2, zi a2), (3, zi (a3 + (1 : Int32)))] rfl ?_
      exact ih a1 a2 (a3 + (1 : Int32)) S h
    · refine z_icmp_gef C 51 c4 d_M_nextTo_14 (by decide) ?_
      refine z_aload_n C 0 rfl d_M_nextTo_17 rfl ?_
      refine z_getF2 C 11 (by decide) 34 (by decide) rfl 17 81 rfl (89) rfl zp_72 zk_72 zfl_11_74 d_M_nextTo_18 ?_
      refine z_iload_n C 1 rfl d_M_nextTo_21 rfl ?_
      refine z_iload_n C 3 rfl d_M_nextTo_22 rfl ?_
      obtain ⟨r6, h5, h⟩ := zb1_some h
      refine z_cS C (m_M_pairAt l h5) mf_M_pairAt lk_11_126 st_M_pairAt ⟨rfl, rfl⟩ ⟨by decide, by decide⟩ ⟨Nat.zero_le _, Nat.zero_le _⟩ rfl _ [zr (some 89)] rfl (Nat.le_of_ble_eq_true rfl) d_M_nextTo_23 ?_
      refine z_fact (fun hSR => ?_)
      obtain ⟨g7, h⟩ := zgd_some h
      refine z_ialoadS C zo_89 zk_89 (za_89 hSR) g7 d_M_nextTo_26 ?_
      refine z_aload_n C 0 rfl d_M_nextTo_27 rfl ?_
      refine z_getF2 C 11 (by decide) 35 (by decide) rfl 18 81 rfl (90) rfl zp_72 zk_72 zfl_11_77 d_M_nextTo_28 ?_
      refine z_iload_n C 3 rfl d_M_nextTo_31 rfl ?_
      refine z_iload_n C 2 rfl d_M_nextTo_32 rfl ?_
      obtain ⟨r9, h8, h⟩ := zb1_some h
      refine z_cS C (m_M_pairAt l h8) mf_M_pairAt lk_11_126 st_M_pairAt ⟨rfl, rfl⟩ ⟨by decide, by decide⟩ ⟨Nat.zero_le _, Nat.zero_le _⟩ rfl _ [zr (some 90), zi (zI S 89 r6.toNatClampNeg)] rfl (Nat.le_of_ble_eq_true rfl) d_M_nextTo_33 ?_
      refine z_fact (fun hSR => ?_)
      obtain ⟨g10, h⟩ := zgd_some h
      refine z_ialoadS C zo_90 zk_90 (za_90 hSR) g10 d_M_nextTo_36 ?_
      refine z_iadd C d_M_nextTo_37 ?_
      refine z_aload_n C 0 rfl d_M_nextTo_38 rfl ?_
      refine z_getF2 C 11 (by decide) 35 (by decide) rfl 18 81 rfl (90) rfl zp_72 zk_72 zfl_11_77 d_M_nextTo_39 ?_
      refine z_iload_n C 1 rfl d_M_nextTo_42 rfl ?_
      refine z_iload_n C 2 rfl d_M_nextTo_43 rfl ?_
      obtain ⟨r12, h11, h⟩ := zb1_some h
      refine z_cS C (m_M_pairAt l h11) mf_M_pairAt lk_11_126 st_M_pairAt ⟨rfl, rfl⟩ ⟨by decide, by decide⟩ ⟨Nat.zero_le _, Nat.zero_le _⟩ rfl _ [zr (some 90), zi ((zI S 89 r6.toNatClampNeg) + (zI S 90 r9.toNatClampNeg))] rfl (Nat.le_of_ble_eq_true rfl) d_M_nextTo_44 ?_
      refine z_fact (fun hSR => ?_)
      obtain ⟨g13, h⟩ := zgd_some h
      refine z_ialoadS C zo_90 zk_90 (za_90 hSR) g13 d_M_nextTo_47 ?_
      rcases zite h with ⟨c14, h⟩ | ⟨c14, h⟩
      · refine z_icmp_eqt C 57 c14 d_M_nextTo_48 (by decide) ?_
        refine z_iload_n C 3 rfl d_M_nextTo_57 rfl ?_
        cases h
        exact z_iret C .int hret rfl ⟨Nat.zero_le _, Nat.zero_le _⟩ d_M_nextTo_58
      · refine z_icmp_eqf C 57 c14 d_M_nextTo_48 (by decide) ?_
        refine z_iinc C 3 (a3 + (1 : Int32)) [(3, zi (a3 + (1 : Int32))), (0, zr (some 72)), (1, zi a1), (2, zi a2)] rfl d_M_nextTo_51 (by first | rfl | decide) (by decide) rfl ?_
        refine z_goto C 2 d_M_nextTo_54 (by decide) ?_
        refine zq_lsub [1, 2, 3, 0] [(0, zr (some 72)), (1, zi a1), (2, zi a2), (3, zi (a3 + (1 : Int32)))] rfl ?_
        exact ih a1 a2 (a3 + (1 : Int32)) S h
set_option maxRecDepth 100000 in
set_option maxHeartbeats 4000000 in
theorem m_M_nextTo (l : Launch) {fu : Nat} {a1 : Int32} {a2 : Int32} {S : zSt} {r : Int32} (h : f_M_nextTo fu a1 a2 S = some r) : zPM l y_M_nextTo b_M_nextTo 4 (some .int) rm_M_nextTo true true [zr (some 72), zi a1, zi a2] S (some (zi r)) S := by
  refine zPM_of (by decide) (Nat.le_of_ble_eq_true rfl) (fun p e s m args below meth c G C hret hname => ?_)
  unfold f_M_nextTo at h
  refine (?_ : zJ p l e rm_M_nextTo s m args below meth c G true 4 0 0 (zQm below G args s rm_M_nextTo true (some (zi r)) S) S 0 [(0, zr (some 72)), (1, zi a1), (2, zi a2)] [])
  refine z_iconst C (0 : Int32) (by decide) d_M_nextTo_0 ?_
  refine z_istore_n C [(3, zi (0 : Int32)), (0, zr (some 72)), (1, zi a1), (2, zi a2)] d_M_nextTo_1 rfl (by decide) rfl ?_
  refine zq_lsub [1, 2, 3, 0] [(0, zr (some 72)), (1, zi a1), (2, zi a2), (3, zi (0 : Int32))] rfl ?_
  exact c_M_nextTo_2 C hret fu  a1 a2 (0 : Int32) S h
def f_M_way_44 (fu : Nat) : Nat → Int32 → Int32 → Int32 → Int32 → zSt → Option (Int32 × zSt)
  | 0, _, _, _, _, _ => none
  | n + 1, a2, a3, a4, a5, S => if a3 ≤ a5 then some (a4, S) else if a4 = a2 then some ((-1 : Int32), S) else zb1 (f_M_nextTo fu a4 a2 S) (fun r4 => f_M_way_44 fu n a2 a3 r4 (a5 + (1 : Int32)) S)
def f_M_way (fu : Nat) (a1 : Int32) (a2 : Int32) (a3 : Int32) (S : zSt) : Option (Int32 × zSt) := zb1 (f_M_isSpring a1 S) (fun r2 => if r2 = 0 then some ((-1 : Int32), S) else zb1 (f_M_isSpring a2 S) (fun r5 => if r5 = 0 then some ((-1 : Int32), S) else if 0 ≤ a3 then zb1 (f_M_laysSoon fu S) (fun S9 => zb1 (f_M_soonOr a1 a2 S9) (fun r11 => if r11 = (-1 : Int32) then some ((-1 : Int32), S9) else f_M_way_44 fu fu a2 a3 a1 (0 : Int32) S9)) else some ((-1 : Int32), S)))
set_option maxRecDepth 100000 in
set_option maxHeartbeats 4000000 in
theorem c_M_way_44 {p : Program} {l : Launch} {e : Env} {s : State} {m : MethodId} {args : Array Value} {below : List Frame} {meth : Method} {c : Code} {G : zG} (C : zC p s m args meth c G b_M_way 6 y_M_way.cls) (hret : meth.sig.returnType = (some .int)) {fu : Nat} {r : Int32} {S1 : zSt} : ∀ (n : Nat) (a2 : Int32) (a3 : Int32) (a4 : Int32) (a5 : Int32) (S : zSt) , f_M_way_44 fu n a2 a3 a4 a5 S = some (r, S1) → zJ p l e rm_M_way s m args below meth c G true 6 0 0 (zQm below G args s rm_M_way true (some (zi r)) S1) S 44 [(0, zr (some 72)), (2, zi a2), (3, zi a3), (4, zi a4), (5, zi a5)] [] := by
  intro n
  induction n with
  | zero =>
    intro a2 a3 a4 a5 S h
    cases h
  | succ n ih =>
    intro a2 a3 a4 a5 S h
    rw [f_M_way_44] at h
    refine z_iload C 4 rfl d_M_way_44 ?_
    refine z_iload_n C 2 rfl d_M_way_46 rfl ?_
    rcases zite h with ⟨c1, h⟩ | ⟨c1, h⟩
    · refine z_icmp_get C 73 c1 d_M_way_47 (by decide) ?_
      refine z_iload C 3 rfl d_M_way_73 ?_
      cases h
      exact z_iret C .int hret rfl ⟨Nat.zero_le _, Nat.zero_le _⟩ d_M_way_75
    · refine z_icmp_gef C 73 c1 d_M_way_47 (by decide) ?_
      refine z_iload C 3 rfl d_M_way_50 ?_
      refine z_iload_n C 1 rfl d_M_way_52 rfl ?_
      rcases zite h with ⟨c2, h⟩ | ⟨c2, h⟩
      · refine z_icmp_nef C 58 c2 d_M_way_53 (by decide) ?_
        refine z_iconst C (-1 : Int32) (by decide) d_M_way_56 ?_
        cases h
        exact z_iret C .int hret rfl ⟨Nat.zero_le _, Nat.zero_le _⟩ d_M_way_57
      · refine z_icmp_net C 58 c2 d_M_way_53 (by decide) ?_
        refine z_aload_n C 0 rfl d_M_way_58 rfl ?_
        refine z_iload C 3 rfl d_M_way_59 ?_
        refine z_iload_n C 1 rfl d_M_way_61 rfl ?_
        obtain ⟨r4, h3, h⟩ := zb1_some h
        refine z_cV C 11 (by decide) (m_M_nextTo l h3) mf_M_nextTo lk_11_381 in_M_nextTo se_M_nextTo rfl zo_72 zk_72 ⟨rfl, rfl⟩ ⟨by decide, by decide⟩ ⟨Nat.zero_le _, Nat.zero_le _⟩ rfl _ [] rfl (Nat.le_of_ble_eq_true rfl) d_M_way_62 ?_
        refine z_istore C [(4, zi r4), (0, zr (some 72)), (2, zi a2), (3, zi a3), (5, zi a5)] d_M_way_65 (by decide) rfl ?_
        refine z_iinc C 4 (a5 + (1 : Int32)) [(5, zi (a5 + (1 : Int32))), (4, zi r4), (0, zr (some 72)), (2, zi a2), (3, zi a3)] rfl d_M_way_67 (by first | rfl | decide) (by decide) rfl ?_
        refine z_goto C 44 d_M_way_70 (by decide) ?_
        refine zq_lsub [2, 3, 4, 1, 0] [(0, zr (some 72)), (2, zi a2), (3, zi a3), (4, zi r4), (5, zi (a5 + (1 : Int32)))] rfl ?_
        exact ih a2 a3 r4 (a5 + (1 : Int32)) S h
set_option maxRecDepth 100000 in
set_option maxHeartbeats 4000000 in
theorem m_M_way (l : Launch) {fu : Nat} {a1 : Int32} {a2 : Int32} {a3 : Int32} {S : zSt} {r : Int32} {S1 : zSt} (h : f_M_way fu a1 a2 a3 S = some (r, S1)) : zPM l y_M_way b_M_way 6 (some .int) rm_M_way true true [zr (some 72), zi a1, zi a2, zi a3] S (some (zi r)) S1 := by
  refine zPM_of (by decide) (Nat.le_of_ble_eq_true rfl) (fun p e s m args below meth c G C hret hname => ?_)
  unfold f_M_way at h
  refine (?_ : zJ p l e rm_M_way s m args below meth c G true 6 0 0 (zQm below G args s rm_M_way true (some (zi r)) S1) S 0 [(0, zr (some 72)), (1, zi a1), (2, zi a2), (3, zi a3)] [])
  refine z_aload_n C 0 rfl d_M_way_0 rfl ?_
  refine z_iload_n C 1 rfl d_M_way_1 rfl ?_
  obtain ⟨r2, h1, h⟩ := zb1_some h
  refine z_cV C 11 (by decide) (m_M_isSpring l h1) mf_M_isSpring lk_11_122 in_M_isSpring se_M_isSpring rfl zo_72 zk_72 ⟨rfl, rfl⟩ ⟨by decide, by decide⟩ ⟨Nat.zero_le _, Nat.zero_le _⟩ rfl _ [] rfl (Nat.le_of_ble_eq_true rfl) d_M_way_2 ?_
  rcases zite h with ⟨c3, h⟩ | ⟨c3, h⟩
  · refine z_if_eqt C 20 c3 d_M_way_5 (by decide) ?_
    refine z_iconst C (-1 : Int32) (by decide) d_M_way_20 ?_
    cases h
    exact z_iret C .int hret rfl ⟨Nat.zero_le _, Nat.zero_le _⟩ d_M_way_21
  · refine z_if_eqf C 20 c3 d_M_way_5 (by decide) ?_
    refine z_aload_n C 0 rfl d_M_way_8 rfl ?_
    refine z_iload_n C 2 rfl d_M_way_9 rfl ?_
    obtain ⟨r5, h4, h⟩ := zb1_some h
    refine z_cV C 11 (by decide) (m_M_isSpring l h4) mf_M_isSpring lk_11_122 in_M_isSpring se_M_isSpring rfl zo_72 zk_72 ⟨rfl, rfl⟩ ⟨by decide, by decide⟩ ⟨Nat.zero_le _, Nat.zero_le _⟩ rfl _ [] rfl (Nat.le_of_ble_eq_true rfl) d_M_way_10 ?_
    rcases zite h with ⟨c6, h⟩ | ⟨c6, h⟩
    · refine z_if_eqt C 20 c6 d_M_way_13 (by decide) ?_
      refine z_iconst C (-1 : Int32) (by decide) d_M_way_20 ?_
      cases h
      exact z_iret C .int hret rfl ⟨Nat.zero_le _, Nat.zero_le _⟩ d_M_way_21
    · refine z_if_eqf C 20 c6 d_M_way_13 (by decide) ?_
      refine z_iload_n C 3 rfl d_M_way_16 rfl ?_
      rcases zite h with ⟨c7, h⟩ | ⟨c7, h⟩
      · refine z_if_get C 22 c7 d_M_way_17 (by decide) ?_
        refine z_aload_n C 0 rfl d_M_way_22 rfl ?_
        obtain ⟨S9, h8, h⟩ := zb1_some h
        refine z_cV C 11 (by decide) (m_M_laysSoon l h8) mf_M_laysSoon lk_11_375 in_M_laysSoon se_M_laysSoon rfl zo_72 zk_72 ⟨rfl, rfl⟩ ⟨by decide, by decide⟩ ⟨Nat.zero_le _, Nat.zero_le _⟩ rfl _ [] rfl (Nat.le_of_ble_eq_true rfl) d_M_way_23 ?_
        refine z_aload_n C 0 rfl d_M_way_26 rfl ?_
        refine z_iload_n C 1 rfl d_M_way_27 rfl ?_
        refine z_iload_n C 2 rfl d_M_way_28 rfl ?_
        obtain ⟨r11, h10, h⟩ := zb1_some h
        refine z_cV C 11 (by decide) (m_M_soonOr l h10) mf_M_soonOr lk_11_378 in_M_soonOr se_M_soonOr rfl zo_72 zk_72 ⟨rfl, rfl⟩ ⟨by decide, by decide⟩ ⟨Nat.zero_le _, Nat.zero_le _⟩ rfl _ [] rfl (Nat.le_of_ble_eq_true rfl) d_M_way_29 ?_
        refine z_iconst C (-1 : Int32) (by decide) d_M_way_32 ?_
        rcases zite h with ⟨c12, h⟩ | ⟨c12, h⟩
        · refine z_icmp_nef C 38 c12 d_M_way_33 (by decide) ?_
          refine z_iconst C (-1 : Int32) (by decide) d_M_way_36 ?_
          cases h
          exact z_iret C .int hret rfl ⟨Nat.zero_le _, Nat.zero_le _⟩ d_M_way_37
        · refine z_icmp_net C 38 c12 d_M_way_33 (by decide) ?_
          refine z_iload_n C 1 rfl d_M_way_38 rfl ?_
          refine z_istore C [(4, zi a1), (0, zr (some 72)), (1, zi a1), (2, zi a2), (3, zi a3)] d_M_way_39 (by decide) rfl ?_
          refine z_iconst C (0 : Int32) (by decide) d_M_way_41 ?_
          refine z_istore C [(5, zi (0 : Int32)), (4, zi a1), (0, zr (some 72)), (1, zi a1), (2, zi a2), (3, zi a3)] d_M_way_42 (by decide) rfl ?_
          refine zq_lsub [2, 4, 5, 1, 0] [(0, zr (some 72)), (2, zi a2), (3, zi a3), (4, zi a1), (5, zi (0 : Int32))] rfl ?_
          exact c_M_way_44 C hret fu  a2 a3 a1 (0 : Int32) S9 h
      · refine z_if_gef C 22 c7 d_M_way_17 (by decide) ?_
        refine z_iconst C (-1 : Int32) (by decide) d_M_way_20 ?_
        cases h
        exact z_iret C .int hret rfl ⟨Nat.zero_le _, Nat.zero_le _⟩ d_M_way_21
def f_M_never_18 (fu : Nat) : Nat → Int32 → Int32 → Int32 → zSt → Option (Int32 × zSt)
  | 0, _, _, _, _ => none
  | n + 1, a1, a2, a3, S => zb1 (f_M_springMany S) (fun r2 => if r2 ≤ a3 then some (a2, S) else zb1 (f_M_soonOr a1 a3 S) (fun r5 => if r5 = (-1 : Int32) then f_M_never_18 fu n a1 (a2 ||| ((1 : Int32) <<< (a3 &&& 31))) (a3 + (1 : Int32)) S else f_M_never_18 fu n a1 (a2 ||| (0 : Int32)) (a3 + (1 : Int32)) S))
def f_M_never (fu : Nat) (a1 : Int32) (S : zSt) : Option (Int32 × zSt) := zb1 (f_M_isSpring a1 S) (fun r2 => if r2 = 0 then some ((-1 : Int32), S) else zb1 (f_M_laysSoon fu S) (fun S5 => f_M_never_18 fu fu a1 (0 : Int32) (0 : Int32) S5))
set_option maxRecDepth 100000 in
set_option maxHeartbeats 4000000 in
theorem c_M_never_18 {p : Program} {l : Launch} {e : Env} {s : State} {m : MethodId} {args : Array Value} {below : List Frame} {meth : Method} {c : Code} {G : zG} (C : zC p s m args meth c G b_M_never 4 y_M_never.cls) (hret : meth.sig.returnType = (some .int)) {fu : Nat} {r : Int32} {S1 : zSt} : ∀ (n : Nat) (a1 : Int32) (a2 : Int32) (a3 : Int32) (S : zSt) , f_M_never_18 fu n a1 a2 a3 S = some (r, S1) → zJ p l e rm_M_never s m args below meth c G true 4 0 0 (zQm below G args s rm_M_never true (some (zi r)) S1) S 18 [(0, zr (some 72)), (1, zi a1), (2, zi a2), (3, zi a3)] [] := by
  intro n
  induction n with
  | zero =>
    intro a1 a2 a3 S h
    cases h
  | succ n ih =>
    intro a1 a2 a3 S h
    rw [f_M_never_18] at h
    refine z_iload_n C 3 rfl d_M_never_18 rfl ?_
    refine z_aload_n C 0 rfl d_M_never_19 rfl ?_
    obtain ⟨r2, h1, h⟩ := zb1_some h
    refine z_cV C 11 (by decide) (m_M_springMany l h1) mf_M_springMany lk_11_118 in_M_springMany se_M_springMany rfl zo_72 zk_72 ⟨rfl, rfl⟩ ⟨by decide, by decide⟩ ⟨Nat.zero_le _, Nat.zero_le _⟩ rfl _ [zi a3] rfl (Nat.le_of_ble_eq_true rfl) d_M_never_20 ?_
    rcases zite h with ⟨c3, h⟩ | ⟨c3, h⟩
    · refine z_icmp_get C 52 c3 d_M_never_23 (by decide) ?_
      refine z_iload_n C 2 rfl d_M_never_52 rfl ?_
      cases h
      exact z_iret C .int hret rfl ⟨Nat.zero_le _, Nat.zero_le _⟩ d_M_never_53
    · refine z_icmp_gef C 52 c3 d_M_never_23 (by decide) ?_
      refine z_iload_n C 2 rfl d_M_never_26 rfl ?_
      refine z_aload_n C 0 rfl d_M_never_27 rfl ?_
      refine z_iload_n C 1 rfl d_M_never_28 rfl ?_
      refine z_iload_n C 3 rfl d_M_never_29 rfl ?_
      obtain ⟨r5, h4, h⟩ := zb1_some h
      refine z_cV C 11 (by decide) (m_M_soonOr l h4) mf_M_soonOr lk_11_378 in_M_soonOr se_M_soonOr rfl zo_72 zk_72 ⟨rfl, rfl⟩ ⟨by decide, by decide⟩ ⟨Nat.zero_le _, Nat.zero_le _⟩ rfl _ [zi a2] rfl (Nat.le_of_ble_eq_true rfl) d_M_never_30 ?_
      refine z_iconst C (-1 : Int32) (by decide) d_M_never_33 ?_
      rcases zite h with ⟨c6, h⟩ | ⟨c6, h⟩
      · refine z_icmp_nef C 43 c6 d_M_never_34 (by decide) ?_
        refine z_iconst C (1 : Int32) (by decide) d_M_never_37 ?_
        refine z_iload_n C 3 rfl d_M_never_38 rfl ?_
        refine z_ishl C d_M_never_39 ?_
        refine z_goto C 44 d_M_never_40 (by decide) ?_
        refine z_ior C d_M_never_44 ?_
        refine z_istore_n C [(2, zi (a2 ||| ((1 : Int32) <<< (a3 &&& 31)))), (0, zr (some 72)), (1, zi a1), (3, zi a3)] d_M_never_45 rfl (by decide) rfl ?_
        refine z_iinc C 3 (a3 + (1 : Int32)) [(3, zi (a3 + (1 : Int32))), (2, zi (a2 ||| ((1 : Int32) <<< (a3 &&& 31)))), (0, zr (some 72)), (1, zi a1)] rfl d_M_never_46 (by first | rfl | decide) (by decide) rfl ?_
        refine z_goto C 18 d_M_never_49 (by decide) ?_
        refine zq_lsub [2, 3, 1, 0] [(0, zr (some 72)), (1, zi a1), (2, zi (a2 ||| ((1 : Int32) <<< (a3 &&& 31)))), (3, zi (a3 + (1 : Int32)))] rfl ?_
        exact ih a1 (a2 ||| ((1 : Int32) <<< (a3 &&& 31))) (a3 + (1 : Int32)) S h
      · refine z_icmp_net C 43 c6 d_M_never_34 (by decide) ?_
        refine z_iconst C (0 : Int32) (by decide) d_M_never_43 ?_
        refine z_ior C d_M_never_44 ?_
        refine z_istore_n C [(2, zi (a2 ||| (0 : Int32))), (0, zr (some 72)), (1, zi a1), (3, zi a3)] d_M_never_45 rfl (by decide) rfl ?_
        refine z_iinc C 3 (a3 + (1 : Int32)) [(3, zi (a3 + (1 : Int32))), (2, zi (a2 ||| (0 : Int32))), (0, zr (some 72)), (1, zi a1)] rfl d_M_never_46 (by first | rfl | decide) (by decide) rfl ?_
        refine z_goto C 18 d_M_never_49 (by decide) ?_
        refine zq_lsub [2, 3, 1, 0] [(0, zr (some 72)), (1, zi a1), (2, zi (a2 ||| (0 : Int32))), (3, zi (a3 + (1 : Int32)))] rfl ?_
        exact ih a1 (a2 ||| (0 : Int32)) (a3 + (1 : Int32)) S h
set_option maxRecDepth 100000 in
set_option maxHeartbeats 4000000 in
theorem m_M_never (l : Launch) {fu : Nat} {a1 : Int32} {S : zSt} {r : Int32} {S1 : zSt} (h : f_M_never fu a1 S = some (r, S1)) : zPM l y_M_never b_M_never 4 (some .int) rm_M_never true true [zr (some 72), zi a1] S (some (zi r)) S1 := by
  refine zPM_of (by decide) (Nat.le_of_ble_eq_true rfl) (fun p e s m args below meth c G C hret hname => ?_)
  unfold f_M_never at h
  refine (?_ : zJ p l e rm_M_never s m args below meth c G true 4 0 0 (zQm below G args s rm_M_never true (some (zi r)) S1) S 0 [(0, zr (some 72)), (1, zi a1)] [])
  refine z_aload_n C 0 rfl d_M_never_0 rfl ?_
  refine z_iload_n C 1 rfl d_M_never_1 rfl ?_
  obtain ⟨r2, h1, h⟩ := zb1_some h
  refine z_cV C 11 (by decide) (m_M_isSpring l h1) mf_M_isSpring lk_11_122 in_M_isSpring se_M_isSpring rfl zo_72 zk_72 ⟨rfl, rfl⟩ ⟨by decide, by decide⟩ ⟨Nat.zero_le _, Nat.zero_le _⟩ rfl _ [] rfl (Nat.le_of_ble_eq_true rfl) d_M_never_2 ?_
  rcases zite h with ⟨c3, h⟩ | ⟨c3, h⟩
  · refine z_if_nef C 10 c3 d_M_never_5 (by decide) ?_
    refine z_iconst C (-1 : Int32) (by decide) d_M_never_8 ?_
    cases h
    exact z_iret C .int hret rfl ⟨Nat.zero_le _, Nat.zero_le _⟩ d_M_never_9
  · refine z_if_net C 10 c3 d_M_never_5 (by decide) ?_
    refine z_aload_n C 0 rfl d_M_never_10 rfl ?_
    obtain ⟨S5, h4, h⟩ := zb1_some h
    refine z_cV C 11 (by decide) (m_M_laysSoon l h4) mf_M_laysSoon lk_11_375 in_M_laysSoon se_M_laysSoon rfl zo_72 zk_72 ⟨rfl, rfl⟩ ⟨by decide, by decide⟩ ⟨Nat.zero_le _, Nat.zero_le _⟩ rfl _ [] rfl (Nat.le_of_ble_eq_true rfl) d_M_never_11 ?_
    refine z_iconst C (0 : Int32) (by decide) d_M_never_14 ?_
    refine z_istore_n C [(2, zi (0 : Int32)), (0, zr (some 72)), (1, zi a1)] d_M_never_15 rfl (by decide) rfl ?_
    refine z_iconst C (0 : Int32) (by decide) d_M_never_16 ?_
    refine z_istore_n C [(3, zi (0 : Int32)), (2, zi (0 : Int32)), (0, zr (some 72)), (1, zi a1)] d_M_never_17 rfl (by decide) rfl ?_
    refine zq_lsub [2, 3, 1, 0] [(0, zr (some 72)), (1, zi a1), (2, zi (0 : Int32)), (3, zi (0 : Int32))] rfl ?_
    exact c_M_never_18 C hret fu  a1 (0 : Int32) (0 : Int32) S5 h
def f_M_greater (a0 : Int32) (a1 : Int32) : Option Int32 := if a0 ≤ a1 then some a1 else some a0
set_option maxRecDepth 100000 in
set_option maxHeartbeats 4000000 in
theorem m_M_greater (l : Launch) {a0 : Int32} {a1 : Int32} {S : zSt} {r : Int32} (h : f_M_greater a0 a1 = some r) : zPM l y_M_greater b_M_greater 2 (some .int) rm_M_greater true true [zi a0, zi a1] S (some (zi r)) S := by
  refine zPM_of (by decide) (Nat.le_of_ble_eq_true rfl) (fun p e s m args below meth c G C hret hname => ?_)
  unfold f_M_greater at h
  refine (?_ : zJ p l e rm_M_greater s m args below meth c G true 2 0 0 (zQm below G args s rm_M_greater true (some (zi r)) S) S 0 [(0, zi a0), (1, zi a1)] [])
  refine z_iload_n C 0 rfl d_M_greater_0 rfl ?_
  refine z_iload_n C 1 rfl d_M_greater_1 rfl ?_
  rcases zite h with ⟨c1, h⟩ | ⟨c1, h⟩
  · refine z_icmp_let C 9 c1 d_M_greater_2 (by decide) ?_
    refine z_iload_n C 1 rfl d_M_greater_9 rfl ?_
    cases h
    exact z_iret C .int hret rfl ⟨Nat.zero_le _, Nat.zero_le _⟩ d_M_greater_10
  · refine z_icmp_lef C 9 c1 d_M_greater_2 (by decide) ?_
    refine z_iload_n C 0 rfl d_M_greater_5 rfl ?_
    refine z_goto C 10 d_M_greater_6 (by decide) ?_
    cases h
    exact z_iret C .int hret rfl ⟨Nat.zero_le _, Nat.zero_le _⟩ d_M_greater_10
def f_M_centre_72 (fu : Nat) (k23 : Int32 → Int32 → Int32 → Int32 → zSt → Option (Int32 × zSt)) (a1 : Int32) (a2 : Int32) (a3 : Int32) (a4 : Int32) (a5 : Int32) (S : zSt) : Option (Int32 × zSt) := if a5 < a3 then k23 a1 a4 a5 (a4 + (1 : Int32)) S else k23 a1 a2 a3 (a4 + (1 : Int32)) S
def f_M_centre_38 (fu : Nat) (k23 : Int32 → Int32 → Int32 → Int32 → zSt → Option (Int32 × zSt)) : Nat → Int32 → Int32 → Int32 → Int32 → Int32 → Int32 → zSt → Option (Int32 × zSt)
  | 0, _, _, _, _, _, _, _ => none
  | n + 1, a1, a2, a3, a4, a5, a6, S => zb1 (f_M_springMany S) (fun r2 => if r2 ≤ a6 then f_M_centre_72 fu k23 a1 a2 a3 a4 a5 S else zb1 (f_M_pairAt a4 a6) (fun r5 => zgd (0 ≤ r5 ∧ r5.toNatClampNeg < 81) (zb1 (f_M_greater a5 (zI S 90 r5.toNatClampNeg)) (fun r8 => f_M_centre_38 fu k23 n a1 a2 a3 a4 r8 (a6 + (1 : Int32)) S))))
def f_M_centre_93 (fu : Nat) (a1 : Int32) (a2 : Int32) (a3 : Int32) (S : zSt) : Option (Int32 × zSt) := if a2 = (-1 : Int32) then some (a2, S) else if a1 = 0 then some (a2, S) else some (a3, S)
def f_M_centre_23 (fu : Nat) : Nat → Int32 → Int32 → Int32 → Int32 → zSt → Option (Int32 × zSt)
  | 0, _, _, _, _, _ => none
  | n + 1, a1, a2, a3, a4, S => zb1 (f_M_springMany S) (fun r2 => if r2 ≤ a4 then f_M_centre_93 fu a1 a2 a3 S else f_M_centre_38 fu (f_M_centre_23 fu n) fu a1 a2 a3 a4 (0 : Int32) (0 : Int32) S)
def f_M_centre (fu : Nat) (a1 : Int32) (S : zSt) : Option (Int32 × zSt) := zb1 (f_M_lies a1 (0 : Int32) (1 : Int32)) (fun r2 => if r2 = 0 then some ((-1 : Int32), S) else zb1 (f_M_laysSoon fu S) (fun S5 => f_M_centre_23 fu fu a1 (-1 : Int32) (1000000 : Int32) (0 : Int32) S5))
set_option maxRecDepth 100000 in
set_option maxHeartbeats 4000000 in
theorem c_M_centre_72 {p : Program} {l : Launch} {e : Env} {s : State} {m : MethodId} {args : Array Value} {below : List Frame} {meth : Method} {c : Code} {G : zG} (C : zC p s m args meth c G b_M_centre 7 y_M_centre.cls) (hret : meth.sig.returnType = (some .int)) {fu : Nat} {r : Int32} {S1 : zSt} {k23 : Int32 → Int32 → Int32 → Int32 → zSt → Option (Int32 × zSt)} (hk23 : ∀ (a1 : Int32) (a2 : Int32) (a3 : Int32) (a4 : Int32) (S : zSt) , k23 a1 a2 a3 a4 S = some (r, S1) → zJ p l e rm_M_centre s m args below meth c G true 7 0 0 (zQm below G args s rm_M_centre true (some (zi r)) S1) S 23 [(0, zr (some 72)), (1, zi a1), (2, zi a2), (3, zi a3), (4, zi a4)] []) : ∀ (a1 : Int32) (a2 : Int32) (a3 : Int32) (a4 : Int32) (a5 : Int32) (S : zSt) , f_M_centre_72 fu k23 a1 a2 a3 a4 a5 S = some (r, S1) → zJ p l e rm_M_centre s m args below meth c G true 7 0 0 (zQm below G args s rm_M_centre true (some (zi r)) S1) S 72 [(0, zr (some 72)), (1, zi a1), (2, zi a2), (3, zi a3), (4, zi a4), (5, zi a5)] [] := by
  intro a1 a2 a3 a4 a5 S h
  unfold f_M_centre_72 at h
  refine z_iload C 5 rfl d_M_centre_72 ?_
  refine z_iload_n C 3 rfl d_M_centre_74 rfl ?_
  rcases zite h with ⟨c1, h⟩ | ⟨c1, h⟩
  · refine z_icmp_ltt C 81 c1 d_M_centre_75 (by decide) ?_
    refine z_iload C 5 rfl d_M_centre_81 ?_
    refine z_istore_n C [(3, zi a5), (0, zr (some 72)), (1, zi a1), (2, zi a2), (4, zi a4), (5, zi a5)] d_M_centre_83 rfl (by decide) rfl ?_
    refine z_iload C 4 rfl d_M_centre_84 ?_
    refine z_istore_n C [(2, zi a4), (3, zi a5), (0, zr (some 72)), (1, zi a1), (4, zi a4), (5, zi a5)] d_M_centre_86 rfl (by decide) rfl ?_
    refine z_iinc C 4 (a4 + (1 : Int32)) [(4, zi (a4 + (1 : Int32))), (2, zi a4), (3, zi a5), (0, zr (some 72)), (1, zi a1), (5, zi a5)] rfl d_M_centre_87 (by first | rfl | decide) (by decide) rfl ?_
    refine z_goto C 23 d_M_centre_90 (by decide) ?_
    refine zq_lsub [3, 4, 1, 2, 0] [(0, zr (some 72)), (1, zi a1), (2, zi a4), (3, zi a5), (4, zi (a4 + (1 : Int32)))] rfl ?_
    exact hk23 a1 a4 a5 (a4 + (1 : Int32)) S h
  · refine z_icmp_ltf C 81 c1 d_M_centre_75 (by decide) ?_
    refine z_goto C 87 d_M_centre_78 (by decide) ?_
    refine z_iinc C 4 (a4 + (1 : Int32)) [(4, zi (a4 + (1 : Int32))), (0, zr (some 72)), (1, zi a1), (2, zi a2), (3, zi a3), (5, zi a5)] rfl d_M_centre_87 (by first | rfl | decide) (by decide) rfl ?_
    refine z_goto C 23 d_M_centre_90 (by decide) ?_
    refine zq_lsub [1, 2, 3, 4, 0] [(0, zr (some 72)), (1, zi a1), (2, zi a2), (3, zi a3), (4, zi (a4 + (1 : Int32)))] rfl ?_
    exact hk23 a1 a2 a3 (a4 + (1 : Int32)) S h
set_option maxRecDepth 100000 in
set_option maxHeartbeats 4000000 in
theorem c_M_centre_38 {p : Program} {l : Launch} {e : Env} {s : State} {m : MethodId} {args : Array Value} {below : List Frame} {meth : Method} {c : Code} {G : zG} (C : zC p s m args meth c G b_M_centre 7 y_M_centre.cls) (hret : meth.sig.returnType = (some .int)) {fu : Nat} {r : Int32} {S1 : zSt} {k23 : Int32 → Int32 → Int32 → Int32 → zSt → Option (Int32 × zSt)} (hk23 : ∀ (a1 : Int32) (a2 : Int32) (a3 : Int32) (a4 : Int32) (S : zSt) , k23 a1 a2 a3 a4 S = some (r, S1) → zJ p l e rm_M_centre s m args below meth c G true 7 0 0 (zQm below G args s rm_M_centre true (some (zi r)) S1) S 23 [(0, zr (some 72)), (1, zi a1), (2, zi a2), (3, zi a3), (4, zi a4)] []) : ∀ (n : Nat) (a1 : Int32) (a2 : Int32) (a3 : Int32) (a4 : Int32) (a5 : Int32) (a6 : Int32) (S : zSt) , f_M_centre_38 fu k23 n a1 a2 a3 a4 a5 a6 S = some (r, S1) → zJ p l e rm_M_centre s m args below meth c G true 7 0 0 (zQm below G args s rm_M_centre true (some (zi r)) S1) S 38 [(0, zr (some 72)), (1, zi a1), (2, zi a2), (3, zi a3), (4, zi a4), (5, zi a5), (6, zi a6)] [] := by
  intro n
  induction n with
  | zero =>
    intro a1 a2 a3 a4 a5 a6 S h
    cases h
  | succ n ih =>
    intro a1 a2 a3 a4 a5 a6 S h
    rw [f_M_centre_38] at h
    refine z_iload C 6 rfl d_M_centre_38 ?_
    refine z_aload_n C 0 rfl d_M_centre_40 rfl ?_
    obtain ⟨r2, h1, h⟩ := zb1_some h
    refine z_cV C 11 (by decide) (m_M_springMany l h1) mf_M_springMany lk_11_118 in_M_springMany se_M_springMany rfl zo_72 zk_72 ⟨rfl, rfl⟩ ⟨by decide, by decide⟩ ⟨Nat.zero_le _, Nat.zero_le _⟩ rfl _ [zi a6] rfl (Nat.le_of_ble_eq_true rfl) d_M_centre_41 ?_
    rcases zite h with ⟨c3, h⟩ | ⟨c3, h⟩
    · refine z_icmp_get C 72 c3 d_M_centre_44 (by decide) ?_
      refine zq_lsub [0, 1, 2, 3, 4, 5] [(0, zr (some 72)), (1, zi a1), (2, zi a2), (3, zi a3), (4, zi a4), (5, zi a5)] rfl ?_
      exact c_M_centre_72 C hret hk23  a1 a2 a3 a4 a5 S h
    · refine z_icmp_gef C 72 c3 d_M_centre_44 (by decide) ?_
      refine z_iload C 5 rfl d_M_centre_47 ?_
      refine z_aload_n C 0 rfl d_M_centre_49 rfl ?_
      refine z_getF2 C 11 (by decide) 35 (by decide) rfl 18 81 rfl (90) rfl zp_72 zk_72 zfl_11_77 d_M_centre_50 ?_
      refine z_iload C 4 rfl d_M_centre_53 ?_
      refine z_iload C 6 rfl d_M_centre_55 ?_
      obtain ⟨r5, h4, h⟩ := zb1_some h
      refine z_cS C (m_M_pairAt l h4) mf_M_pairAt lk_11_126 st_M_pairAt ⟨rfl, rfl⟩ ⟨by decide, by decide⟩ ⟨Nat.zero_le _, Nat.zero_le _⟩ rfl _ [zr (some 90), zi a5] rfl (Nat.le_of_ble_eq_true rfl) d_M_centre_57 ?_
      refine z_fact (fun hSR => ?_)
      obtain ⟨g6, h⟩ := zgd_some h
      refine z_ialoadS C zo_90 zk_90 (za_90 hSR) g6 d_M_centre_60 ?_
      obtain ⟨r8, h7, h⟩ := zb1_some h
      refine z_cS C (m_M_greater l h7) mf_M_greater lk_11_384 st_M_greater ⟨rfl, rfl⟩ ⟨by decide, by decide⟩ ⟨Nat.zero_le _, Nat.zero_le _⟩ rfl _ [] rfl (Nat.le_of_ble_eq_true rfl) d_M_centre_61 ?_
      refine z_istore C [(5, zi r8), (0, zr (some 72)), (1, zi a1), (2, zi a2), (3, zi a3), (4, zi a4), (6, zi a6)] d_M_centre_64 (by decide) rfl ?_
      refine z_iinc C 6 (a6 + (1 : Int32)) [(6, zi (a6 + (1 : Int32))), (5, zi r8), (0, zr (some 72)), (1, zi a1), (2, zi a2), (3, zi a3), (4, zi a4)] rfl d_M_centre_66 (by first | rfl | decide) (by decide) rfl ?_
      refine z_goto C 38 d_M_centre_69 (by decide) ?_
      refine zq_lsub [2, 3, 4, 5, 6, 1, 0] [(0, zr (some 72)), (1, zi a1), (2, zi a2), (3, zi a3), (4, zi a4), (5, zi r8), (6, zi (a6 + (1 : Int32)))] rfl ?_
      exact ih a1 a2 a3 a4 r8 (a6 + (1 : Int32)) S h
set_option maxRecDepth 100000 in
set_option maxHeartbeats 4000000 in
theorem c_M_centre_93 {p : Program} {l : Launch} {e : Env} {s : State} {m : MethodId} {args : Array Value} {below : List Frame} {meth : Method} {c : Code} {G : zG} (C : zC p s m args meth c G b_M_centre 7 y_M_centre.cls) (hret : meth.sig.returnType = (some .int)) {fu : Nat} {r : Int32} {S1 : zSt} : ∀ (a1 : Int32) (a2 : Int32) (a3 : Int32) (S : zSt) , f_M_centre_93 fu a1 a2 a3 S = some (r, S1) → zJ p l e rm_M_centre s m args below meth c G true 7 0 0 (zQm below G args s rm_M_centre true (some (zi r)) S1) S 93 [(1, zi a1), (2, zi a2), (3, zi a3)] [] := by
  intro a1 a2 a3 S h
  unfold f_M_centre_93 at h
  refine z_iload_n C 1 rfl d_M_centre_93 rfl ?_
  refine z_iconst C (-1 : Int32) (by decide) d_M_centre_94 ?_
  rcases zite h with ⟨c1, h⟩ | ⟨c1, h⟩
  · refine z_icmp_eqt C 102 c1 d_M_centre_95 (by decide) ?_
    refine z_iload_n C 1 rfl d_M_centre_102 rfl ?_
    refine z_goto C 107 d_M_centre_103 (by decide) ?_
    cases h
    exact z_iret C .int hret rfl ⟨Nat.zero_le _, Nat.zero_le _⟩ d_M_centre_107
  · refine z_icmp_eqf C 102 c1 d_M_centre_95 (by decide) ?_
    refine z_iload_n C 0 rfl d_M_centre_98 rfl ?_
    rcases zite h with ⟨c2, h⟩ | ⟨c2, h⟩
    · refine z_if_nef C 106 c2 d_M_centre_99 (by decide) ?_
      refine z_iload_n C 1 rfl d_M_centre_102 rfl ?_
      refine z_goto C 107 d_M_centre_103 (by decide) ?_
      cases h
      exact z_iret C .int hret rfl ⟨Nat.zero_le _, Nat.zero_le _⟩ d_M_centre_107
    · refine z_if_net C 106 c2 d_M_centre_99 (by decide) ?_
      refine z_iload_n C 2 rfl d_M_centre_106 rfl ?_
      cases h
      exact z_iret C .int hret rfl ⟨Nat.zero_le _, Nat.zero_le _⟩ d_M_centre_107
set_option maxRecDepth 100000 in
set_option maxHeartbeats 4000000 in
theorem c_M_centre_23 {p : Program} {l : Launch} {e : Env} {s : State} {m : MethodId} {args : Array Value} {below : List Frame} {meth : Method} {c : Code} {G : zG} (C : zC p s m args meth c G b_M_centre 7 y_M_centre.cls) (hret : meth.sig.returnType = (some .int)) {fu : Nat} {r : Int32} {S1 : zSt} : ∀ (n : Nat) (a1 : Int32) (a2 : Int32) (a3 : Int32) (a4 : Int32) (S : zSt) , f_M_centre_23 fu n a1 a2 a3 a4 S = some (r, S1) → zJ p l e rm_M_centre s m args below meth c G true 7 0 0 (zQm below G args s rm_M_centre true (some (zi r)) S1) S 23 [(0, zr (some 72)), (1, zi a1), (2, zi a2), (3, zi a3), (4, zi a4)] [] := by
  intro n
  induction n with
  | zero =>
    intro a1 a2 a3 a4 S h
    cases h
  | succ n ih =>
    intro a1 a2 a3 a4 S h
    rw [f_M_centre_23] at h
    refine z_iload C 4 rfl d_M_centre_23 ?_
    refine z_aload_n C 0 rfl d_M_centre_25 rfl ?_
    obtain ⟨r2, h1, h⟩ := zb1_some h
    refine z_cV C 11 (by decide) (m_M_springMany l h1) mf_M_springMany lk_11_118 in_M_springMany se_M_springMany rfl zo_72 zk_72 ⟨rfl, rfl⟩ ⟨by decide, by decide⟩ ⟨Nat.zero_le _, Nat.zero_le _⟩ rfl _ [zi a4] rfl (Nat.le_of_ble_eq_true rfl) d_M_centre_26 ?_
    rcases zite h with ⟨c3, h⟩ | ⟨c3, h⟩
    · refine z_icmp_get C 93 c3 d_M_centre_29 (by decide) ?_
      refine zq_lsub [1, 2, 3] [(1, zi a1), (2, zi a2), (3, zi a3)] rfl ?_
      exact c_M_centre_93 C hret  a1 a2 a3 S h
    · refine z_icmp_gef C 93 c3 d_M_centre_29 (by decide) ?_
      refine z_iconst C (0 : Int32) (by decide) d_M_centre_32 ?_
      refine z_istore C [(5, zi (0 : Int32)), (0, zr (some 72)), (1, zi a1), (2, zi a2), (3, zi a3), (4, zi a4)] d_M_centre_33 (by decide) rfl ?_
      refine z_iconst C (0 : Int32) (by decide) d_M_centre_35 ?_
      refine z_istore C [(6, zi (0 : Int32)), (5, zi (0 : Int32)), (0, zr (some 72)), (1, zi a1), (2, zi a2), (3, zi a3), (4, zi a4)] d_M_centre_36 (by decide) rfl ?_
      refine zq_lsub [2, 3, 4, 5, 6, 1, 0] [(0, zr (some 72)), (1, zi a1), (2, zi a2), (3, zi a3), (4, zi a4), (5, zi (0 : Int32)), (6, zi (0 : Int32))] rfl ?_
      exact c_M_centre_38 C hret (fun z0 z1 z2 z3 zS zh => ih z0 z1 z2 z3 zS zh) fu  a1 a2 a3 a4 (0 : Int32) (0 : Int32) S h
set_option maxRecDepth 100000 in
set_option maxHeartbeats 4000000 in
theorem m_M_centre (l : Launch) {fu : Nat} {a1 : Int32} {S : zSt} {r : Int32} {S1 : zSt} (h : f_M_centre fu a1 S = some (r, S1)) : zPM l y_M_centre b_M_centre 7 (some .int) rm_M_centre true true [zr (some 72), zi a1] S (some (zi r)) S1 := by
  refine zPM_of (by decide) (Nat.le_of_ble_eq_true rfl) (fun p e s m args below meth c G C hret hname => ?_)
  unfold f_M_centre at h
  refine (?_ : zJ p l e rm_M_centre s m args below meth c G true 7 0 0 (zQm below G args s rm_M_centre true (some (zi r)) S1) S 0 [(0, zr (some 72)), (1, zi a1)] [])
  refine z_iload_n C 1 rfl d_M_centre_0 rfl ?_
  refine z_iconst C (0 : Int32) (by decide) d_M_centre_1 ?_
  refine z_iconst C (1 : Int32) (by decide) d_M_centre_2 ?_
  obtain ⟨r2, h1, h⟩ := zb1_some h
  refine z_cS C (m_M_lies l h1) mf_M_lies lk_11_108 st_M_lies ⟨rfl, rfl⟩ ⟨by decide, by decide⟩ ⟨Nat.zero_le _, Nat.zero_le _⟩ rfl _ [] rfl (Nat.le_of_ble_eq_true rfl) d_M_centre_3 ?_
  rcases zite h with ⟨c3, h⟩ | ⟨c3, h⟩
  · refine z_if_nef C 11 c3 d_M_centre_6 (by decide) ?_
    refine z_iconst C (-1 : Int32) (by decide) d_M_centre_9 ?_
    cases h
    exact z_iret C .int hret rfl ⟨Nat.zero_le _, Nat.zero_le _⟩ d_M_centre_10
  · refine z_if_net C 11 c3 d_M_centre_6 (by decide) ?_
    refine z_aload_n C 0 rfl d_M_centre_11 rfl ?_
    obtain ⟨S5, h4, h⟩ := zb1_some h
    refine z_cV C 11 (by decide) (m_M_laysSoon l h4) mf_M_laysSoon lk_11_375 in_M_laysSoon se_M_laysSoon rfl zo_72 zk_72 ⟨rfl, rfl⟩ ⟨by decide, by decide⟩ ⟨Nat.zero_le _, Nat.zero_le _⟩ rfl _ [] rfl (Nat.le_of_ble_eq_true rfl) d_M_centre_12 ?_
    refine z_iconst C (-1 : Int32) (by decide) d_M_centre_15 ?_
    refine z_istore_n C [(2, zi (-1 : Int32)), (0, zr (some 72)), (1, zi a1)] d_M_centre_16 rfl (by decide) rfl ?_
    refine z_ldc C zc_11_177 d_M_centre_17 ?_
    refine z_istore_n C [(3, zi (1000000 : Int32)), (2, zi (-1 : Int32)), (0, zr (some 72)), (1, zi a1)] d_M_centre_19 rfl (by decide) rfl ?_
    refine z_iconst C (0 : Int32) (by decide) d_M_centre_20 ?_
    refine z_istore C [(4, zi (0 : Int32)), (3, zi (1000000 : Int32)), (2, zi (-1 : Int32)), (0, zr (some 72)), (1, zi a1)] d_M_centre_21 (by decide) rfl ?_
    refine zq_lsub [3, 4, 2, 1, 0] [(0, zr (some 72)), (1, zi a1), (2, zi (-1 : Int32)), (3, zi (1000000 : Int32)), (4, zi (0 : Int32))] rfl ?_
    exact c_M_centre_23 C hret fu  a1 (-1 : Int32) (1000000 : Int32) (0 : Int32) S5 h
def f_M_areSprings (a1 : Int32) (S : zSt) : Option Int32 := zb1 (f_M_springMany S) (fun r2 => zb1 (f_M_lies a1 (0 : Int32) (((1 : Int32) <<< (r2 &&& 31)) - (1 : Int32))) (fun r4 => zgd (r4 = 0 ∨ r4 = 1) (some r4)))
set_option maxRecDepth 100000 in
set_option maxHeartbeats 4000000 in
theorem m_M_areSprings (l : Launch) {a1 : Int32} {S : zSt} {r : Int32} (h : f_M_areSprings a1 S = some r) : zPM l y_M_areSprings b_M_areSprings 2 (some .boolean) rm_M_areSprings true true [zr (some 72), zi a1] S (some (zi r)) S := by
  refine zPM_of (by decide) (Nat.le_of_ble_eq_true rfl) (fun p e s m args below meth c G C hret hname => ?_)
  unfold f_M_areSprings at h
  refine (?_ : zJ p l e rm_M_areSprings s m args below meth c G true 2 0 0 (zQm below G args s rm_M_areSprings true (some (zi r)) S) S 0 [(0, zr (some 72)), (1, zi a1)] [])
  refine z_iload_n C 1 rfl d_M_areSprings_0 rfl ?_
  refine z_iconst C (0 : Int32) (by decide) d_M_areSprings_1 ?_
  refine z_iconst C (1 : Int32) (by decide) d_M_areSprings_2 ?_
  refine z_aload_n C 0 rfl d_M_areSprings_3 rfl ?_
  obtain ⟨r2, h1, h⟩ := zb1_some h
  refine z_cV C 11 (by decide) (m_M_springMany l h1) mf_M_springMany lk_11_118 in_M_springMany se_M_springMany rfl zo_72 zk_72 ⟨rfl, rfl⟩ ⟨by decide, by decide⟩ ⟨Nat.zero_le _, Nat.zero_le _⟩ rfl _ [zi (1 : Int32), zi (0 : Int32), zi a1] rfl (Nat.le_of_ble_eq_true rfl) d_M_areSprings_4 ?_
  refine z_ishl C d_M_areSprings_7 ?_
  refine z_iconst C (1 : Int32) (by decide) d_M_areSprings_8 ?_
  refine z_isub C d_M_areSprings_9 ?_
  obtain ⟨r4, h3, h⟩ := zb1_some h
  refine z_cS C (m_M_lies l h3) mf_M_lies lk_11_108 st_M_lies ⟨rfl, rfl⟩ ⟨by decide, by decide⟩ ⟨Nat.zero_le _, Nat.zero_le _⟩ rfl _ [] rfl (Nat.le_of_ble_eq_true rfl) d_M_areSprings_10 ?_
  obtain ⟨g5, h⟩ := zgd_some h
  cases h
  exact z_iret C .boolean hret (by rcases g5 with e | e <;> rw [e] <;> rfl) ⟨Nat.zero_le _, Nat.zero_le _⟩ d_M_areSprings_13
def f_M_isIn (a0 : Int32) (a1 : Int32) : Option Int32 := if ((a0 >>> (a1 &&& 31)) &&& (1 : Int32)) = (1 : Int32) then some (1 : Int32) else some (0 : Int32)
set_option maxRecDepth 100000 in
set_option maxHeartbeats 4000000 in
theorem m_M_isIn (l : Launch) {a0 : Int32} {a1 : Int32} {S : zSt} {r : Int32} (h : f_M_isIn a0 a1 = some r) : zPM l y_M_isIn b_M_isIn 2 (some .boolean) rm_M_isIn true true [zi a0, zi a1] S (some (zi r)) S := by
  refine zPM_of (by decide) (Nat.le_of_ble_eq_true rfl) (fun p e s m args below meth c G C hret hname => ?_)
  unfold f_M_isIn at h
  refine (?_ : zJ p l e rm_M_isIn s m args below meth c G true 2 0 0 (zQm below G args s rm_M_isIn true (some (zi r)) S) S 0 [(0, zi a0), (1, zi a1)] [])
  refine z_iload_n C 0 rfl d_M_isIn_0 rfl ?_
  refine z_iload_n C 1 rfl d_M_isIn_1 rfl ?_
  refine z_ishr C d_M_isIn_2 ?_
  refine z_iconst C (1 : Int32) (by decide) d_M_isIn_3 ?_
  refine z_iand C d_M_isIn_4 ?_
  refine z_iconst C (1 : Int32) (by decide) d_M_isIn_5 ?_
  rcases zite h with ⟨c1, h⟩ | ⟨c1, h⟩
  · refine z_icmp_nef C 13 c1 d_M_isIn_6 (by decide) ?_
    refine z_iconst C (1 : Int32) (by decide) d_M_isIn_9 ?_
    refine z_goto C 14 d_M_isIn_10 (by decide) ?_
    cases h
    exact z_iret C .boolean hret rfl ⟨Nat.zero_le _, Nat.zero_le _⟩ d_M_isIn_14
  · refine z_icmp_net C 13 c1 d_M_isIn_6 (by decide) ?_
    refine z_iconst C (0 : Int32) (by decide) d_M_isIn_13 ?_
    cases h
    exact z_iret C .boolean hret rfl ⟨Nat.zero_le _, Nat.zero_le _⟩ d_M_isIn_14
def f_M_roundAt (a1 : Int32) (a2 : Int32) (S : zSt) : Option Int32 := zgd (0 ≤ (((9 : Int32) * a1) + a2) ∧ (((9 : Int32) * a1) + a2).toNatClampNeg < 4608) (some (zI S 91 (((9 : Int32) * a1) + a2).toNatClampNeg))
set_option maxRecDepth 100000 in
set_option maxHeartbeats 4000000 in
theorem m_M_roundAt (l : Launch) {a1 : Int32} {a2 : Int32} {S : zSt} {r : Int32} (h : f_M_roundAt a1 a2 S = some r) : zPM l y_M_roundAt b_M_roundAt 3 (some .int) rm_M_roundAt true true [zr (some 72), zi a1, zi a2] S (some (zi r)) S := by
  refine zPM_of (by decide) (Nat.le_of_ble_eq_true rfl) (fun p e s m args below meth c G C hret hname => ?_)
  unfold f_M_roundAt at h
  refine (?_ : zJ p l e rm_M_roundAt s m args below meth c G true 3 0 0 (zQm below G args s rm_M_roundAt true (some (zi r)) S) S 0 [(0, zr (some 72)), (1, zi a1), (2, zi a2)] [])
  refine z_aload_n C 0 rfl d_M_roundAt_0 rfl ?_
  refine z_getF2 C 11 (by decide) 36 (by decide) rfl 19 4608 rfl (91) rfl zp_72 zk_72 zfl_11_80 d_M_roundAt_1 ?_
  refine z_bipush C (9 : Int32) (by decide) d_M_roundAt_4 ?_
  refine z_iload_n C 1 rfl d_M_roundAt_6 rfl ?_
  refine z_imul C d_M_roundAt_7 ?_
  refine z_iload_n C 2 rfl d_M_roundAt_8 rfl ?_
  refine z_iadd C d_M_roundAt_9 ?_
  refine z_fact (fun hSR => ?_)
  obtain ⟨g1, h⟩ := zgd_some h
  refine z_ialoadS C zo_91 zk_91 (za_91 hSR) g1 d_M_roundAt_10 ?_
  cases h
  exact z_iret C .int hret rfl ⟨Nat.zero_le _, Nat.zero_le _⟩ d_M_roundAt_11
def f_M_legOfRound (a1 : Int32) (a2 : Int32) (a3 : Int32) (S : zSt) : Option Int32 := zb1 (f_M_pairAt a2 a3) (fun r2 => zgd (0 ≤ r2 ∧ r2.toNatClampNeg < 81) (zb1 (f_M_roundAt (a1 &&& (((1 : Int32) <<< (a3 &&& 31)) ^^^ (-1 : Int32))) a3 S) (fun r5 => zb1 (f_M_lesser (1000000 : Int32) ((zI S 90 r2.toNatClampNeg) + r5)) (fun r7 => some r7))))
set_option maxRecDepth 100000 in
set_option maxHeartbeats 4000000 in
theorem m_M_legOfRound (l : Launch) {a1 : Int32} {a2 : Int32} {a3 : Int32} {S : zSt} {r : Int32} (h : f_M_legOfRound a1 a2 a3 S = some r) : zPM l y_M_legOfRound b_M_legOfRound 4 (some .int) rm_M_legOfRound true true [zr (some 72), zi a1, zi a2, zi a3] S (some (zi r)) S := by
  refine zPM_of (by decide) (Nat.le_of_ble_eq_true rfl) (fun p e s m args below meth c G C hret hname => ?_)
  unfold f_M_legOfRound at h
  refine (?_ : zJ p l e rm_M_legOfRound s m args below meth c G true 4 0 0 (zQm below G args s rm_M_legOfRound true (some (zi r)) S) S 0 [(0, zr (some 72)), (1, zi a1), (2, zi a2), (3, zi a3)] [])
  refine z_ldc C zc_11_177 d_M_legOfRound_0 ?_
  refine z_aload_n C 0 rfl d_M_legOfRound_2 rfl ?_
  refine z_getF2 C 11 (by decide) 35 (by decide) rfl 18 81 rfl (90) rfl zp_72 zk_72 zfl_11_77 d_M_legOfRound_3 ?_
  refine z_iload_n C 2 rfl d_M_legOfRound_6 rfl ?_
  refine z_iload_n C 3 rfl d_M_legOfRound_7 rfl ?_
  obtain ⟨r2, h1, h⟩ := zb1_some h
  refine z_cS C (m_M_pairAt l h1) mf_M_pairAt lk_11_126 st_M_pairAt ⟨rfl, rfl⟩ ⟨by decide, by decide⟩ ⟨Nat.zero_le _, Nat.zero_le _⟩ rfl _ [zr (some 90), zi (1000000 : Int32)] rfl (Nat.le_of_ble_eq_true rfl) d_M_legOfRound_8 ?_
  refine z_fact (fun hSR => ?_)
  obtain ⟨g3, h⟩ := zgd_some h
  refine z_ialoadS C zo_90 zk_90 (za_90 hSR) g3 d_M_legOfRound_11 ?_
  refine z_aload_n C 0 rfl d_M_legOfRound_12 rfl ?_
  refine z_iload_n C 1 rfl d_M_legOfRound_13 rfl ?_
  refine z_iconst C (1 : Int32) (by decide) d_M_legOfRound_14 ?_
  refine z_iload_n C 3 rfl d_M_legOfRound_15 rfl ?_
  refine z_ishl C d_M_legOfRound_16 ?_
  refine z_iconst C (-1 : Int32) (by decide) d_M_legOfRound_17 ?_
  refine z_ixor C d_M_legOfRound_18 ?_
  refine z_iand C d_M_legOfRound_19 ?_
  refine z_iload_n C 3 rfl d_M_legOfRound_20 rfl ?_
  obtain ⟨r5, h4, h⟩ := zb1_some h
  refine z_cV C 11 (by decide) (m_M_roundAt l h4) mf_M_roundAt lk_11_387 in_M_roundAt se_M_roundAt rfl zo_72 zk_72 ⟨rfl, rfl⟩ ⟨by decide, by decide⟩ ⟨Nat.zero_le _, Nat.zero_le _⟩ rfl _ [zi (zI S 90 r2.toNatClampNeg), zi (1000000 : Int32)] rfl (Nat.le_of_ble_eq_true rfl) d_M_legOfRound_21 ?_
  refine z_iadd C d_M_legOfRound_24 ?_
  obtain ⟨r7, h6, h⟩ := zb1_some h
  refine z_cS C (m_M_lesser l h6) mf_M_lesser lk_11_372 st_M_lesser ⟨rfl, rfl⟩ ⟨by decide, by decide⟩ ⟨Nat.zero_le _, Nat.zero_le _⟩ rfl _ [] rfl (Nat.le_of_ble_eq_true rfl) d_M_legOfRound_25 ?_
  cases h
  exact z_iret C .int hret rfl ⟨Nat.zero_le _, Nat.zero_le _⟩ d_M_legOfRound_28
def f_M_laysRounds_101 (fu : Nat) (k2 : Int32 → Int32 → zSt → Option zSt) (k20 : Int32 → Int32 → Int32 → zSt → Option zSt) (a1 : Int32) (a2 : Int32) (a3 : Int32) (a4 : Int32) (S : zSt) : Option zSt := zgd (0 ≤ (((9 : Int32) * a2) + a3) ∧ (((9 : Int32) * a2) + a3).toNatClampNeg < 4608) (k20 a1 a2 (a3 + (1 : Int32)) (zwI S 91 (((9 : Int32) * a2) + a3).toNatClampNeg a4))
def f_M_laysRounds_62 (fu : Nat) (k2 : Int32 → Int32 → zSt → Option zSt) (k20 : Int32 → Int32 → Int32 → zSt → Option zSt) : Nat → Int32 → Int32 → Int32 → Int32 → Int32 → zSt → Option zSt
  | 0, _, _, _, _, _, _ => none
  | n + 1, a1, a2, a3, a4, a5, S => zb1 (f_M_springMany S) (fun r2 => if r2 ≤ a5 then f_M_laysRounds_101 fu k2 k20 a1 a2 a3 a4 S else zb1 (f_M_isIn a2 a5) (fun r5 => if r5 = 0 then f_M_laysRounds_62 fu k2 k20 n a1 a2 a3 a4 (a5 + (1 : Int32)) S else zb1 (f_M_legOfRound a2 a3 a5 S) (fun r8 => zb1 (f_M_lesser a4 r8) (fun r10 => f_M_laysRounds_62 fu k2 k20 n a1 a2 a3 r10 (a5 + (1 : Int32)) S))))
def f_M_laysRounds_20 (fu : Nat) (k2 : Int32 → Int32 → zSt → Option zSt) : Nat → Int32 → Int32 → Int32 → zSt → Option zSt
  | 0, _, _, _, _ => none
  | n + 1, a1, a2, a3, S => zb1 (f_M_springMany S) (fun r2 => if r2 ≤ a3 then k2 a1 (a2 + (1 : Int32)) S else if a2 = 0 then zb1 (f_M_pairAt a3 (zI S 74 (0 : Int32).toNatClampNeg)) (fun r6 => zgd (0 ≤ r6 ∧ r6.toNatClampNeg < 81) (zb1 (f_M_lesser (1000000 : Int32) (zI S 90 r6.toNatClampNeg)) (fun r9 => f_M_laysRounds_62 fu k2 (f_M_laysRounds_20 fu k2 n) fu a1 a2 a3 r9 (0 : Int32) S))) else f_M_laysRounds_62 fu k2 (f_M_laysRounds_20 fu k2 n) fu a1 a2 a3 (1000000 : Int32) (0 : Int32) S)
def f_M_laysRounds_2 (fu : Nat) : Nat → Int32 → Int32 → zSt → Option zSt
  | 0, _, _, _ => none
  | n + 1, a1, a2, S => if a1 < a2 then some S else if (a2 &&& (a1 ^^^ (-1 : Int32))) = 0 then f_M_laysRounds_20 fu (f_M_laysRounds_2 fu n) fu a1 a2 (0 : Int32) S else f_M_laysRounds_2 fu n a1 (a2 + (1 : Int32)) S
def f_M_laysRounds (fu : Nat) (a1 : Int32) (S : zSt) : Option zSt := f_M_laysRounds_2 fu fu a1 (0 : Int32) S
set_option maxRecDepth 100000 in
set_option maxHeartbeats 4000000 in
theorem c_M_laysRounds_101 {p : Program} {l : Launch} {e : Env} {s : State} {m : MethodId} {args : Array Value} {below : List Frame} {meth : Method} {c : Code} {G : zG} (C : zC p s m args meth c G b_M_laysRounds 6 y_M_laysRounds.cls) (hret : meth.sig.returnType = none) {fu : Nat} {S1 : zSt} {k2 : Int32 → Int32 → zSt → Option zSt} (hk2 : ∀ (a1 : Int32) (a2 : Int32) (S : zSt) , k2 a1 a2 S = some S1 → zJ p l e rm_M_laysRounds s m args below meth c G true 6 0 0 (zQm below G args s rm_M_laysRounds true none S1) S 2 [(0, zr (some 72)), (1, zi a1), (2, zi a2)] []) {k20 : Int32 → Int32 → Int32 → zSt → Option zSt} (hk20 : ∀ (a1 : Int32) (a2 : Int32) (a3 : Int32) (S : zSt) , k20 a1 a2 a3 S = some S1 → zJ p l e rm_M_laysRounds s m args below meth c G true 6 0 0 (zQm below G args s rm_M_laysRounds true none S1) S 20 [(0, zr (some 72)), (1, zi a1), (2, zi a2), (3, zi a3)] []) : ∀ (a1 : Int32) (a2 : Int32) (a3 : Int32) (a4 : Int32) (S : zSt) , f_M_laysRounds_101 fu k2 k20 a1 a2 a3 a4 S = some S1 → zJ p l e rm_M_laysRounds s m args below meth c G true 6 0 0 (zQm below G args s rm_M_laysRounds true none S1) S 101 [(0, zr (some 72)), (1, zi a1), (2, zi a2), (3, zi a3), (4, zi a4)] [] := by
  intro a1 a2 a3 a4 S h
  unfold f_M_laysRounds_101 at h
  refine z_aload_n C 0 rfl d_M_laysRounds_101 rfl ?_
  refine z_getF2 C 11 (by decide) 36 (by decide) rfl 19 4608 rfl (91) rfl zp_72 zk_72 zfl_11_80 d_M_laysRounds_102 ?_
  refine z_bipush C (9 : Int32) (by decide) d_M_laysRounds_105 ?_
  refine z_iload_n C 2 rfl d_M_laysRounds_107 rfl ?_
  refine z_imul C d_M_laysRounds_108 ?_
  refine z_iload_n C 3 rfl d_M_laysRounds_109 rfl ?_
  refine z_iadd C d_M_laysRounds_110 ?_
  refine z_iload C 4 rfl d_M_laysRounds_111 ?_
  refine z_fact (fun hSR => ?_)
  obtain ⟨g1, h⟩ := zgd_some h
  refine z_iastoreS C zo_91 zk_91 (za_91 hSR) g1 d_M_laysRounds_113 ?_
  refine z_iinc C 3 (a3 + (1 : Int32)) [(3, zi (a3 + (1 : Int32))), (0, zr (some 72)), (1, zi a1), (2, zi a2), (4, zi a4)] rfl d_M_laysRounds_114 (by first | rfl | decide) (by decide) rfl ?_
  refine z_goto C 20 d_M_laysRounds_117 (by decide) ?_
  refine zq_lsub [1, 2, 3, 0] [(0, zr (some 72)), (1, zi a1), (2, zi a2), (3, zi (a3 + (1 : Int32)))] rfl ?_
  exact hk20 a1 a2 (a3 + (1 : Int32)) (zwI S 91 (((9 : Int32) * a2) + a3).toNatClampNeg a4) h
set_option maxRecDepth 100000 in
set_option maxHeartbeats 4000000 in
theorem c_M_laysRounds_62 {p : Program} {l : Launch} {e : Env} {s : State} {m : MethodId} {args : Array Value} {below : List Frame} {meth : Method} {c : Code} {G : zG} (C : zC p s m args meth c G b_M_laysRounds 6 y_M_laysRounds.cls) (hret : meth.sig.returnType = none) {fu : Nat} {S1 : zSt} {k2 : Int32 → Int32 → zSt → Option zSt} (hk2 : ∀ (a1 : Int32) (a2 : Int32) (S : zSt) , k2 a1 a2 S = some S1 → zJ p l e rm_M_laysRounds s m args below meth c G true 6 0 0 (zQm below G args s rm_M_laysRounds true none S1) S 2 [(0, zr (some 72)), (1, zi a1), (2, zi a2)] []) {k20 : Int32 → Int32 → Int32 → zSt → Option zSt} (hk20 : ∀ (a1 : Int32) (a2 : Int32) (a3 : Int32) (S : zSt) , k20 a1 a2 a3 S = some S1 → zJ p l e rm_M_laysRounds s m args below meth c G true 6 0 0 (zQm below G args s rm_M_laysRounds true none S1) S 20 [(0, zr (some 72)), (1, zi a1), (2, zi a2), (3, zi a3)] []) : ∀ (n : Nat) (a1 : Int32) (a2 : Int32) (a3 : Int32) (a4 : Int32) (a5 : Int32) (S : zSt) , f_M_laysRounds_62 fu k2 k20 n a1 a2 a3 a4 a5 S = some S1 → zJ p l e rm_M_laysRounds s m args below meth c G true 6 0 0 (zQm below G args s rm_M_laysRounds true none S1) S 62 [(0, zr (some 72)), (1, zi a1), (2, zi a2), (3, zi a3), (4, zi a4), (5, zi a5)] [] := by
  intro n
  induction n with
  | zero =>
    intro a1 a2 a3 a4 a5 S h
    cases h
  | succ n ih =>
    intro a1 a2 a3 a4 a5 S h
    rw [f_M_laysRounds_62] at h
    refine z_iload C 5 rfl d_M_laysRounds_62 ?_
    refine z_aload_n C 0 rfl d_M_laysRounds_64 rfl ?_
    obtain ⟨r2, h1, h⟩ := zb1_some h
    refine z_cV C 11 (by decide) (m_M_springMany l h1) mf_M_springMany lk_11_118 in_M_springMany se_M_springMany rfl zo_72 zk_72 ⟨rfl, rfl⟩ ⟨by decide, by decide⟩ ⟨Nat.zero_le _, Nat.zero_le _⟩ rfl _ [zi a5] rfl (Nat.le_of_ble_eq_true rfl) d_M_laysRounds_65 ?_
    rcases zite h with ⟨c3, h⟩ | ⟨c3, h⟩
    · refine z_icmp_get C 101 c3 d_M_laysRounds_68 (by decide) ?_
      refine zq_lsub [0, 1, 2, 3, 4] [(0, zr (some 72)), (1, zi a1), (2, zi a2), (3, zi a3), (4, zi a4)] rfl ?_
      exact c_M_laysRounds_101 C hret hk2 hk20  a1 a2 a3 a4 S h
    · refine z_icmp_gef C 101 c3 d_M_laysRounds_68 (by decide) ?_
      refine z_iload_n C 2 rfl d_M_laysRounds_71 rfl ?_
      refine z_iload C 5 rfl d_M_laysRounds_72 ?_
      obtain ⟨r5, h4, h⟩ := zb1_some h
      refine z_cS C (m_M_isIn l h4) mf_M_isIn lk_11_390 st_M_isIn ⟨rfl, rfl⟩ ⟨by decide, by decide⟩ ⟨Nat.zero_le _, Nat.zero_le _⟩ rfl _ [] rfl (Nat.le_of_ble_eq_true rfl) d_M_laysRounds_74 ?_
      rcases zite h with ⟨c6, h⟩ | ⟨c6, h⟩
      · refine z_if_eqt C 95 c6 d_M_laysRounds_77 (by decide) ?_
        refine z_iinc C 5 (a5 + (1 : Int32)) [(5, zi (a5 + (1 : Int32))), (0, zr (some 72)), (1, zi a1), (2, zi a2), (3, zi a3), (4, zi a4)] rfl d_M_laysRounds_95 (by first | rfl | decide) (by decide) rfl ?_
        refine z_goto C 62 d_M_laysRounds_98 (by decide) ?_
        refine zq_lsub [1, 2, 3, 4, 5, 0] [(0, zr (some 72)), (1, zi a1), (2, zi a2), (3, zi a3), (4, zi a4), (5, zi (a5 + (1 : Int32)))] rfl ?_
        exact ih a1 a2 a3 a4 (a5 + (1 : Int32)) S h
      · refine z_if_eqf C 95 c6 d_M_laysRounds_77 (by decide) ?_
        refine z_iload C 4 rfl d_M_laysRounds_80 ?_
        refine z_aload_n C 0 rfl d_M_laysRounds_82 rfl ?_
        refine z_iload_n C 2 rfl d_M_laysRounds_83 rfl ?_
        refine z_iload_n C 3 rfl d_M_laysRounds_84 rfl ?_
        refine z_iload C 5 rfl d_M_laysRounds_85 ?_
        obtain ⟨r8, h7, h⟩ := zb1_some h
        refine z_cV C 11 (by decide) (m_M_legOfRound l h7) mf_M_legOfRound lk_11_393 in_M_legOfRound se_M_legOfRound rfl zo_72 zk_72 ⟨rfl, rfl⟩ ⟨by decide, by decide⟩ ⟨Nat.zero_le _, Nat.zero_le _⟩ rfl _ [zi a4] rfl (Nat.le_of_ble_eq_true rfl) d_M_laysRounds_87 ?_
        obtain ⟨r10, h9, h⟩ := zb1_some h
        refine z_cS C (m_M_lesser l h9) mf_M_lesser lk_11_372 st_M_lesser ⟨rfl, rfl⟩ ⟨by decide, by decide⟩ ⟨Nat.zero_le _, Nat.zero_le _⟩ rfl _ [] rfl (Nat.le_of_ble_eq_true rfl) d_M_laysRounds_90 ?_
        refine z_istore C [(4, zi r10), (0, zr (some 72)), (1, zi a1), (2, zi a2), (3, zi a3), (5, zi a5)] d_M_laysRounds_93 (by decide) rfl ?_
        refine z_iinc C 5 (a5 + (1 : Int32)) [(5, zi (a5 + (1 : Int32))), (4, zi r10), (0, zr (some 72)), (1, zi a1), (2, zi a2), (3, zi a3)] rfl d_M_laysRounds_95 (by first | rfl | decide) (by decide) rfl ?_
        refine z_goto C 62 d_M_laysRounds_98 (by decide) ?_
        refine zq_lsub [2, 3, 4, 5, 1, 0] [(0, zr (some 72)), (1, zi a1), (2, zi a2), (3, zi a3), (4, zi r10), (5, zi (a5 + (1 : Int32)))] rfl ?_
        exact ih a1 a2 a3 r10 (a5 + (1 : Int32)) S h
set_option maxRecDepth 100000 in
set_option maxHeartbeats 4000000 in
theorem c_M_laysRounds_20 {p : Program} {l : Launch} {e : Env} {s : State} {m : MethodId} {args : Array Value} {below : List Frame} {meth : Method} {c : Code} {G : zG} (C : zC p s m args meth c G b_M_laysRounds 6 y_M_laysRounds.cls) (hret : meth.sig.returnType = none) {fu : Nat} {S1 : zSt} {k2 : Int32 → Int32 → zSt → Option zSt} (hk2 : ∀ (a1 : Int32) (a2 : Int32) (S : zSt) , k2 a1 a2 S = some S1 → zJ p l e rm_M_laysRounds s m args below meth c G true 6 0 0 (zQm below G args s rm_M_laysRounds true none S1) S 2 [(0, zr (some 72)), (1, zi a1), (2, zi a2)] []) : ∀ (n : Nat) (a1 : Int32) (a2 : Int32) (a3 : Int32) (S : zSt) , f_M_laysRounds_20 fu k2 n a1 a2 a3 S = some S1 → zJ p l e rm_M_laysRounds s m args below meth c G true 6 0 0 (zQm below G args s rm_M_laysRounds true none S1) S 20 [(0, zr (some 72)), (1, zi a1), (2, zi a2), (3, zi a3)] [] := by
  intro n
  induction n with
  | zero =>
    intro a1 a2 a3 S h
    cases h
  | succ n ih =>
    intro a1 a2 a3 S h
    rw [f_M_laysRounds_20] at h
    refine z_iload_n C 3 rfl d_M_laysRounds_20 rfl ?_
    refine z_aload_n C 0 rfl d_M_laysRounds_21 rfl ?_
    obtain ⟨r2, h1, h⟩ := zb1_some h
    refine z_cV C 11 (by decide) (m_M_springMany l h1) mf_M_springMany lk_11_118 in_M_springMany se_M_springMany rfl zo_72 zk_72 ⟨rfl, rfl⟩ ⟨by decide, by decide⟩ ⟨Nat.zero_le _, Nat.zero_le _⟩ rfl _ [zi a3] rfl (Nat.le_of_ble_eq_true rfl) d_M_laysRounds_22 ?_
    rcases zite h with ⟨c3, h⟩ | ⟨c3, h⟩
    · refine z_icmp_get C 120 c3 d_M_laysRounds_25 (by decide) ?_
      refine z_iinc C 2 (a2 + (1 : Int32)) [(2, zi (a2 + (1 : Int32))), (0, zr (some 72)), (1, zi a1), (3, zi a3)] rfl d_M_laysRounds_120 (by first | rfl | decide) (by decide) rfl ?_
      refine z_goto C 2 d_M_laysRounds_123 (by decide) ?_
      refine zq_lsub [1, 2, 0] [(0, zr (some 72)), (1, zi a1), (2, zi (a2 + (1 : Int32)))] rfl ?_
      exact hk2 a1 (a2 + (1 : Int32)) S h
    · refine z_icmp_gef C 120 c3 d_M_laysRounds_25 (by decide) ?_
      refine z_iload_n C 2 rfl d_M_laysRounds_28 rfl ?_
      rcases zite h with ⟨c4, h⟩ | ⟨c4, h⟩
      · refine z_if_nef C 55 c4 d_M_laysRounds_29 (by decide) ?_
        refine z_ldc C zc_11_177 d_M_laysRounds_32 ?_
        refine z_aload_n C 0 rfl d_M_laysRounds_34 rfl ?_
        refine z_getF2 C 11 (by decide) 35 (by decide) rfl 18 81 rfl (90) rfl zp_72 zk_72 zfl_11_77 d_M_laysRounds_35 ?_
        refine z_iload_n C 3 rfl d_M_laysRounds_38 rfl ?_
        refine z_aload_n C 0 rfl d_M_laysRounds_39 rfl ?_
        refine z_getF2 C 11 (by decide) 2 (by decide) rfl 2 5807 rfl (74) rfl zp_72 zk_72 zfl_11_24 d_M_laysRounds_40 ?_
        refine z_iconst C (0 : Int32) (by decide) d_M_laysRounds_43 ?_
        refine z_fact (fun hSR => ?_)
        refine z_ialoadS C zo_74 zk_74 (za_74 hSR) (by decide) d_M_laysRounds_44 ?_
        obtain ⟨r6, h5, h⟩ := zb1_some h
        refine z_cS C (m_M_pairAt l h5) mf_M_pairAt lk_11_126 st_M_pairAt ⟨rfl, rfl⟩ ⟨by decide, by decide⟩ ⟨Nat.zero_le _, Nat.zero_le _⟩ rfl _ [zr (some 90), zi (1000000 : Int32)] rfl (Nat.le_of_ble_eq_true rfl) d_M_laysRounds_45 ?_
        refine z_fact (fun hSR => ?_)
        obtain ⟨g7, h⟩ := zgd_some h
        refine z_ialoadS C zo_90 zk_90 (za_90 hSR) g7 d_M_laysRounds_48 ?_
        obtain ⟨r9, h8, h⟩ := zb1_some h
        refine z_cS C (m_M_lesser l h8) mf_M_lesser lk_11_372 st_M_lesser ⟨rfl, rfl⟩ ⟨by decide, by decide⟩ ⟨Nat.zero_le _, Nat.zero_le _⟩ rfl _ [] rfl (Nat.le_of_ble_eq_true rfl) d_M_laysRounds_49 ?_
        refine z_goto C 57 d_M_laysRounds_52 (by decide) ?_
        refine z_istore C [(4, zi r9), (0, zr (some 72)), (1, zi a1), (2, zi a2), (3, zi a3)] d_M_laysRounds_57 (by decide) rfl ?_
        refine z_iconst C (0 : Int32) (by decide) d_M_laysRounds_59 ?_
        refine z_istore C [(5, zi (0 : Int32)), (4, zi r9), (0, zr (some 72)), (1, zi a1), (2, zi a2), (3, zi a3)] d_M_laysRounds_60 (by decide) rfl ?_
        refine zq_lsub [2, 3, 4, 5, 1, 0] [(0, zr (some 72)), (1, zi a1), (2, zi a2), (3, zi a3), (4, zi r9), (5, zi (0 : Int32))] rfl ?_
        exact c_M_laysRounds_62 C hret hk2 (fun z0 z1 z2 zS zh => ih z0 z1 z2 zS zh) fu  a1 a2 a3 r9 (0 : Int32) S h
      · refine z_if_net C 55 c4 d_M_laysRounds_29 (by decide) ?_
        refine z_ldc C zc_11_177 d_M_laysRounds_55 ?_
        refine z_istore C [(4, zi (1000000 : Int32)), (0, zr (some 72)), (1, zi a1), (2, zi a2), (3, zi a3)] d_M_laysRounds_57 (by decide) rfl ?_
        refine z_iconst C (0 : Int32) (by decide) d_M_laysRounds_59 ?_
        refine z_istore C [(5, zi (0 : Int32)), (4, zi (1000000 : Int32)), (0, zr (some 72)), (1, zi a1), (2, zi a2), (3, zi a3)] d_M_laysRounds_60 (by decide) rfl ?_
        refine zq_lsub [2, 3, 4, 5, 1, 0] [(0, zr (some 72)), (1, zi a1), (2, zi a2), (3, zi a3), (4, zi (1000000 : Int32)), (5, zi (0 : Int32))] rfl ?_
        exact c_M_laysRounds_62 C hret hk2 (fun z0 z1 z2 zS zh => ih z0 z1 z2 zS zh) fu  a1 a2 a3 (1000000 : Int32) (0 : Int32) S h
set_option maxRecDepth 100000 in
set_option maxHeartbeats 4000000 in
theorem c_M_laysRounds_2 {p : Program} {l : Launch} {e : Env} {s : State} {m : MethodId} {args : Array Value} {below : List Frame} {meth : Method} {c : Code} {G : zG} (C : zC p s m args meth c G b_M_laysRounds 6 y_M_laysRounds.cls) (hret : meth.sig.returnType = none) {fu : Nat} {S1 : zSt} : ∀ (n : Nat) (a1 : Int32) (a2 : Int32) (S : zSt) , f_M_laysRounds_2 fu n a1 a2 S = some S1 → zJ p l e rm_M_laysRounds s m args below meth c G true 6 0 0 (zQm below G args s rm_M_laysRounds true none S1) S 2 [(0, zr (some 72)), (1, zi a1), (2, zi a2)] [] := by
  intro n
  induction n with
  | zero =>
    intro a1 a2 S h
    cases h
  | succ n ih =>
    intro a1 a2 S h
    rw [f_M_laysRounds_2] at h
    refine z_iload_n C 2 rfl d_M_laysRounds_2 rfl ?_
    refine z_iload_n C 1 rfl d_M_laysRounds_3 rfl ?_
    rcases zite h with ⟨c1, h⟩ | ⟨c1, h⟩
    · refine z_icmp_gtt C 126 c1 d_M_laysRounds_4 (by decide) ?_
      cases h
      exact z_vret C hret ⟨Nat.zero_le _, Nat.zero_le _⟩ d_M_laysRounds_126
    · refine z_icmp_gtf C 126 c1 d_M_laysRounds_4 (by decide) ?_
      refine z_iload_n C 2 rfl d_M_laysRounds_7 rfl ?_
      refine z_iload_n C 1 rfl d_M_laysRounds_8 rfl ?_
      refine z_iconst C (-1 : Int32) (by decide) d_M_laysRounds_9 ?_
      refine z_ixor C d_M_laysRounds_10 ?_
      refine z_iand C d_M_laysRounds_11 ?_
      rcases zite h with ⟨c2, h⟩ | ⟨c2, h⟩
      · refine z_if_eqt C 18 c2 d_M_laysRounds_12 (by decide) ?_
        refine z_iconst C (0 : Int32) (by decide) d_M_laysRounds_18 ?_
        refine z_istore_n C [(3, zi (0 : Int32)), (0, zr (some 72)), (1, zi a1), (2, zi a2)] d_M_laysRounds_19 rfl (by decide) rfl ?_
        refine zq_lsub [1, 2, 3, 0] [(0, zr (some 72)), (1, zi a1), (2, zi a2), (3, zi (0 : Int32))] rfl ?_
        exact c_M_laysRounds_20 C hret (fun z0 z1 zS zh => ih z0 z1 zS zh) fu  a1 a2 (0 : Int32) S h
      · refine z_if_eqf C 18 c2 d_M_laysRounds_12 (by decide) ?_
        refine z_goto C 120 d_M_laysRounds_15 (by decide) ?_
        refine z_iinc C 2 (a2 + (1 : Int32)) [(2, zi (a2 + (1 : Int32))), (0, zr (some 72)), (1, zi a1)] rfl d_M_laysRounds_120 (by first | rfl | decide) (by decide) rfl ?_
        refine z_goto C 2 d_M_laysRounds_123 (by decide) ?_
        refine zq_lsub [1, 2, 0] [(0, zr (some 72)), (1, zi a1), (2, zi (a2 + (1 : Int32)))] rfl ?_
        exact ih a1 (a2 + (1 : Int32)) S h
set_option maxRecDepth 100000 in
set_option maxHeartbeats 4000000 in
theorem m_M_laysRounds (l : Launch) {fu : Nat} {a1 : Int32} {S : zSt} {S1 : zSt} (h : f_M_laysRounds fu a1 S = some S1) : zPM l y_M_laysRounds b_M_laysRounds 6 none rm_M_laysRounds true true [zr (some 72), zi a1] S none S1 := by
  refine zPM_of (by decide) (Nat.le_of_ble_eq_true rfl) (fun p e s m args below meth c G C hret hname => ?_)
  unfold f_M_laysRounds at h
  refine (?_ : zJ p l e rm_M_laysRounds s m args below meth c G true 6 0 0 (zQm below G args s rm_M_laysRounds true none S1) S 0 [(0, zr (some 72)), (1, zi a1)] [])
  refine z_iconst C (0 : Int32) (by decide) d_M_laysRounds_0 ?_
  refine z_istore_n C [(2, zi (0 : Int32)), (0, zr (some 72)), (1, zi a1)] d_M_laysRounds_1 rfl (by decide) rfl ?_
  refine zq_lsub [1, 2, 0] [(0, zr (some 72)), (1, zi a1), (2, zi (0 : Int32))] rfl ?_
  exact c_M_laysRounds_2 C hret fu  a1 (0 : Int32) S h
def f_M_round_69 (fu : Nat) (a3 : Int32) (a4 : Int32) (S : zSt) : Option (Int32 × zSt) := zb1 (f_M_roundAt a3 a4 S) (fun r2 => if r2 < (1000000 : Int32) then zb1 (f_M_roundAt a3 a4 S) (fun r5 => some (r5, S)) else some ((-1 : Int32), S))
def f_M_round_145 (fu : Nat) (k96 : Int32 → Int32 → Int32 → Int32 → zSt → Option (Int32 × zSt)) (a2 : Int32) (a3 : Int32) (a5 : Int32) (a6 : Int32) (S : zSt) : Option (Int32 × zSt) := k96 a2 (a3 &&& (((1 : Int32) <<< (a6 &&& 31)) ^^^ (-1 : Int32))) a6 (a5 + (1 : Int32)) S
def f_M_round_111 (fu : Nat) (k96 : Int32 → Int32 → Int32 → Int32 → zSt → Option (Int32 × zSt)) : Nat → Int32 → Int32 → Int32 → Int32 → Int32 → zSt → Option (Int32 × zSt)
  | 0, _, _, _, _, _, _ => none
  | n + 1, a2, a3, a4, a5, a6, S => zb1 (f_M_isIn a3 a6) (fun r2 => if r2 = 0 then f_M_round_111 fu k96 n a2 a3 a4 a5 (a6 + (1 : Int32)) S else zb1 (f_M_legOfRound a3 a4 a6 S) (fun r5 => zb1 (f_M_roundAt a3 a4 S) (fun r7 => if r5 = r7 then f_M_round_145 fu k96 a2 a3 a5 a6 S else f_M_round_111 fu k96 n a2 a3 a4 a5 (a6 + (1 : Int32)) S)))
def f_M_round_96 (fu : Nat) : Nat → Int32 → Int32 → Int32 → Int32 → zSt → Option (Int32 × zSt)
  | 0, _, _, _, _, _ => none
  | n + 1, a2, a3, a4, a5, S => if a2 < a5 then some (a4, S) else if a3 = 0 then some ((-1 : Int32), S) else f_M_round_111 fu (f_M_round_96 fu n) fu a2 a3 a4 a5 (0 : Int32) S
def f_M_round (fu : Nat) (a1 : Int32) (a2 : Int32) (S : zSt) : Option (Int32 × zSt) := zb1 (f_M_springMany S) (fun r2 => if r2 = 0 then some ((-1 : Int32), S) else zb1 (f_M_areSprings a1 S) (fun r5 => if r5 = 0 then some ((-1 : Int32), S) else if (-1 : Int32) ≤ a2 then zb1 (f_M_laysSoon fu S) (fun S9 => zb1 (f_M_laysRounds fu (a1 &&& (((1 : Int32) <<< ((zI S 74 (0 : Int32).toNatClampNeg) &&& 31)) ^^^ (-1 : Int32))) S9) (fun S11 => zb1 (f_M_roundAt (a1 &&& (((1 : Int32) <<< ((zI S 74 (0 : Int32).toNatClampNeg) &&& 31)) ^^^ (-1 : Int32))) (zI S11 74 (0 : Int32).toNatClampNeg) S11) (fun r13 => if (1000000 : Int32) ≤ r13 then f_M_round_69 fu (a1 &&& (((1 : Int32) <<< ((zI S 74 (0 : Int32).toNatClampNeg) &&& 31)) ^^^ (-1 : Int32))) (zI S11 74 (0 : Int32).toNatClampNeg) S11 else if a2 = (-1 : Int32) then f_M_round_69 fu (a1 &&& (((1 : Int32) <<< ((zI S 74 (0 : Int32).toNatClampNeg) &&& 31)) ^^^ (-1 : Int32))) (zI S11 74 (0 : Int32).toNatClampNeg) S11 else f_M_round_96 fu fu a2 (a1 &&& (((1 : Int32) <<< ((zI S 74 (0 : Int32).toNatClampNeg) &&& 31)) ^^^ (-1 : Int32))) (zI S11 74 (0 : Int32).toNatClampNeg) (0 : Int32) S11))) else some ((-1 : Int32), S)))
set_option maxRecDepth 100000 in
set_option maxHeartbeats 4000000 in
theorem c_M_round_69 {p : Program} {l : Launch} {e : Env} {s : State} {m : MethodId} {args : Array Value} {below : List Frame} {meth : Method} {c : Code} {G : zG} (C : zC p s m args meth c G b_M_round 7 y_M_round.cls) (hret : meth.sig.returnType = (some .int)) {fu : Nat} {r : Int32} {S1 : zSt} : ∀ (a3 : Int32) (a4 : Int32) (S : zSt) , f_M_round_69 fu a3 a4 S = some (r, S1) → zJ p l e rm_M_round s m args below meth c G true 7 0 0 (zQm below G args s rm_M_round true (some (zi r)) S1) S 69 [(0, zr (some 72)), (3, zi a3), (4, zi a4)] [] := by
  intro a3 a4 S h
  unfold f_M_round_69 at h
  refine z_aload_n C 0 rfl d_M_round_69 rfl ?_
  refine z_iload_n C 1 rfl d_M_round_70 rfl ?_
  refine z_iload C 2 rfl d_M_round_71 ?_
  obtain ⟨r2, h1, h⟩ := zb1_some h
  refine z_cV C 11 (by decide) (m_M_roundAt l h1) mf_M_roundAt lk_11_387 in_M_roundAt se_M_roundAt rfl zo_72 zk_72 ⟨rfl, rfl⟩ ⟨by decide, by decide⟩ ⟨Nat.zero_le _, Nat.zero_le _⟩ rfl _ [] rfl (Nat.le_of_ble_eq_true rfl) d_M_round_73 ?_
  refine z_ldc C zc_11_177 d_M_round_76 ?_
  rcases zite h with ⟨c3, h⟩ | ⟨c3, h⟩
  · refine z_icmp_ltt C 85 c3 d_M_round_78 (by decide) ?_
    refine z_aload_n C 0 rfl d_M_round_85 rfl ?_
    refine z_iload_n C 1 rfl d_M_round_86 rfl ?_
    refine z_iload C 2 rfl d_M_round_87 ?_
    obtain ⟨r5, h4, h⟩ := zb1_some h
    refine z_cV C 11 (by decide) (m_M_roundAt l h4) mf_M_roundAt lk_11_387 in_M_roundAt se_M_roundAt rfl zo_72 zk_72 ⟨rfl, rfl⟩ ⟨by decide, by decide⟩ ⟨Nat.zero_le _, Nat.zero_le _⟩ rfl _ [] rfl (Nat.le_of_ble_eq_true rfl) d_M_round_89 ?_
    cases h
    exact z_iret C .int hret rfl ⟨Nat.zero_le _, Nat.zero_le _⟩ d_M_round_92
  · refine z_icmp_ltf C 85 c3 d_M_round_78 (by decide) ?_
    refine z_iconst C (-1 : Int32) (by decide) d_M_round_81 ?_
    refine z_goto C 92 d_M_round_82 (by decide) ?_
    cases h
    exact z_iret C .int hret rfl ⟨Nat.zero_le _, Nat.zero_le _⟩ d_M_round_92
set_option maxRecDepth 100000 in
set_option maxHeartbeats 4000000 in
theorem c_M_round_145 {p : Program} {l : Launch} {e : Env} {s : State} {m : MethodId} {args : Array Value} {below : List Frame} {meth : Method} {c : Code} {G : zG} (C : zC p s m args meth c G b_M_round 7 y_M_round.cls) (hret : meth.sig.returnType = (some .int)) {fu : Nat} {r : Int32} {S1 : zSt} {k96 : Int32 → Int32 → Int32 → Int32 → zSt → Option (Int32 × zSt)} (hk96 : ∀ (a2 : Int32) (a3 : Int32) (a4 : Int32) (a5 : Int32) (S : zSt) , k96 a2 a3 a4 a5 S = some (r, S1) → zJ p l e rm_M_round s m args below meth c G true 7 0 0 (zQm below G args s rm_M_round true (some (zi r)) S1) S 96 [(0, zr (some 72)), (2, zi a2), (3, zi a3), (4, zi a4), (5, zi a5)] []) : ∀ (a2 : Int32) (a3 : Int32) (a5 : Int32) (a6 : Int32) (S : zSt) , f_M_round_145 fu k96 a2 a3 a5 a6 S = some (r, S1) → zJ p l e rm_M_round s m args below meth c G true 7 0 0 (zQm below G args s rm_M_round true (some (zi r)) S1) S 145 [(0, zr (some 72)), (2, zi a2), (3, zi a3), (5, zi a5), (6, zi a6)] [] := by
  intro a2 a3 a5 a6 S h
  unfold f_M_round_145 at h
  refine z_iload_n C 2 rfl d_M_round_145 rfl ?_
  refine z_iconst C (1 : Int32) (by decide) d_M_round_146 ?_
  refine z_iload C 4 rfl d_M_round_147 ?_
  refine z_ishl C d_M_round_149 ?_
  refine z_iconst C (-1 : Int32) (by decide) d_M_round_150 ?_
  refine z_ixor C d_M_round_151 ?_
  refine z_iand C d_M_round_152 ?_
  refine z_istore_n C [(3, zi (a3 &&& (((1 : Int32) <<< (a6 &&& 31)) ^^^ (-1 : Int32)))), (0, zr (some 72)), (2, zi a2), (5, zi a5), (6, zi a6)] d_M_round_153 rfl (by decide) rfl ?_
  refine z_iload C 4 rfl d_M_round_154 ?_
  refine z_istore C [(4, zi a6), (3, zi (a3 &&& (((1 : Int32) <<< (a6 &&& 31)) ^^^ (-1 : Int32)))), (0, zr (some 72)), (2, zi a2), (5, zi a5), (6, zi a6)] d_M_round_156 (by decide) rfl ?_
  refine z_iinc C 4 (a5 + (1 : Int32)) [(5, zi (a5 + (1 : Int32))), (4, zi a6), (3, zi (a3 &&& (((1 : Int32) <<< (a6 &&& 31)) ^^^ (-1 : Int32)))), (0, zr (some 72)), (2, zi a2), (6, zi a6)] rfl d_M_round_158 (by first | rfl | decide) (by decide) rfl ?_
  refine z_goto C 96 d_M_round_161 (by decide) ?_
  refine zq_lsub [3, 4, 2, 1, 0] [(0, zr (some 72)), (2, zi a2), (3, zi (a3 &&& (((1 : Int32) <<< (a6 &&& 31)) ^^^ (-1 : Int32)))), (4, zi a6), (5, zi (a5 + (1 : Int32)))] rfl ?_
  exact hk96 a2 (a3 &&& (((1 : Int32) <<< (a6 &&& 31)) ^^^ (-1 : Int32))) a6 (a5 + (1 : Int32)) S h
set_option maxRecDepth 100000 in
set_option maxHeartbeats 4000000 in
theorem c_M_round_111 {p : Program} {l : Launch} {e : Env} {s : State} {m : MethodId} {args : Array Value} {below : List Frame} {meth : Method} {c : Code} {G : zG} (C : zC p s m args meth c G b_M_round 7 y_M_round.cls) (hret : meth.sig.returnType = (some .int)) {fu : Nat} {r : Int32} {S1 : zSt} {k96 : Int32 → Int32 → Int32 → Int32 → zSt → Option (Int32 × zSt)} (hk96 : ∀ (a2 : Int32) (a3 : Int32) (a4 : Int32) (a5 : Int32) (S : zSt) , k96 a2 a3 a4 a5 S = some (r, S1) → zJ p l e rm_M_round s m args below meth c G true 7 0 0 (zQm below G args s rm_M_round true (some (zi r)) S1) S 96 [(0, zr (some 72)), (2, zi a2), (3, zi a3), (4, zi a4), (5, zi a5)] []) : ∀ (n : Nat) (a2 : Int32) (a3 : Int32) (a4 : Int32) (a5 : Int32) (a6 : Int32) (S : zSt) , f_M_round_111 fu k96 n a2 a3 a4 a5 a6 S = some (r, S1) → zJ p l e rm_M_round s m args below meth c G true 7 0 0 (zQm below G args s rm_M_round true (some (zi r)) S1) S 111 [(0, zr (some 72)), (2, zi a2), (3, zi a3), (4, zi a4), (5, zi a5), (6, zi a6)] [] := by
  intro n
  induction n with
  | zero =>
    intro a2 a3 a4 a5 a6 S h
    cases h
  | succ n ih =>
    intro a2 a3 a4 a5 a6 S h
    rw [f_M_round_111] at h
    refine z_iload_n C 2 rfl d_M_round_111 rfl ?_
    refine z_iload C 5 rfl d_M_round_112 ?_
    obtain ⟨r2, h1, h⟩ := zb1_some h
    refine z_cS C (m_M_isIn l h1) mf_M_isIn lk_11_390 st_M_isIn ⟨rfl, rfl⟩ ⟨by decide, by decide⟩ ⟨Nat.zero_le _, Nat.zero_le _⟩ rfl _ [] rfl (Nat.le_of_ble_eq_true rfl) d_M_round_114 ?_
    rcases zite h with ⟨c3, h⟩ | ⟨c3, h⟩
    · refine z_if_eqt C 139 c3 d_M_round_117 (by decide) ?_
      refine z_iinc C 5 (a6 + (1 : Int32)) [(6, zi (a6 + (1 : Int32))), (0, zr (some 72)), (2, zi a2), (3, zi a3), (4, zi a4), (5, zi a5)] rfl d_M_round_139 (by first | rfl | decide) (by decide) rfl ?_
      refine z_goto C 111 d_M_round_142 (by decide) ?_
      refine zq_lsub [1, 2, 3, 4, 5, 0] [(0, zr (some 72)), (2, zi a2), (3, zi a3), (4, zi a4), (5, zi a5), (6, zi (a6 + (1 : Int32)))] rfl ?_
      exact ih a2 a3 a4 a5 (a6 + (1 : Int32)) S h
    · refine z_if_eqf C 139 c3 d_M_round_117 (by decide) ?_
      refine z_aload_n C 0 rfl d_M_round_120 rfl ?_
      refine z_iload_n C 2 rfl d_M_round_121 rfl ?_
      refine z_iload C 3 rfl d_M_round_122 ?_
      refine z_iload C 5 rfl d_M_round_124 ?_
      obtain ⟨r5, h4, h⟩ := zb1_some h
      refine z_cV C 11 (by decide) (m_M_legOfRound l h4) mf_M_legOfRound lk_11_393 in_M_legOfRound se_M_legOfRound rfl zo_72 zk_72 ⟨rfl, rfl⟩ ⟨by decide, by decide⟩ ⟨Nat.zero_le _, Nat.zero_le _⟩ rfl _ [] rfl (Nat.le_of_ble_eq_true rfl) d_M_round_126 ?_
      refine z_aload_n C 0 rfl d_M_round_129 rfl ?_
      refine z_iload_n C 2 rfl d_M_round_130 rfl ?_
      refine z_iload C 3 rfl d_M_round_131 ?_
      obtain ⟨r7, h6, h⟩ := zb1_some h
      refine z_cV C 11 (by decide) (m_M_roundAt l h6) mf_M_roundAt lk_11_387 in_M_roundAt se_M_roundAt rfl zo_72 zk_72 ⟨rfl, rfl⟩ ⟨by decide, by decide⟩ ⟨Nat.zero_le _, Nat.zero_le _⟩ rfl _ [zi r5] rfl (Nat.le_of_ble_eq_true rfl) d_M_round_133 ?_
      rcases zite h with ⟨c8, h⟩ | ⟨c8, h⟩
      · refine z_icmp_eqt C 145 c8 d_M_round_136 (by decide) ?_
        refine zq_lsub [0, 1, 2, 4, 5] [(0, zr (some 72)), (2, zi a2), (3, zi a3), (5, zi a5), (6, zi a6)] rfl ?_
        exact c_M_round_145 C hret hk96  a2 a3 a5 a6 S h
      · refine z_icmp_eqf C 145 c8 d_M_round_136 (by decide) ?_
        refine z_iinc C 5 (a6 + (1 : Int32)) [(6, zi (a6 + (1 : Int32))), (0, zr (some 72)), (2, zi a2), (3, zi a3), (4, zi a4), (5, zi a5)] rfl d_M_round_139 (by first | rfl | decide) (by decide) rfl ?_
        refine z_goto C 111 d_M_round_142 (by decide) ?_
        refine zq_lsub [1, 2, 3, 4, 5, 0] [(0, zr (some 72)), (2, zi a2), (3, zi a3), (4, zi a4), (5, zi a5), (6, zi (a6 + (1 : Int32)))] rfl ?_
        exact ih a2 a3 a4 a5 (a6 + (1 : Int32)) S h
set_option maxRecDepth 100000 in
set_option maxHeartbeats 4000000 in
theorem c_M_round_96 {p : Program} {l : Launch} {e : Env} {s : State} {m : MethodId} {args : Array Value} {below : List Frame} {meth : Method} {c : Code} {G : zG} (C : zC p s m args meth c G b_M_round 7 y_M_round.cls) (hret : meth.sig.returnType = (some .int)) {fu : Nat} {r : Int32} {S1 : zSt} : ∀ (n : Nat) (a2 : Int32) (a3 : Int32) (a4 : Int32) (a5 : Int32) (S : zSt) , f_M_round_96 fu n a2 a3 a4 a5 S = some (r, S1) → zJ p l e rm_M_round s m args below meth c G true 7 0 0 (zQm below G args s rm_M_round true (some (zi r)) S1) S 96 [(0, zr (some 72)), (2, zi a2), (3, zi a3), (4, zi a4), (5, zi a5)] [] := by
  intro n
  induction n with
  | zero =>
    intro a2 a3 a4 a5 S h
    cases h
  | succ n ih =>
    intro a2 a3 a4 a5 S h
    rw [f_M_round_96] at h
    refine z_iload C 4 rfl d_M_round_96 ?_
    refine z_iload_n C 1 rfl d_M_round_98 rfl ?_
    rcases zite h with ⟨c1, h⟩ | ⟨c1, h⟩
    · refine z_icmp_gtt C 164 c1 d_M_round_99 (by decide) ?_
      refine z_iload C 3 rfl d_M_round_164 ?_
      cases h
      exact z_iret C .int hret rfl ⟨Nat.zero_le _, Nat.zero_le _⟩ d_M_round_166
    · refine z_icmp_gtf C 164 c1 d_M_round_99 (by decide) ?_
      refine z_iload_n C 2 rfl d_M_round_102 rfl ?_
      rcases zite h with ⟨c2, h⟩ | ⟨c2, h⟩
      · refine z_if_nef C 108 c2 d_M_round_103 (by decide) ?_
        refine z_iconst C (-1 : Int32) (by decide) d_M_round_106 ?_
        cases h
        exact z_iret C .int hret rfl ⟨Nat.zero_le _, Nat.zero_le _⟩ d_M_round_107
      · refine z_if_net C 108 c2 d_M_round_103 (by decide) ?_
        refine z_iconst C (0 : Int32) (by decide) d_M_round_108 ?_
        refine z_istore C [(6, zi (0 : Int32)), (0, zr (some 72)), (2, zi a2), (3, zi a3), (4, zi a4), (5, zi a5)] d_M_round_109 (by decide) rfl ?_
        refine zq_lsub [1, 2, 3, 4, 5, 0] [(0, zr (some 72)), (2, zi a2), (3, zi a3), (4, zi a4), (5, zi a5), (6, zi (0 : Int32))] rfl ?_
        exact c_M_round_111 C hret (fun z0 z1 z2 z3 zS zh => ih z0 z1 z2 z3 zS zh) fu  a2 a3 a4 a5 (0 : Int32) S h
set_option maxRecDepth 100000 in
set_option maxHeartbeats 4000000 in
theorem m_M_round (l : Launch) {fu : Nat} {a1 : Int32} {a2 : Int32} {S : zSt} {r : Int32} {S1 : zSt} (h : f_M_round fu a1 a2 S = some (r, S1)) : zPM l y_M_round b_M_round 7 (some .int) rm_M_round true true [zr (some 72), zi a1, zi a2] S (some (zi r)) S1 := by
  refine zPM_of (by decide) (Nat.le_of_ble_eq_true rfl) (fun p e s m args below meth c G C hret hname => ?_)
  unfold f_M_round at h
  refine (?_ : zJ p l e rm_M_round s m args below meth c G true 7 0 0 (zQm below G args s rm_M_round true (some (zi r)) S1) S 0 [(0, zr (some 72)), (1, zi a1), (2, zi a2)] [])
  refine z_aload_n C 0 rfl d_M_round_0 rfl ?_
  obtain ⟨r2, h1, h⟩ := zb1_some h
  refine z_cV C 11 (by decide) (m_M_springMany l h1) mf_M_springMany lk_11_118 in_M_springMany se_M_springMany rfl zo_72 zk_72 ⟨rfl, rfl⟩ ⟨by decide, by decide⟩ ⟨Nat.zero_le _, Nat.zero_le _⟩ rfl _ [] rfl (Nat.le_of_ble_eq_true rfl) d_M_round_1 ?_
  rcases zite h with ⟨c3, h⟩ | ⟨c3, h⟩
  · refine z_if_eqt C 20 c3 d_M_round_4 (by decide) ?_
    refine z_iconst C (-1 : Int32) (by decide) d_M_round_20 ?_
    cases h
    exact z_iret C .int hret rfl ⟨Nat.zero_le _, Nat.zero_le _⟩ d_M_round_21
  · refine z_if_eqf C 20 c3 d_M_round_4 (by decide) ?_
    refine z_aload_n C 0 rfl d_M_round_7 rfl ?_
    refine z_iload_n C 1 rfl d_M_round_8 rfl ?_
    obtain ⟨r5, h4, h⟩ := zb1_some h
    refine z_cV C 11 (by decide) (m_M_areSprings l h4) mf_M_areSprings lk_11_397 in_M_areSprings se_M_areSprings rfl zo_72 zk_72 ⟨rfl, rfl⟩ ⟨by decide, by decide⟩ ⟨Nat.zero_le _, Nat.zero_le _⟩ rfl _ [] rfl (Nat.le_of_ble_eq_true rfl) d_M_round_9 ?_
    rcases zite h with ⟨c6, h⟩ | ⟨c6, h⟩
    · refine z_if_eqt C 20 c6 d_M_round_12 (by decide) ?_
      refine z_iconst C (-1 : Int32) (by decide) d_M_round_20 ?_
      cases h
      exact z_iret C .int hret rfl ⟨Nat.zero_le _, Nat.zero_le _⟩ d_M_round_21
    · refine z_if_eqf C 20 c6 d_M_round_12 (by decide) ?_
      refine z_iload_n C 2 rfl d_M_round_15 rfl ?_
      refine z_iconst C (-1 : Int32) (by decide) d_M_round_16 ?_
      rcases zite h with ⟨c7, h⟩ | ⟨c7, h⟩
      · refine z_icmp_get C 22 c7 d_M_round_17 (by decide) ?_
        refine z_iload_n C 1 rfl d_M_round_22 rfl ?_
        refine z_iconst C (1 : Int32) (by decide) d_M_round_23 ?_
        refine z_aload_n C 0 rfl d_M_round_24 rfl ?_
        refine z_getF2 C 11 (by decide) 2 (by decide) rfl 2 5807 rfl (74) rfl zp_72 zk_72 zfl_11_24 d_M_round_25 ?_
        refine z_iconst C (0 : Int32) (by decide) d_M_round_28 ?_
        refine z_fact (fun hSR => ?_)
        refine z_ialoadS C zo_74 zk_74 (za_74 hSR) (by decide) d_M_round_29 ?_
        refine z_ishl C d_M_round_30 ?_
        refine z_iconst C (-1 : Int32) (by decide) d_M_round_31 ?_
        refine z_ixor C d_M_round_32 ?_
        refine z_iand C d_M_round_33 ?_
        refine z_istore_n C [(3, zi (a1 &&& (((1 : Int32) <<< ((zI S 74 (0 : Int32).toNatClampNeg) &&& 31)) ^^^ (-1 : Int32)))), (0, zr (some 72)), (1, zi a1), (2, zi a2)] d_M_round_34 rfl (by decide) rfl ?_
        refine z_aload_n C 1 rfl d_M_round_35 rfl ?_
        obtain ⟨S9, h8, h⟩ := zb1_some h
        refine z_cV C 11 (by decide) (m_M_laysSoon l h8) mf_M_laysSoon lk_11_375 in_M_laysSoon se_M_laysSoon rfl zo_72 zk_72 ⟨rfl, rfl⟩ ⟨by decide, by decide⟩ ⟨Nat.zero_le _, Nat.zero_le _⟩ rfl _ [] rfl (Nat.le_of_ble_eq_true rfl) d_M_round_36 ?_
        refine z_aload_n C 1 rfl d_M_round_39 rfl ?_
        refine z_iload_n C 0 rfl d_M_round_40 rfl ?_
        obtain ⟨S11, h10, h⟩ := zb1_some h
        refine z_cV C 11 (by decide) (m_M_laysRounds l h10) mf_M_laysRounds lk_11_400 in_M_laysRounds se_M_laysRounds rfl zo_72 zk_72 ⟨rfl, rfl⟩ ⟨by decide, by decide⟩ ⟨Nat.zero_le _, Nat.zero_le _⟩ rfl _ [] rfl (Nat.le_of_ble_eq_true rfl) d_M_round_41 ?_
        refine z_aload_n C 1 rfl d_M_round_44 rfl ?_
        refine z_getF2 C 11 (by decide) 2 (by decide) rfl 2 5807 rfl (74) rfl zp_72 zk_72 zfl_11_24 d_M_round_45 ?_
        refine z_iconst C (0 : Int32) (by decide) d_M_round_48 ?_
        refine z_fact (fun hSR => ?_)
        refine z_ialoadS C zo_74 zk_74 (za_74 hSR) (by decide) d_M_round_49 ?_
        refine z_istore C [(4, zi (zI S11 74 (0 : Int32).toNatClampNeg)), (3, zi (a1 &&& (((1 : Int32) <<< ((zI S 74 (0 : Int32).toNatClampNeg) &&& 31)) ^^^ (-1 : Int32)))), (0, zr (some 72)), (1, zi a1), (2, zi a2)] d_M_round_50 (by decide) rfl ?_
        refine z_aload_n C 2 rfl d_M_round_52 rfl ?_
        refine z_iload_n C 1 rfl d_M_round_53 rfl ?_
        refine z_iload C 0 rfl d_M_round_54 ?_
        obtain ⟨r13, h12, h⟩ := zb1_some h
        refine z_cV C 11 (by decide) (m_M_roundAt l h12) mf_M_roundAt lk_11_387 in_M_roundAt se_M_roundAt rfl zo_72 zk_72 ⟨rfl, rfl⟩ ⟨by decide, by decide⟩ ⟨Nat.zero_le _, Nat.zero_le _⟩ rfl _ [] rfl (Nat.le_of_ble_eq_true rfl) d_M_round_56 ?_
        refine z_ldc C zc_11_177 d_M_round_59 ?_
        rcases zite h with ⟨c14, h⟩ | ⟨c14, h⟩
        · refine z_icmp_get C 69 c14 d_M_round_61 (by decide) ?_
          refine zq_lsub [2, 1, 0] [(0, zr (some 72)), (3, zi (a1 &&& (((1 : Int32) <<< ((zI S 74 (0 : Int32).toNatClampNeg) &&& 31)) ^^^ (-1 : Int32)))), (4, zi (zI S11 74 (0 : Int32).toNatClampNeg))] rfl ?_
          exact c_M_round_69 C hret  (a1 &&& (((1 : Int32) <<< ((zI S 74 (0 : Int32).toNatClampNeg) &&& 31)) ^^^ (-1 : Int32))) (zI S11 74 (0 : Int32).toNatClampNeg) S11 h
        · refine z_icmp_gef C 69 c14 d_M_round_61 (by decide) ?_
          refine z_iload_n C 4 rfl d_M_round_64 rfl ?_
          refine z_iconst C (-1 : Int32) (by decide) d_M_round_65 ?_
          rcases zite h with ⟨c15, h⟩ | ⟨c15, h⟩
          · refine z_icmp_nef C 93 c15 d_M_round_66 (by decide) ?_
            refine zq_lsub [2, 1, 0] [(0, zr (some 72)), (3, zi (a1 &&& (((1 : Int32) <<< ((zI S 74 (0 : Int32).toNatClampNeg) &&& 31)) ^^^ (-1 : Int32)))), (4, zi (zI S11 74 (0 : Int32).toNatClampNeg))] rfl ?_
            exact c_M_round_69 C hret  (a1 &&& (((1 : Int32) <<< ((zI S 74 (0 : Int32).toNatClampNeg) &&& 31)) ^^^ (-1 : Int32))) (zI S11 74 (0 : Int32).toNatClampNeg) S11 h
          · refine z_icmp_net C 93 c15 d_M_round_66 (by decide) ?_
            refine z_iconst C (0 : Int32) (by decide) d_M_round_93 ?_
            refine z_istore C [(5, zi (0 : Int32)), (4, zi (zI S11 74 (0 : Int32).toNatClampNeg)), (3, zi (a1 &&& (((1 : Int32) <<< ((zI S 74 (0 : Int32).toNatClampNeg) &&& 31)) ^^^ (-1 : Int32)))), (0, zr (some 72)), (1, zi a1), (2, zi a2)] d_M_round_94 (by decide) rfl ?_
            refine zq_lsub [3, 5, 2, 1, 0] [(0, zr (some 72)), (2, zi a2), (3, zi (a1 &&& (((1 : Int32) <<< ((zI S 74 (0 : Int32).toNatClampNeg) &&& 31)) ^^^ (-1 : Int32)))), (4, zi (zI S11 74 (0 : Int32).toNatClampNeg)), (5, zi (0 : Int32))] rfl ?_
            exact c_M_round_96 C hret fu  a2 (a1 &&& (((1 : Int32) <<< ((zI S 74 (0 : Int32).toNatClampNeg) &&& 31)) ^^^ (-1 : Int32))) (zI S11 74 (0 : Int32).toNatClampNeg) (0 : Int32) S11 h
      · refine z_icmp_gef C 22 c7 d_M_round_17 (by decide) ?_
        refine z_iconst C (-1 : Int32) (by decide) d_M_round_20 ?_
        cases h
        exact z_iret C .int hret rfl ⟨Nat.zero_le _, Nat.zero_le _⟩ d_M_round_21
def f_M_laysWeights_12 (fu : Nat) (k2 : Int32 → zSt → Option zSt) : Nat → Int32 → Int32 → zSt → Option zSt
  | 0, _, _, _ => none
  | n + 1, a1, a2, S => zb1 (f_M_springMany S) (fun r2 => if r2 ≤ a2 then k2 (a1 + (1 : Int32)) S else zb1 (f_M_pairAt a1 a2) (fun r5 => if a1 = a2 then zgd (0 ≤ r5 ∧ r5.toNatClampNeg < 81) (f_M_laysWeights_12 fu k2 n a1 (a2 + (1 : Int32)) (zwI S 92 r5.toNatClampNeg (0 : Int32))) else zb1 (f_M_farOf a1 a2 S) (fun r9 => if r9 ≤ 0 then zgd (0 ≤ r5 ∧ r5.toNatClampNeg < 81) (f_M_laysWeights_12 fu k2 n a1 (a2 + (1 : Int32)) (zwI S 92 r5.toNatClampNeg (0 : Int32))) else zb1 (f_M_isShut a1 a2 S) (fun r13 => if r13 = 0 then zb2 (f_M_weighsFor fu a1 a2 S) (fun r17 S18 => zgd (0 ≤ r5 ∧ r5.toNatClampNeg < 81) (f_M_laysWeights_12 fu k2 n a1 (a2 + (1 : Int32)) (zwI S18 92 r5.toNatClampNeg r17))) else zgd (0 ≤ r5 ∧ r5.toNatClampNeg < 81) (f_M_laysWeights_12 fu k2 n a1 (a2 + (1 : Int32)) (zwI S 92 r5.toNatClampNeg (0 : Int32)))))))
def f_M_laysWeights_2 (fu : Nat) : Nat → Int32 → zSt → Option zSt
  | 0, _, _ => none
  | n + 1, a1, S => zb1 (f_M_springMany S) (fun r2 => if r2 ≤ a1 then some S else f_M_laysWeights_12 fu (f_M_laysWeights_2 fu n) fu a1 (0 : Int32) S)
def f_M_laysWeights (fu : Nat) (S : zSt) : Option zSt := f_M_laysWeights_2 fu fu (0 : Int32) S
set_option maxRecDepth 100000 in
set_option maxHeartbeats 4000000 in
theorem c_M_laysWeights_12 {p : Program} {l : Launch} {e : Env} {s : State} {m : MethodId} {args : Array Value} {below : List Frame} {meth : Method} {c : Code} {G : zG} (C : zC p s m args meth c G b_M_laysWeights 3 y_M_laysWeights.cls) (hret : meth.sig.returnType = none) {fu : Nat} {S1 : zSt} {k2 : Int32 → zSt → Option zSt} (hk2 : ∀ (a1 : Int32) (S : zSt) , k2 a1 S = some S1 → zJ p l e rm_M_laysWeights s m args below meth c G true 3 0 0 (zQm below G args s rm_M_laysWeights true none S1) S 2 [(0, zr (some 72)), (1, zi a1)] []) : ∀ (n : Nat) (a1 : Int32) (a2 : Int32) (S : zSt) , f_M_laysWeights_12 fu k2 n a1 a2 S = some S1 → zJ p l e rm_M_laysWeights s m args below meth c G true 3 0 0 (zQm below G args s rm_M_laysWeights true none S1) S 12 [(0, zr (some 72)), (1, zi a1), (2, zi a2)] [] := by
  intro n
  induction n with
  | zero =>
    intro a1 a2 S h
    cases h
  | succ n ih =>
    intro a1 a2 S h
    rw [f_M_laysWeights_12] at h
    refine z_iload_n C 2 rfl d_M_laysWeights_12 rfl ?_
    refine z_aload_n C 0 rfl d_M_laysWeights_13 rfl ?_
    obtain ⟨r2, h1, h⟩ := zb1_some h
    refine z_cV C 11 (by decide) (m_M_springMany l h1) mf_M_springMany lk_11_118 in_M_springMany se_M_springMany rfl zo_72 zk_72 ⟨rfl, rfl⟩ ⟨by decide, by decide⟩ ⟨Nat.zero_le _, Nat.zero_le _⟩ rfl _ [zi a2] rfl (Nat.le_of_ble_eq_true rfl) d_M_laysWeights_14 ?_
    rcases zite h with ⟨c3, h⟩ | ⟨c3, h⟩
    · refine z_icmp_get C 69 c3 d_M_laysWeights_17 (by decide) ?_
      refine z_iinc C 1 (a1 + (1 : Int32)) [(1, zi (a1 + (1 : Int32))), (0, zr (some 72)), (2, zi a2)] rfl d_M_laysWeights_69 (by first | rfl | decide) (by decide) rfl ?_
      refine z_goto C 2 d_M_laysWeights_72 (by decide) ?_
      refine zq_lsub [1, 0] [(0, zr (some 72)), (1, zi (a1 + (1 : Int32)))] rfl ?_
      exact hk2 (a1 + (1 : Int32)) S h
    · refine z_icmp_gef C 69 c3 d_M_laysWeights_17 (by decide) ?_
      refine z_aload_n C 0 rfl d_M_laysWeights_20 rfl ?_
      refine z_getF2 C 11 (by decide) 37 (by decide) rfl 20 81 rfl (92) rfl zp_72 zk_72 zfl_11_83 d_M_laysWeights_21 ?_
      refine z_iload_n C 1 rfl d_M_laysWeights_24 rfl ?_
      refine z_iload_n C 2 rfl d_M_laysWeights_25 rfl ?_
      obtain ⟨r5, h4, h⟩ := zb1_some h
      refine z_cS C (m_M_pairAt l h4) mf_M_pairAt lk_11_126 st_M_pairAt ⟨rfl, rfl⟩ ⟨by decide, by decide⟩ ⟨Nat.zero_le _, Nat.zero_le _⟩ rfl _ [zr (some 92)] rfl (Nat.le_of_ble_eq_true rfl) d_M_laysWeights_26 ?_
      refine z_iload_n C 1 rfl d_M_laysWeights_29 rfl ?_
      refine z_iload_n C 2 rfl d_M_laysWeights_30 rfl ?_
      rcases zite h with ⟨c6, h⟩ | ⟨c6, h⟩
      · refine z_icmp_eqt C 61 c6 d_M_laysWeights_31 (by decide) ?_
        refine z_iconst C (0 : Int32) (by decide) d_M_laysWeights_61 ?_
        refine z_fact (fun hSR => ?_)
        obtain ⟨g7, h⟩ := zgd_some h
        refine z_iastoreS C zo_92 zk_92 (za_92 hSR) g7 d_M_laysWeights_62 ?_
        refine z_iinc C 2 (a2 + (1 : Int32)) [(2, zi (a2 + (1 : Int32))), (0, zr (some 72)), (1, zi a1)] rfl d_M_laysWeights_63 (by first | rfl | decide) (by decide) rfl ?_
        refine z_goto C 12 d_M_laysWeights_66 (by decide) ?_
        refine zq_lsub [1, 2, 0] [(0, zr (some 72)), (1, zi a1), (2, zi (a2 + (1 : Int32)))] rfl ?_
        exact ih a1 (a2 + (1 : Int32)) (zwI S 92 r5.toNatClampNeg (0 : Int32)) h
      · refine z_icmp_eqf C 61 c6 d_M_laysWeights_31 (by decide) ?_
        refine z_aload_n C 0 rfl d_M_laysWeights_34 rfl ?_
        refine z_iload_n C 1 rfl d_M_laysWeights_35 rfl ?_
        refine z_iload_n C 2 rfl d_M_laysWeights_36 rfl ?_
        obtain ⟨r9, h8, h⟩ := zb1_some h
        refine z_cV C 11 (by decide) (m_M_farOf l h8) mf_M_farOf lk_11_134 in_M_farOf se_M_farOf rfl zo_72 zk_72 ⟨rfl, rfl⟩ ⟨by decide, by decide⟩ ⟨Nat.zero_le _, Nat.zero_le _⟩ rfl _ [zi r5, zr (some 92)] rfl (Nat.le_of_ble_eq_true rfl) d_M_laysWeights_37 ?_
        rcases zite h with ⟨c10, h⟩ | ⟨c10, h⟩
        · refine z_if_let C 61 c10 d_M_laysWeights_40 (by decide) ?_
          refine z_iconst C (0 : Int32) (by decide) d_M_laysWeights_61 ?_
          refine z_fact (fun hSR => ?_)
          obtain ⟨g11, h⟩ := zgd_some h
          refine z_iastoreS C zo_92 zk_92 (za_92 hSR) g11 d_M_laysWeights_62 ?_
          refine z_iinc C 2 (a2 + (1 : Int32)) [(2, zi (a2 + (1 : Int32))), (0, zr (some 72)), (1, zi a1)] rfl d_M_laysWeights_63 (by first | rfl | decide) (by decide) rfl ?_
          refine z_goto C 12 d_M_laysWeights_66 (by decide) ?_
          refine zq_lsub [1, 2, 0] [(0, zr (some 72)), (1, zi a1), (2, zi (a2 + (1 : Int32)))] rfl ?_
          exact ih a1 (a2 + (1 : Int32)) (zwI S 92 r5.toNatClampNeg (0 : Int32)) h
        · refine z_if_lef C 61 c10 d_M_laysWeights_40 (by decide) ?_
          refine z_aload_n C 0 rfl d_M_laysWeights_43 rfl ?_
          refine z_iload_n C 1 rfl d_M_laysWeights_44 rfl ?_
          refine z_iload_n C 2 rfl d_M_laysWeights_45 rfl ?_
          obtain ⟨r13, h12, h⟩ := zb1_some h
          refine z_cV C 11 (by decide) (m_M_isShut l h12) mf_M_isShut lk_11_338 in_M_isShut se_M_isShut rfl zo_72 zk_72 ⟨rfl, rfl⟩ ⟨by decide, by decide⟩ ⟨Nat.zero_le _, Nat.zero_le _⟩ rfl _ [zi r5, zr (some 92)] rfl (Nat.le_of_ble_eq_true rfl) d_M_laysWeights_46 ?_
          rcases zite h with ⟨c14, h⟩ | ⟨c14, h⟩
          · refine z_if_nef C 61 c14 d_M_laysWeights_49 (by decide) ?_
            refine z_aload_n C 0 rfl d_M_laysWeights_52 rfl ?_
            refine z_iload_n C 1 rfl d_M_laysWeights_53 rfl ?_
            refine z_iload_n C 2 rfl d_M_laysWeights_54 rfl ?_
            obtain ⟨r17, S18, h16, h⟩ := zb2_some h
            refine z_cV C 11 (by decide) (m_M_weighsFor l h16) mf_M_weighsFor lk_11_147 in_M_weighsFor se_M_weighsFor rfl zo_72 zk_72 ⟨rfl, rfl⟩ ⟨by decide, by decide⟩ ⟨Nat.zero_le _, Nat.zero_le _⟩ rfl _ [zi r5, zr (some 92)] rfl (Nat.le_of_ble_eq_true rfl) d_M_laysWeights_55 ?_
            refine z_goto C 62 d_M_laysWeights_58 (by decide) ?_
            refine z_fact (fun hSR => ?_)
            obtain ⟨g19, h⟩ := zgd_some h
            refine z_iastoreS C zo_92 zk_92 (za_92 hSR) g19 d_M_laysWeights_62 ?_
            refine z_iinc C 2 (a2 + (1 : Int32)) [(2, zi (a2 + (1 : Int32))), (0, zr (some 72)), (1, zi a1)] rfl d_M_laysWeights_63 (by first | rfl | decide) (by decide) rfl ?_
            refine z_goto C 12 d_M_laysWeights_66 (by decide) ?_
            refine zq_lsub [1, 2, 0] [(0, zr (some 72)), (1, zi a1), (2, zi (a2 + (1 : Int32)))] rfl ?_
            exact ih a1 (a2 + (1 : Int32)) (zwI S18 92 r5.toNatClampNeg r17) h
          · refine z_if_net C 61 c14 d_M_laysWeights_49 (by decide) ?_
            refine z_iconst C (0 : Int32) (by decide) d_M_laysWeights_61 ?_
            refine z_fact (fun hSR => ?_)
            obtain ⟨g15, h⟩ := zgd_some h
            refine z_iastoreS C zo_92 zk_92 (za_92 hSR) g15 d_M_laysWeights_62 ?_
            refine z_iinc C 2 (a2 + (1 : Int32)) [(2, zi (a2 + (1 : Int32))), (0, zr (some 72)), (1, zi a1)] rfl d_M_laysWeights_63 (by first | rfl | decide) (by decide) rfl ?_
            refine z_goto C 12 d_M_laysWeights_66 (by decide) ?_
            refine zq_lsub [1, 2, 0] [(0, zr (some 72)), (1, zi a1), (2, zi (a2 + (1 : Int32)))] rfl ?_
            exact ih a1 (a2 + (1 : Int32)) (zwI S 92 r5.toNatClampNeg (0 : Int32)) h
set_option maxRecDepth 100000 in
set_option maxHeartbeats 4000000 in
theorem c_M_laysWeights_2 {p : Program} {l : Launch} {e : Env} {s : State} {m : MethodId} {args : Array Value} {below : List Frame} {meth : Method} {c : Code} {G : zG} (C : zC p s m args meth c G b_M_laysWeights 3 y_M_laysWeights.cls) (hret : meth.sig.returnType = none) {fu : Nat} {S1 : zSt} : ∀ (n : Nat) (a1 : Int32) (S : zSt) , f_M_laysWeights_2 fu n a1 S = some S1 → zJ p l e rm_M_laysWeights s m args below meth c G true 3 0 0 (zQm below G args s rm_M_laysWeights true none S1) S 2 [(0, zr (some 72)), (1, zi a1)] [] := by
  intro n
  induction n with
  | zero =>
    intro a1 S h
    cases h
  | succ n ih =>
    intro a1 S h
    rw [f_M_laysWeights_2] at h
    refine z_iload_n C 1 rfl d_M_laysWeights_2 rfl ?_
    refine z_aload_n C 0 rfl d_M_laysWeights_3 rfl ?_
    obtain ⟨r2, h1, h⟩ := zb1_some h
    refine z_cV C 11 (by decide) (m_M_springMany l h1) mf_M_springMany lk_11_118 in_M_springMany se_M_springMany rfl zo_72 zk_72 ⟨rfl, rfl⟩ ⟨by decide, by decide⟩ ⟨Nat.zero_le _, Nat.zero_le _⟩ rfl _ [zi a1] rfl (Nat.le_of_ble_eq_true rfl) d_M_laysWeights_4 ?_
    rcases zite h with ⟨c3, h⟩ | ⟨c3, h⟩
    · refine z_icmp_get C 75 c3 d_M_laysWeights_7 (by decide) ?_
      cases h
      exact z_vret C hret ⟨Nat.zero_le _, Nat.zero_le _⟩ d_M_laysWeights_75
    · refine z_icmp_gef C 75 c3 d_M_laysWeights_7 (by decide) ?_
      refine z_iconst C (0 : Int32) (by decide) d_M_laysWeights_10 ?_
      refine z_istore_n C [(2, zi (0 : Int32)), (0, zr (some 72)), (1, zi a1)] d_M_laysWeights_11 rfl (by decide) rfl ?_
      refine zq_lsub [1, 2, 0] [(0, zr (some 72)), (1, zi a1), (2, zi (0 : Int32))] rfl ?_
      exact c_M_laysWeights_12 C hret (fun z0 zS zh => ih z0 zS zh) fu  a1 (0 : Int32) S h
set_option maxRecDepth 100000 in
set_option maxHeartbeats 4000000 in
theorem m_M_laysWeights (l : Launch) {fu : Nat} {S : zSt} {S1 : zSt} (h : f_M_laysWeights fu  S = some S1) : zPM l y_M_laysWeights b_M_laysWeights 3 none rm_M_laysWeights true true [zr (some 72)] S none S1 := by
  refine zPM_of (by decide) (Nat.le_of_ble_eq_true rfl) (fun p e s m args below meth c G C hret hname => ?_)
  unfold f_M_laysWeights at h
  refine (?_ : zJ p l e rm_M_laysWeights s m args below meth c G true 3 0 0 (zQm below G args s rm_M_laysWeights true none S1) S 0 [(0, zr (some 72))] [])
  refine z_iconst C (0 : Int32) (by decide) d_M_laysWeights_0 ?_
  refine z_istore_n C [(1, zi (0 : Int32)), (0, zr (some 72))] d_M_laysWeights_1 rfl (by decide) rfl ?_
  refine zq_lsub [1, 0] [(0, zr (some 72)), (1, zi (0 : Int32))] rfl ?_
  exact c_M_laysWeights_2 C hret fu  (0 : Int32) S h
def f_M_weightOut_15 (fu : Nat) (k4 : Int32 → Int32 → Int32 → zSt → Option Int32) : Nat → Int32 → Int32 → Int32 → Int32 → zSt → Option Int32
  | 0, _, _, _, _, _ => none
  | n + 1, a1, a2, a3, a4, S => zb1 (f_M_springMany S) (fun r2 => if r2 ≤ a4 then k4 a1 a2 (a3 + (1 : Int32)) S else zb1 (f_M_isIn a1 a3) (fun r5 => if r5 = 0 then f_M_weightOut_15 fu k4 n a1 (a2 + (0 : Int32)) a3 (a4 + (1 : Int32)) S else zb1 (f_M_isIn a1 a4) (fun r8 => if r8 = 0 then zb1 (f_M_pairAt a3 a4) (fun r11 => zgd (0 ≤ r11 ∧ r11.toNatClampNeg < 81) (f_M_weightOut_15 fu k4 n a1 (a2 + (zI S 92 r11.toNatClampNeg)) a3 (a4 + (1 : Int32)) S)) else f_M_weightOut_15 fu k4 n a1 (a2 + (0 : Int32)) a3 (a4 + (1 : Int32)) S)))
def f_M_weightOut_4 (fu : Nat) : Nat → Int32 → Int32 → Int32 → zSt → Option Int32
  | 0, _, _, _, _ => none
  | n + 1, a1, a2, a3, S => zb1 (f_M_springMany S) (fun r2 => if r2 ≤ a3 then some a2 else f_M_weightOut_15 fu (f_M_weightOut_4 fu n) fu a1 a2 a3 (0 : Int32) S)
def f_M_weightOut (fu : Nat) (a1 : Int32) (S : zSt) : Option Int32 := f_M_weightOut_4 fu fu a1 (0 : Int32) (0 : Int32) S
set_option maxRecDepth 100000 in
set_option maxHeartbeats 4000000 in
theorem c_M_weightOut_15 {p : Program} {l : Launch} {e : Env} {s : State} {m : MethodId} {args : Array Value} {below : List Frame} {meth : Method} {c : Code} {G : zG} (C : zC p s m args meth c G b_M_weightOut 5 y_M_weightOut.cls) (hret : meth.sig.returnType = (some .int)) {fu : Nat} {r : Int32} {k4 : Int32 → Int32 → Int32 → zSt → Option Int32} (hk4 : ∀ (a1 : Int32) (a2 : Int32) (a3 : Int32) (S : zSt) , k4 a1 a2 a3 S = some r → zJ p l e rm_M_weightOut s m args below meth c G true 5 0 0 (zQm below G args s rm_M_weightOut true (some (zi r)) S) S 4 [(0, zr (some 72)), (1, zi a1), (2, zi a2), (3, zi a3)] []) : ∀ (n : Nat) (a1 : Int32) (a2 : Int32) (a3 : Int32) (a4 : Int32) (S : zSt) , f_M_weightOut_15 fu k4 n a1 a2 a3 a4 S = some r → zJ p l e rm_M_weightOut s m args below meth c G true 5 0 0 (zQm below G args s rm_M_weightOut true (some (zi r)) S) S 15 [(0, zr (some 72)), (1, zi a1), (2, zi a2), (3, zi a3), (4, zi a4)] [] := by
  intro n
  induction n with
  | zero =>
    intro a1 a2 a3 a4 S h
    cases h
  | succ n ih =>
    intro a1 a2 a3 a4 S h
    rw [f_M_weightOut_15] at h
    refine z_iload C 4 rfl d_M_weightOut_15 ?_
    refine z_aload_n C 0 rfl d_M_weightOut_17 rfl ?_
    obtain ⟨r2, h1, h⟩ := zb1_some h
    refine z_cV C 11 (by decide) (m_M_springMany l h1) mf_M_springMany lk_11_118 in_M_springMany se_M_springMany rfl zo_72 zk_72 ⟨rfl, rfl⟩ ⟨by decide, by decide⟩ ⟨Nat.zero_le _, Nat.zero_le _⟩ rfl _ [zi a4] rfl (Nat.le_of_ble_eq_true rfl) d_M_weightOut_18 ?_
    rcases zite h with ⟨c3, h⟩ | ⟨c3, h⟩
    · refine z_icmp_get C 65 c3 d_M_weightOut_21 (by decide) ?_
      refine z_iinc C 3 (a3 + (1 : Int32)) [(3, zi (a3 + (1 : Int32))), (0, zr (some 72)), (1, zi a1), (2, zi a2), (4, zi a4)] rfl d_M_weightOut_65 (by first | rfl | decide) (by decide) rfl ?_
      refine z_goto C 4 d_M_weightOut_68 (by decide) ?_
      refine zq_lsub [1, 2, 3, 0] [(0, zr (some 72)), (1, zi a1), (2, zi a2), (3, zi (a3 + (1 : Int32)))] rfl ?_
      exact hk4 a1 a2 (a3 + (1 : Int32)) S h
    · refine z_icmp_gef C 65 c3 d_M_weightOut_21 (by decide) ?_
      refine z_iload_n C 2 rfl d_M_weightOut_24 rfl ?_
      refine z_iload_n C 1 rfl d_M_weightOut_25 rfl ?_
      refine z_iload_n C 3 rfl d_M_weightOut_26 rfl ?_
      obtain ⟨r5, h4, h⟩ := zb1_some h
      refine z_cS C (m_M_isIn l h4) mf_M_isIn lk_11_390 st_M_isIn ⟨rfl, rfl⟩ ⟨by decide, by decide⟩ ⟨Nat.zero_le _, Nat.zero_le _⟩ rfl _ [zi a2] rfl (Nat.le_of_ble_eq_true rfl) d_M_weightOut_27 ?_
      rcases zite h with ⟨c6, h⟩ | ⟨c6, h⟩
      · refine z_if_eqt C 56 c6 d_M_weightOut_30 (by decide) ?_
        refine z_iconst C (0 : Int32) (by decide) d_M_weightOut_56 ?_
        refine z_iadd C d_M_weightOut_57 ?_
        refine z_istore_n C [(2, zi (a2 + (0 : Int32))), (0, zr (some 72)), (1, zi a1), (3, zi a3), (4, zi a4)] d_M_weightOut_58 rfl (by decide) rfl ?_
        refine z_iinc C 4 (a4 + (1 : Int32)) [(4, zi (a4 + (1 : Int32))), (2, zi (a2 + (0 : Int32))), (0, zr (some 72)), (1, zi a1), (3, zi a3)] rfl d_M_weightOut_59 (by first | rfl | decide) (by decide) rfl ?_
        refine z_goto C 15 d_M_weightOut_62 (by decide) ?_
        refine zq_lsub [2, 3, 1, 4, 0] [(0, zr (some 72)), (1, zi a1), (2, zi (a2 + (0 : Int32))), (3, zi a3), (4, zi (a4 + (1 : Int32)))] rfl ?_
        exact ih a1 (a2 + (0 : Int32)) a3 (a4 + (1 : Int32)) S h
      · refine z_if_eqf C 56 c6 d_M_weightOut_30 (by decide) ?_
        refine z_iload_n C 1 rfl d_M_weightOut_33 rfl ?_
        refine z_iload C 4 rfl d_M_weightOut_34 ?_
        obtain ⟨r8, h7, h⟩ := zb1_some h
        refine z_cS C (m_M_isIn l h7) mf_M_isIn lk_11_390 st_M_isIn ⟨rfl, rfl⟩ ⟨by decide, by decide⟩ ⟨Nat.zero_le _, Nat.zero_le _⟩ rfl _ [zi a2] rfl (Nat.le_of_ble_eq_true rfl) d_M_weightOut_36 ?_
        rcases zite h with ⟨c9, h⟩ | ⟨c9, h⟩
        · refine z_if_nef C 56 c9 d_M_weightOut_39 (by decide) ?_
          refine z_aload_n C 0 rfl d_M_weightOut_42 rfl ?_
          refine z_getF2 C 11 (by decide) 37 (by decide) rfl 20 81 rfl (92) rfl zp_72 zk_72 zfl_11_83 d_M_weightOut_43 ?_
          refine z_iload_n C 3 rfl d_M_weightOut_46 rfl ?_
          refine z_iload C 4 rfl d_M_weightOut_47 ?_
          obtain ⟨r11, h10, h⟩ := zb1_some h
          refine z_cS C (m_M_pairAt l h10) mf_M_pairAt lk_11_126 st_M_pairAt ⟨rfl, rfl⟩ ⟨by decide, by decide⟩ ⟨Nat.zero_le _, Nat.zero_le _⟩ rfl _ [zr (some 92), zi a2] rfl (Nat.le_of_ble_eq_true rfl) d_M_weightOut_49 ?_
          refine z_fact (fun hSR => ?_)
          obtain ⟨g12, h⟩ := zgd_some h
          refine z_ialoadS C zo_92 zk_92 (za_92 hSR) g12 d_M_weightOut_52 ?_
          refine z_goto C 57 d_M_weightOut_53 (by decide) ?_
          refine z_iadd C d_M_weightOut_57 ?_
          refine z_istore_n C [(2, zi (a2 + (zI S 92 r11.toNatClampNeg))), (0, zr (some 72)), (1, zi a1), (3, zi a3), (4, zi a4)] d_M_weightOut_58 rfl (by decide) rfl ?_
          refine z_iinc C 4 (a4 + (1 : Int32)) [(4, zi (a4 + (1 : Int32))), (2, zi (a2 + (zI S 92 r11.toNatClampNeg))), (0, zr (some 72)), (1, zi a1), (3, zi a3)] rfl d_M_weightOut_59 (by first | rfl | decide) (by decide) rfl ?_
          refine z_goto C 15 d_M_weightOut_62 (by decide) ?_
          refine zq_lsub [2, 3, 1, 4, 0] [(0, zr (some 72)), (1, zi a1), (2, zi (a2 + (zI S 92 r11.toNatClampNeg))), (3, zi a3), (4, zi (a4 + (1 : Int32)))] rfl ?_
          exact ih a1 (a2 + (zI S 92 r11.toNatClampNeg)) a3 (a4 + (1 : Int32)) S h
        · refine z_if_net C 56 c9 d_M_weightOut_39 (by decide) ?_
          refine z_iconst C (0 : Int32) (by decide) d_M_weightOut_56 ?_
          refine z_iadd C d_M_weightOut_57 ?_
          refine z_istore_n C [(2, zi (a2 + (0 : Int32))), (0, zr (some 72)), (1, zi a1), (3, zi a3), (4, zi a4)] d_M_weightOut_58 rfl (by decide) rfl ?_
          refine z_iinc C 4 (a4 + (1 : Int32)) [(4, zi (a4 + (1 : Int32))), (2, zi (a2 + (0 : Int32))), (0, zr (some 72)), (1, zi a1), (3, zi a3)] rfl d_M_weightOut_59 (by first | rfl | decide) (by decide) rfl ?_
          refine z_goto C 15 d_M_weightOut_62 (by decide) ?_
          refine zq_lsub [2, 3, 1, 4, 0] [(0, zr (some 72)), (1, zi a1), (2, zi (a2 + (0 : Int32))), (3, zi a3), (4, zi (a4 + (1 : Int32)))] rfl ?_
          exact ih a1 (a2 + (0 : Int32)) a3 (a4 + (1 : Int32)) S h
set_option maxRecDepth 100000 in
set_option maxHeartbeats 4000000 in
theorem c_M_weightOut_4 {p : Program} {l : Launch} {e : Env} {s : State} {m : MethodId} {args : Array Value} {below : List Frame} {meth : Method} {c : Code} {G : zG} (C : zC p s m args meth c G b_M_weightOut 5 y_M_weightOut.cls) (hret : meth.sig.returnType = (some .int)) {fu : Nat} {r : Int32} : ∀ (n : Nat) (a1 : Int32) (a2 : Int32) (a3 : Int32) (S : zSt) , f_M_weightOut_4 fu n a1 a2 a3 S = some r → zJ p l e rm_M_weightOut s m args below meth c G true 5 0 0 (zQm below G args s rm_M_weightOut true (some (zi r)) S) S 4 [(0, zr (some 72)), (1, zi a1), (2, zi a2), (3, zi a3)] [] := by
  intro n
  induction n with
  | zero =>
    intro a1 a2 a3 S h
    cases h
  | succ n ih =>
    intro a1 a2 a3 S h
    rw [f_M_weightOut_4] at h
    refine z_iload_n C 3 rfl d_M_weightOut_4 rfl ?_
    refine z_aload_n C 0 rfl d_M_weightOut_5 rfl ?_
    obtain ⟨r2, h1, h⟩ := zb1_some h
    refine z_cV C 11 (by decide) (m_M_springMany l h1) mf_M_springMany lk_11_118 in_M_springMany se_M_springMany rfl zo_72 zk_72 ⟨rfl, rfl⟩ ⟨by decide, by decide⟩ ⟨Nat.zero_le _, Nat.zero_le _⟩ rfl _ [zi a3] rfl (Nat.le_of_ble_eq_true rfl) d_M_weightOut_6 ?_
    rcases zite h with ⟨c3, h⟩ | ⟨c3, h⟩
    · refine z_icmp_get C 71 c3 d_M_weightOut_9 (by decide) ?_
      refine z_iload_n C 2 rfl d_M_weightOut_71 rfl ?_
      cases h
      exact z_iret C .int hret rfl ⟨Nat.zero_le _, Nat.zero_le _⟩ d_M_weightOut_72
    · refine z_icmp_gef C 71 c3 d_M_weightOut_9 (by decide) ?_
      refine z_iconst C (0 : Int32) (by decide) d_M_weightOut_12 ?_
      refine z_istore C [(4, zi (0 : Int32)), (0, zr (some 72)), (1, zi a1), (2, zi a2), (3, zi a3)] d_M_weightOut_13 (by decide) rfl ?_
      refine zq_lsub [1, 2, 3, 4, 0] [(0, zr (some 72)), (1, zi a1), (2, zi a2), (3, zi a3), (4, zi (0 : Int32))] rfl ?_
      exact c_M_weightOut_15 C hret (fun z0 z1 z2 zS zh => ih z0 z1 z2 zS zh) fu  a1 a2 a3 (0 : Int32) S h
set_option maxRecDepth 100000 in
set_option maxHeartbeats 4000000 in
theorem m_M_weightOut (l : Launch) {fu : Nat} {a1 : Int32} {S : zSt} {r : Int32} (h : f_M_weightOut fu a1 S = some r) : zPM l y_M_weightOut b_M_weightOut 5 (some .int) rm_M_weightOut true true [zr (some 72), zi a1] S (some (zi r)) S := by
  refine zPM_of (by decide) (Nat.le_of_ble_eq_true rfl) (fun p e s m args below meth c G C hret hname => ?_)
  unfold f_M_weightOut at h
  refine (?_ : zJ p l e rm_M_weightOut s m args below meth c G true 5 0 0 (zQm below G args s rm_M_weightOut true (some (zi r)) S) S 0 [(0, zr (some 72)), (1, zi a1)] [])
  refine z_iconst C (0 : Int32) (by decide) d_M_weightOut_0 ?_
  refine z_istore_n C [(2, zi (0 : Int32)), (0, zr (some 72)), (1, zi a1)] d_M_weightOut_1 rfl (by decide) rfl ?_
  refine z_iconst C (0 : Int32) (by decide) d_M_weightOut_2 ?_
  refine z_istore_n C [(3, zi (0 : Int32)), (2, zi (0 : Int32)), (0, zr (some 72)), (1, zi a1)] d_M_weightOut_3 rfl (by decide) rfl ?_
  refine zq_lsub [2, 3, 1, 0] [(0, zr (some 72)), (1, zi a1), (2, zi (0 : Int32)), (3, zi (0 : Int32))] rfl ?_
  exact c_M_weightOut_4 C hret fu  a1 (0 : Int32) (0 : Int32) S h
def f_M_bound_98 (fu : Nat) (a3 : Int32) (a4 : Int32) (a5 : Int32) (S : zSt) : Option (Int32 × zSt) := if a3 = 0 then some (a5, S) else some (a4, S)
def f_M_bound_34 (fu : Nat) : Nat → Int32 → Int32 → Int32 → Int32 → Int32 → Int32 → zSt → Option (Int32 × zSt)
  | 0, _, _, _, _, _, _, _ => none
  | n + 1, a1, a2, a3, a4, a5, a6, S => zb1 (f_M_springMany S) (fun r2 => if ((1 : Int32) <<< (r2 &&& 31)) ≤ a6 then f_M_bound_98 fu a3 a4 a5 S else zb1 (f_M_isIn a6 a1) (fun r5 => if r5 = 0 then f_M_bound_34 fu n a1 a2 a3 a4 a5 (a6 + (1 : Int32)) S else zb1 (f_M_isIn a6 a2) (fun r8 => if r8 = 0 then zb1 (f_M_weightOut fu a6 S) (fun r11 => if r11 < a5 then f_M_bound_34 fu n a1 a2 a3 a6 r11 (a6 + (1 : Int32)) S else f_M_bound_34 fu n a1 a2 a3 a4 a5 (a6 + (1 : Int32)) S) else f_M_bound_34 fu n a1 a2 a3 a4 a5 (a6 + (1 : Int32)) S)))
def f_M_bound (fu : Nat) (a1 : Int32) (a2 : Int32) (a3 : Int32) (S : zSt) : Option (Int32 × zSt) := zb1 (f_M_areTwo a1 a2 S) (fun r2 => if r2 = 0 then some ((-1 : Int32), S) else zb1 (f_M_lies a3 (0 : Int32) (1 : Int32)) (fun r5 => if r5 = 0 then some ((-1 : Int32), S) else zb1 (f_M_laysWeights fu S) (fun S8 => f_M_bound_34 fu fu a1 a2 a3 (-1 : Int32) (1000000 : Int32) (0 : Int32) S8)))
set_option maxRecDepth 100000 in
set_option maxHeartbeats 4000000 in
theorem c_M_bound_98 {p : Program} {l : Launch} {e : Env} {s : State} {m : MethodId} {args : Array Value} {below : List Frame} {meth : Method} {c : Code} {G : zG} (C : zC p s m args meth c G b_M_bound 8 y_M_bound.cls) (hret : meth.sig.returnType = (some .int)) {fu : Nat} {r : Int32} {S1 : zSt} : ∀ (a3 : Int32) (a4 : Int32) (a5 : Int32) (S : zSt) , f_M_bound_98 fu a3 a4 a5 S = some (r, S1) → zJ p l e rm_M_bound s m args below meth c G true 8 0 0 (zQm below G args s rm_M_bound true (some (zi r)) S1) S 98 [(3, zi a3), (4, zi a4), (5, zi a5)] [] := by
  intro a3 a4 a5 S h
  unfold f_M_bound_98 at h
  refine z_iload_n C 0 rfl d_M_bound_98 rfl ?_
  rcases zite h with ⟨c1, h⟩ | ⟨c1, h⟩
  · refine z_if_nef C 107 c1 d_M_bound_99 (by decide) ?_
    refine z_iload C 2 rfl d_M_bound_102 ?_
    refine z_goto C 109 d_M_bound_104 (by decide) ?_
    cases h
    exact z_iret C .int hret rfl ⟨Nat.zero_le _, Nat.zero_le _⟩ d_M_bound_109
  · refine z_if_net C 107 c1 d_M_bound_99 (by decide) ?_
    refine z_iload C 1 rfl d_M_bound_107 ?_
    cases h
    exact z_iret C .int hret rfl ⟨Nat.zero_le _, Nat.zero_le _⟩ d_M_bound_109
set_option maxRecDepth 100000 in
set_option maxHeartbeats 4000000 in
theorem c_M_bound_34 {p : Program} {l : Launch} {e : Env} {s : State} {m : MethodId} {args : Array Value} {below : List Frame} {meth : Method} {c : Code} {G : zG} (C : zC p s m args meth c G b_M_bound 8 y_M_bound.cls) (hret : meth.sig.returnType = (some .int)) {fu : Nat} {r : Int32} {S1 : zSt} : ∀ (n : Nat) (a1 : Int32) (a2 : Int32) (a3 : Int32) (a4 : Int32) (a5 : Int32) (a6 : Int32) (S : zSt) , f_M_bound_34 fu n a1 a2 a3 a4 a5 a6 S = some (r, S1) → zJ p l e rm_M_bound s m args below meth c G true 8 0 0 (zQm below G args s rm_M_bound true (some (zi r)) S1) S 34 [(0, zr (some 72)), (1, zi a1), (2, zi a2), (3, zi a3), (4, zi a4), (5, zi a5), (6, zi a6)] [] := by
  intro n
  induction n with
  | zero =>
    intro a1 a2 a3 a4 a5 a6 S h
    cases h
  | succ n ih =>
    intro a1 a2 a3 a4 a5 a6 S h
    rw [f_M_bound_34] at h
    refine z_iload C 6 rfl d_M_bound_34 ?_
    refine z_iconst C (1 : Int32) (by decide) d_M_bound_36 ?_
    refine z_aload_n C 0 rfl d_M_bound_37 rfl ?_
    obtain ⟨r2, h1, h⟩ := zb1_some h
    refine z_cV C 11 (by decide) (m_M_springMany l h1) mf_M_springMany lk_11_118 in_M_springMany se_M_springMany rfl zo_72 zk_72 ⟨rfl, rfl⟩ ⟨by decide, by decide⟩ ⟨Nat.zero_le _, Nat.zero_le _⟩ rfl _ [zi (1 : Int32), zi a6] rfl (Nat.le_of_ble_eq_true rfl) d_M_bound_38 ?_
    refine z_ishl C d_M_bound_41 ?_
    rcases zite h with ⟨c3, h⟩ | ⟨c3, h⟩
    · refine z_icmp_get C 98 c3 d_M_bound_42 (by decide) ?_
      refine zq_lsub [3, 4, 5] [(3, zi a3), (4, zi a4), (5, zi a5)] rfl ?_
      exact c_M_bound_98 C hret  a3 a4 a5 S h
    · refine z_icmp_gef C 98 c3 d_M_bound_42 (by decide) ?_
      refine z_iload C 6 rfl d_M_bound_45 ?_
      refine z_iload_n C 1 rfl d_M_bound_47 rfl ?_
      obtain ⟨r5, h4, h⟩ := zb1_some h
      refine z_cS C (m_M_isIn l h4) mf_M_isIn lk_11_390 st_M_isIn ⟨rfl, rfl⟩ ⟨by decide, by decide⟩ ⟨Nat.zero_le _, Nat.zero_le _⟩ rfl _ [] rfl (Nat.le_of_ble_eq_true rfl) d_M_bound_48 ?_
      rcases zite h with ⟨c6, h⟩ | ⟨c6, h⟩
      · refine z_if_eqt C 92 c6 d_M_bound_51 (by decide) ?_
        refine z_iinc C 6 (a6 + (1 : Int32)) [(6, zi (a6 + (1 : Int32))), (0, zr (some 72)), (1, zi a1), (2, zi a2), (3, zi a3), (4, zi a4), (5, zi a5)] rfl d_M_bound_92 (by first | rfl | decide) (by decide) rfl ?_
        refine z_goto C 34 d_M_bound_95 (by decide) ?_
        refine zq_lsub [1, 2, 3, 4, 5, 6, 0] [(0, zr (some 72)), (1, zi a1), (2, zi a2), (3, zi a3), (4, zi a4), (5, zi a5), (6, zi (a6 + (1 : Int32)))] rfl ?_
        exact ih a1 a2 a3 a4 a5 (a6 + (1 : Int32)) S h
      · refine z_if_eqf C 92 c6 d_M_bound_51 (by decide) ?_
        refine z_iload C 6 rfl d_M_bound_54 ?_
        refine z_iload_n C 2 rfl d_M_bound_56 rfl ?_
        obtain ⟨r8, h7, h⟩ := zb1_some h
        refine z_cS C (m_M_isIn l h7) mf_M_isIn lk_11_390 st_M_isIn ⟨rfl, rfl⟩ ⟨by decide, by decide⟩ ⟨Nat.zero_le _, Nat.zero_le _⟩ rfl _ [] rfl (Nat.le_of_ble_eq_true rfl) d_M_bound_57 ?_
        rcases zite h with ⟨c9, h⟩ | ⟨c9, h⟩
        · refine z_if_eqt C 66 c9 d_M_bound_60 (by decide) ?_
          refine z_aload_n C 0 rfl d_M_bound_66 rfl ?_
          refine z_iload C 6 rfl d_M_bound_67 ?_
          obtain ⟨r11, h10, h⟩ := zb1_some h
          refine z_cV C 11 (by decide) (m_M_weightOut l h10) mf_M_weightOut lk_11_406 in_M_weightOut se_M_weightOut rfl zo_72 zk_72 ⟨rfl, rfl⟩ ⟨by decide, by decide⟩ ⟨Nat.zero_le _, Nat.zero_le _⟩ rfl _ [] rfl (Nat.le_of_ble_eq_true rfl) d_M_bound_69 ?_
          refine z_istore C [(7, zi r11), (0, zr (some 72)), (1, zi a1), (2, zi a2), (3, zi a3), (4, zi a4), (5, zi a5), (6, zi a6)] d_M_bound_72 (by decide) rfl ?_
          refine z_iload C 0 rfl d_M_bound_74 ?_
          refine z_iload C 6 rfl d_M_bound_76 ?_
          rcases zite h with ⟨c12, h⟩ | ⟨c12, h⟩
          · refine z_icmp_ltt C 84 c12 d_M_bound_78 (by decide) ?_
            refine z_iload C 0 rfl d_M_bound_84 ?_
            refine z_istore C [(5, zi r11), (7, zi r11), (0, zr (some 72)), (1, zi a1), (2, zi a2), (3, zi a3), (4, zi a4), (6, zi a6)] d_M_bound_86 (by decide) rfl ?_
            refine z_iload C 7 rfl d_M_bound_88 ?_
            refine z_istore C [(4, zi a6), (5, zi r11), (7, zi r11), (0, zr (some 72)), (1, zi a1), (2, zi a2), (3, zi a3), (6, zi a6)] d_M_bound_90 (by decide) rfl ?_
            refine z_iinc C 7 (a6 + (1 : Int32)) [(6, zi (a6 + (1 : Int32))), (4, zi a6), (5, zi r11), (7, zi r11), (0, zr (some 72)), (1, zi a1), (2, zi a2), (3, zi a3)] rfl d_M_bound_92 (by first | rfl | decide) (by decide) rfl ?_
            refine z_goto C 34 d_M_bound_95 (by decide) ?_
            refine zq_lsub [4, 5, 6, 7, 1, 2, 0] [(0, zr (some 72)), (1, zi a1), (2, zi a2), (3, zi a3), (4, zi a6), (5, zi r11), (6, zi (a6 + (1 : Int32)))] rfl ?_
            exact ih a1 a2 a3 a6 r11 (a6 + (1 : Int32)) S h
          · refine z_icmp_ltf C 84 c12 d_M_bound_78 (by decide) ?_
            refine z_goto C 92 d_M_bound_81 (by decide) ?_
            refine z_iinc C 7 (a6 + (1 : Int32)) [(6, zi (a6 + (1 : Int32))), (7, zi r11), (0, zr (some 72)), (1, zi a1), (2, zi a2), (3, zi a3), (4, zi a4), (5, zi a5)] rfl d_M_bound_92 (by first | rfl | decide) (by decide) rfl ?_
            refine z_goto C 34 d_M_bound_95 (by decide) ?_
            refine zq_lsub [2, 3, 4, 5, 6, 7, 0] [(0, zr (some 72)), (1, zi a1), (2, zi a2), (3, zi a3), (4, zi a4), (5, zi a5), (6, zi (a6 + (1 : Int32)))] rfl ?_
            exact ih a1 a2 a3 a4 a5 (a6 + (1 : Int32)) S h
        · refine z_if_eqf C 66 c9 d_M_bound_60 (by decide) ?_
          refine z_goto C 92 d_M_bound_63 (by decide) ?_
          refine z_iinc C 6 (a6 + (1 : Int32)) [(6, zi (a6 + (1 : Int32))), (0, zr (some 72)), (1, zi a1), (2, zi a2), (3, zi a3), (4, zi a4), (5, zi a5)] rfl d_M_bound_92 (by first | rfl | decide) (by decide) rfl ?_
          refine z_goto C 34 d_M_bound_95 (by decide) ?_
          refine zq_lsub [1, 2, 3, 4, 5, 6, 0] [(0, zr (some 72)), (1, zi a1), (2, zi a2), (3, zi a3), (4, zi a4), (5, zi a5), (6, zi (a6 + (1 : Int32)))] rfl ?_
          exact ih a1 a2 a3 a4 a5 (a6 + (1 : Int32)) S h
set_option maxRecDepth 100000 in
set_option maxHeartbeats 4000000 in
theorem m_M_bound (l : Launch) {fu : Nat} {a1 : Int32} {a2 : Int32} {a3 : Int32} {S : zSt} {r : Int32} {S1 : zSt} (h : f_M_bound fu a1 a2 a3 S = some (r, S1)) : zPM l y_M_bound b_M_bound 8 (some .int) rm_M_bound true true [zr (some 72), zi a1, zi a2, zi a3] S (some (zi r)) S1 := by
  refine zPM_of (by decide) (Nat.le_of_ble_eq_true rfl) (fun p e s m args below meth c G C hret hname => ?_)
  unfold f_M_bound at h
  refine (?_ : zJ p l e rm_M_bound s m args below meth c G true 8 0 0 (zQm below G args s rm_M_bound true (some (zi r)) S1) S 0 [(0, zr (some 72)), (1, zi a1), (2, zi a2), (3, zi a3)] [])
  refine z_aload_n C 0 rfl d_M_bound_0 rfl ?_
  refine z_iload_n C 1 rfl d_M_bound_1 rfl ?_
  refine z_iload_n C 2 rfl d_M_bound_2 rfl ?_
  obtain ⟨r2, h1, h⟩ := zb1_some h
  refine z_cV C 11 (by decide) (m_M_areTwo l h1) mf_M_areTwo lk_11_130 in_M_areTwo se_M_areTwo rfl zo_72 zk_72 ⟨rfl, rfl⟩ ⟨by decide, by decide⟩ ⟨Nat.zero_le _, Nat.zero_le _⟩ rfl _ [] rfl (Nat.le_of_ble_eq_true rfl) d_M_bound_3 ?_
  rcases zite h with ⟨c3, h⟩ | ⟨c3, h⟩
  · refine z_if_eqt C 18 c3 d_M_bound_6 (by decide) ?_
    refine z_iconst C (-1 : Int32) (by decide) d_M_bound_18 ?_
    cases h
    exact z_iret C .int hret rfl ⟨Nat.zero_le _, Nat.zero_le _⟩ d_M_bound_19
  · refine z_if_eqf C 18 c3 d_M_bound_6 (by decide) ?_
    refine z_iload_n C 3 rfl d_M_bound_9 rfl ?_
    refine z_iconst C (0 : Int32) (by decide) d_M_bound_10 ?_
    refine z_iconst C (1 : Int32) (by decide) d_M_bound_11 ?_
    obtain ⟨r5, h4, h⟩ := zb1_some h
    refine z_cS C (m_M_lies l h4) mf_M_lies lk_11_108 st_M_lies ⟨rfl, rfl⟩ ⟨by decide, by decide⟩ ⟨Nat.zero_le _, Nat.zero_le _⟩ rfl _ [] rfl (Nat.le_of_ble_eq_true rfl) d_M_bound_12 ?_
    rcases zite h with ⟨c6, h⟩ | ⟨c6, h⟩
    · refine z_if_nef C 20 c6 d_M_bound_15 (by decide) ?_
      refine z_iconst C (-1 : Int32) (by decide) d_M_bound_18 ?_
      cases h
      exact z_iret C .int hret rfl ⟨Nat.zero_le _, Nat.zero_le _⟩ d_M_bound_19
    · refine z_if_net C 20 c6 d_M_bound_15 (by decide) ?_
      refine z_aload_n C 0 rfl d_M_bound_20 rfl ?_
      obtain ⟨S8, h7, h⟩ := zb1_some h
      refine z_cV C 11 (by decide) (m_M_laysWeights l h7) mf_M_laysWeights lk_11_403 in_M_laysWeights se_M_laysWeights rfl zo_72 zk_72 ⟨rfl, rfl⟩ ⟨by decide, by decide⟩ ⟨Nat.zero_le _, Nat.zero_le _⟩ rfl _ [] rfl (Nat.le_of_ble_eq_true rfl) d_M_bound_21 ?_
      refine z_iconst C (-1 : Int32) (by decide) d_M_bound_24 ?_
      refine z_istore C [(4, zi (-1 : Int32)), (0, zr (some 72)), (1, zi a1), (2, zi a2), (3, zi a3)] d_M_bound_25 (by decide) rfl ?_
      refine z_ldc C zc_11_177 d_M_bound_27 ?_
      refine z_istore C [(5, zi (1000000 : Int32)), (4, zi (-1 : Int32)), (0, zr (some 72)), (1, zi a1), (2, zi a2), (3, zi a3)] d_M_bound_29 (by decide) rfl ?_
      refine z_iconst C (0 : Int32) (by decide) d_M_bound_31 ?_
      refine z_istore C [(6, zi (0 : Int32)), (5, zi (1000000 : Int32)), (4, zi (-1 : Int32)), (0, zr (some 72)), (1, zi a1), (2, zi a2), (3, zi a3)] d_M_bound_32 (by decide) rfl ?_
      refine zq_lsub [3, 4, 5, 6, 2, 1, 0] [(0, zr (some 72)), (1, zi a1), (2, zi a2), (3, zi a3), (4, zi (-1 : Int32)), (5, zi (1000000 : Int32)), (6, zi (0 : Int32))] rfl ?_
      exact c_M_bound_34 C hret fu  a1 a2 a3 (-1 : Int32) (1000000 : Int32) (0 : Int32) S8 h
def f_M_share_31 (fu : Nat) : Nat → Int32 → Int32 → Int32 → Int32 → Int32 → zSt → Option (Int32 × zSt)
  | 0, _, _, _, _, _, _ => none
  | n + 1, a1, a2, a3, a4, a5, S => zb1 (f_M_springMany S) (fun r2 => if r2 ≤ a5 then some (a3, S) else zb1 (f_M_isIn a1 a5) (fun r5 => if r5 = 0 then f_M_share_31 fu n a1 a2 a3 a4 (a5 + (1 : Int32)) S else zb1 (f_M_pairAt a5 a2) (fun r8 => zgd (0 ≤ r8 ∧ r8.toNatClampNeg < 81) (if (zI S 90 r8.toNatClampNeg) < a4 then zb1 (f_M_pairAt a5 a2) (fun r12 => zgd (0 ≤ r12 ∧ r12.toNatClampNeg < 81) (f_M_share_31 fu n a1 a2 a5 (zI S 90 r12.toNatClampNeg) (a5 + (1 : Int32)) S)) else f_M_share_31 fu n a1 a2 a3 a4 (a5 + (1 : Int32)) S))))
def f_M_share (fu : Nat) (a1 : Int32) (a2 : Int32) (S : zSt) : Option (Int32 × zSt) := zb1 (f_M_isSpring a2 S) (fun r2 => if r2 = 0 then some ((-1 : Int32), S) else zb1 (f_M_areSprings a1 S) (fun r5 => if r5 = 0 then some ((-1 : Int32), S) else zb1 (f_M_laysSoon fu S) (fun S8 => f_M_share_31 fu fu a1 a2 (-1 : Int32) (1000000 : Int32) (0 : Int32) S8)))
set_option maxRecDepth 100000 in
set_option maxHeartbeats 4000000 in
theorem c_M_share_31 {p : Program} {l : Launch} {e : Env} {s : State} {m : MethodId} {args : Array Value} {below : List Frame} {meth : Method} {c : Code} {G : zG} (C : zC p s m args meth c G b_M_share 6 y_M_share.cls) (hret : meth.sig.returnType = (some .int)) {fu : Nat} {r : Int32} {S1 : zSt} : ∀ (n : Nat) (a1 : Int32) (a2 : Int32) (a3 : Int32) (a4 : Int32) (a5 : Int32) (S : zSt) , f_M_share_31 fu n a1 a2 a3 a4 a5 S = some (r, S1) → zJ p l e rm_M_share s m args below meth c G true 6 0 0 (zQm below G args s rm_M_share true (some (zi r)) S1) S 31 [(0, zr (some 72)), (1, zi a1), (2, zi a2), (3, zi a3), (4, zi a4), (5, zi a5)] [] := by
  intro n
  induction n with
  | zero =>
    intro a1 a2 a3 a4 a5 S h
    cases h
  | succ n ih =>
    intro a1 a2 a3 a4 a5 S h
    rw [f_M_share_31] at h
    refine z_iload C 5 rfl d_M_share_31 ?_
    refine z_aload_n C 0 rfl d_M_share_33 rfl ?_
    obtain ⟨r2, h1, h⟩ := zb1_some h
    refine z_cV C 11 (by decide) (m_M_springMany l h1) mf_M_springMany lk_11_118 in_M_springMany se_M_springMany rfl zo_72 zk_72 ⟨rfl, rfl⟩ ⟨by decide, by decide⟩ ⟨Nat.zero_le _, Nat.zero_le _⟩ rfl _ [zi a5] rfl (Nat.le_of_ble_eq_true rfl) d_M_share_34 ?_
    rcases zite h with ⟨c3, h⟩ | ⟨c3, h⟩
    · refine z_icmp_get C 90 c3 d_M_share_37 (by decide) ?_
      refine z_iload_n C 3 rfl d_M_share_90 rfl ?_
      cases h
      exact z_iret C .int hret rfl ⟨Nat.zero_le _, Nat.zero_le _⟩ d_M_share_91
    · refine z_icmp_gef C 90 c3 d_M_share_37 (by decide) ?_
      refine z_iload_n C 1 rfl d_M_share_40 rfl ?_
      refine z_iload C 5 rfl d_M_share_41 ?_
      obtain ⟨r5, h4, h⟩ := zb1_some h
      refine z_cS C (m_M_isIn l h4) mf_M_isIn lk_11_390 st_M_isIn ⟨rfl, rfl⟩ ⟨by decide, by decide⟩ ⟨Nat.zero_le _, Nat.zero_le _⟩ rfl _ [] rfl (Nat.le_of_ble_eq_true rfl) d_M_share_43 ?_
      rcases zite h with ⟨c6, h⟩ | ⟨c6, h⟩
      · refine z_if_eqt C 84 c6 d_M_share_46 (by decide) ?_
        refine z_iinc C 5 (a5 + (1 : Int32)) [(5, zi (a5 + (1 : Int32))), (0, zr (some 72)), (1, zi a1), (2, zi a2), (3, zi a3), (4, zi a4)] rfl d_M_share_84 (by first | rfl | decide) (by decide) rfl ?_
        refine z_goto C 31 d_M_share_87 (by decide) ?_
        refine zq_lsub [1, 2, 3, 4, 5, 0] [(0, zr (some 72)), (1, zi a1), (2, zi a2), (3, zi a3), (4, zi a4), (5, zi (a5 + (1 : Int32)))] rfl ?_
        exact ih a1 a2 a3 a4 (a5 + (1 : Int32)) S h
      · refine z_if_eqf C 84 c6 d_M_share_46 (by decide) ?_
        refine z_aload_n C 0 rfl d_M_share_49 rfl ?_
        refine z_getF2 C 11 (by decide) 35 (by decide) rfl 18 81 rfl (90) rfl zp_72 zk_72 zfl_11_77 d_M_share_50 ?_
        refine z_iload C 5 rfl d_M_share_53 ?_
        refine z_iload_n C 2 rfl d_M_share_55 rfl ?_
        obtain ⟨r8, h7, h⟩ := zb1_some h
        refine z_cS C (m_M_pairAt l h7) mf_M_pairAt lk_11_126 st_M_pairAt ⟨rfl, rfl⟩ ⟨by decide, by decide⟩ ⟨Nat.zero_le _, Nat.zero_le _⟩ rfl _ [zr (some 90)] rfl (Nat.le_of_ble_eq_true rfl) d_M_share_56 ?_
        refine z_fact (fun hSR => ?_)
        obtain ⟨g9, h⟩ := zgd_some h
        refine z_ialoadS C zo_90 zk_90 (za_90 hSR) g9 d_M_share_59 ?_
        refine z_iload C 4 rfl d_M_share_60 ?_
        rcases zite h with ⟨c10, h⟩ | ⟨c10, h⟩
        · refine z_icmp_ltt C 68 c10 d_M_share_62 (by decide) ?_
          refine z_aload_n C 0 rfl d_M_share_68 rfl ?_
          refine z_getF2 C 11 (by decide) 35 (by decide) rfl 18 81 rfl (90) rfl zp_72 zk_72 zfl_11_77 d_M_share_69 ?_
          refine z_iload C 5 rfl d_M_share_72 ?_
          refine z_iload_n C 2 rfl d_M_share_74 rfl ?_
          obtain ⟨r12, h11, h⟩ := zb1_some h
          refine z_cS C (m_M_pairAt l h11) mf_M_pairAt lk_11_126 st_M_pairAt ⟨rfl, rfl⟩ ⟨by decide, by decide⟩ ⟨Nat.zero_le _, Nat.zero_le _⟩ rfl _ [zr (some 90)] rfl (Nat.le_of_ble_eq_true rfl) d_M_share_75 ?_
          refine z_fact (fun hSR => ?_)
          obtain ⟨g13, h⟩ := zgd_some h
          refine z_ialoadS C zo_90 zk_90 (za_90 hSR) g13 d_M_share_78 ?_
          refine z_istore C [(4, zi (zI S 90 r12.toNatClampNeg)), (0, zr (some 72)), (1, zi a1), (2, zi a2), (3, zi a3), (5, zi a5)] d_M_share_79 (by decide) rfl ?_
          refine z_iload C 5 rfl d_M_share_81 ?_
          refine z_istore_n C [(3, zi a5), (4, zi (zI S 90 r12.toNatClampNeg)), (0, zr (some 72)), (1, zi a1), (2, zi a2), (5, zi a5)] d_M_share_83 rfl (by decide) rfl ?_
          refine z_iinc C 5 (a5 + (1 : Int32)) [(5, zi (a5 + (1 : Int32))), (3, zi a5), (4, zi (zI S 90 r12.toNatClampNeg)), (0, zr (some 72)), (1, zi a1), (2, zi a2)] rfl d_M_share_84 (by first | rfl | decide) (by decide) rfl ?_
          refine z_goto C 31 d_M_share_87 (by decide) ?_
          refine zq_lsub [3, 4, 5, 1, 2, 0] [(0, zr (some 72)), (1, zi a1), (2, zi a2), (3, zi a5), (4, zi (zI S 90 r12.toNatClampNeg)), (5, zi (a5 + (1 : Int32)))] rfl ?_
          exact ih a1 a2 a5 (zI S 90 r12.toNatClampNeg) (a5 + (1 : Int32)) S h
        · refine z_icmp_ltf C 68 c10 d_M_share_62 (by decide) ?_
          refine z_goto C 84 d_M_share_65 (by decide) ?_
          refine z_iinc C 5 (a5 + (1 : Int32)) [(5, zi (a5 + (1 : Int32))), (0, zr (some 72)), (1, zi a1), (2, zi a2), (3, zi a3), (4, zi a4)] rfl d_M_share_84 (by first | rfl | decide) (by decide) rfl ?_
          refine z_goto C 31 d_M_share_87 (by decide) ?_
          refine zq_lsub [1, 2, 3, 4, 5, 0] [(0, zr (some 72)), (1, zi a1), (2, zi a2), (3, zi a3), (4, zi a4), (5, zi (a5 + (1 : Int32)))] rfl ?_
          exact ih a1 a2 a3 a4 (a5 + (1 : Int32)) S h
set_option maxRecDepth 100000 in
set_option maxHeartbeats 4000000 in
theorem m_M_share (l : Launch) {fu : Nat} {a1 : Int32} {a2 : Int32} {S : zSt} {r : Int32} {S1 : zSt} (h : f_M_share fu a1 a2 S = some (r, S1)) : zPM l y_M_share b_M_share 6 (some .int) rm_M_share true true [zr (some 72), zi a1, zi a2] S (some (zi r)) S1 := by
  refine zPM_of (by decide) (Nat.le_of_ble_eq_true rfl) (fun p e s m args below meth c G C hret hname => ?_)
  unfold f_M_share at h
  refine (?_ : zJ p l e rm_M_share s m args below meth c G true 6 0 0 (zQm below G args s rm_M_share true (some (zi r)) S1) S 0 [(0, zr (some 72)), (1, zi a1), (2, zi a2)] [])
  refine z_aload_n C 0 rfl d_M_share_0 rfl ?_
  refine z_iload_n C 2 rfl d_M_share_1 rfl ?_
  obtain ⟨r2, h1, h⟩ := zb1_some h
  refine z_cV C 11 (by decide) (m_M_isSpring l h1) mf_M_isSpring lk_11_122 in_M_isSpring se_M_isSpring rfl zo_72 zk_72 ⟨rfl, rfl⟩ ⟨by decide, by decide⟩ ⟨Nat.zero_le _, Nat.zero_le _⟩ rfl _ [] rfl (Nat.le_of_ble_eq_true rfl) d_M_share_2 ?_
  rcases zite h with ⟨c3, h⟩ | ⟨c3, h⟩
  · refine z_if_eqt C 16 c3 d_M_share_5 (by decide) ?_
    refine z_iconst C (-1 : Int32) (by decide) d_M_share_16 ?_
    cases h
    exact z_iret C .int hret rfl ⟨Nat.zero_le _, Nat.zero_le _⟩ d_M_share_17
  · refine z_if_eqf C 16 c3 d_M_share_5 (by decide) ?_
    refine z_aload_n C 0 rfl d_M_share_8 rfl ?_
    refine z_iload_n C 1 rfl d_M_share_9 rfl ?_
    obtain ⟨r5, h4, h⟩ := zb1_some h
    refine z_cV C 11 (by decide) (m_M_areSprings l h4) mf_M_areSprings lk_11_397 in_M_areSprings se_M_areSprings rfl zo_72 zk_72 ⟨rfl, rfl⟩ ⟨by decide, by decide⟩ ⟨Nat.zero_le _, Nat.zero_le _⟩ rfl _ [] rfl (Nat.le_of_ble_eq_true rfl) d_M_share_10 ?_
    rcases zite h with ⟨c6, h⟩ | ⟨c6, h⟩
    · refine z_if_nef C 18 c6 d_M_share_13 (by decide) ?_
      refine z_iconst C (-1 : Int32) (by decide) d_M_share_16 ?_
      cases h
      exact z_iret C .int hret rfl ⟨Nat.zero_le _, Nat.zero_le _⟩ d_M_share_17
    · refine z_if_net C 18 c6 d_M_share_13 (by decide) ?_
      refine z_aload_n C 0 rfl d_M_share_18 rfl ?_
      obtain ⟨S8, h7, h⟩ := zb1_some h
      refine z_cV C 11 (by decide) (m_M_laysSoon l h7) mf_M_laysSoon lk_11_375 in_M_laysSoon se_M_laysSoon rfl zo_72 zk_72 ⟨rfl, rfl⟩ ⟨by decide, by decide⟩ ⟨Nat.zero_le _, Nat.zero_le _⟩ rfl _ [] rfl (Nat.le_of_ble_eq_true rfl) d_M_share_19 ?_
      refine z_iconst C (-1 : Int32) (by decide) d_M_share_22 ?_
      refine z_istore_n C [(3, zi (-1 : Int32)), (0, zr (some 72)), (1, zi a1), (2, zi a2)] d_M_share_23 rfl (by decide) rfl ?_
      refine z_ldc C zc_11_177 d_M_share_24 ?_
      refine z_istore C [(4, zi (1000000 : Int32)), (3, zi (-1 : Int32)), (0, zr (some 72)), (1, zi a1), (2, zi a2)] d_M_share_26 (by decide) rfl ?_
      refine z_iconst C (0 : Int32) (by decide) d_M_share_28 ?_
      refine z_istore C [(5, zi (0 : Int32)), (4, zi (1000000 : Int32)), (3, zi (-1 : Int32)), (0, zr (some 72)), (1, zi a1), (2, zi a2)] d_M_share_29 (by decide) rfl ?_
      refine zq_lsub [3, 4, 5, 2, 1, 0] [(0, zr (some 72)), (1, zi a1), (2, zi a2), (3, zi (-1 : Int32)), (4, zi (1000000 : Int32)), (5, zi (0 : Int32))] rfl ?_
      exact c_M_share_31 C hret fu  a1 a2 (-1 : Int32) (1000000 : Int32) (0 : Int32) S8 h
def f_M_seaAt (a1 : Int32) (a2 : Int32) (S : zSt) : Option Int32 := zgd (0 ≤ (((9 : Int32) * a1) + a2) ∧ (((9 : Int32) * a1) + a2).toNatClampNeg < 90) (some (zI S 94 (((9 : Int32) * a1) + a2).toNatClampNeg))
set_option maxRecDepth 100000 in
set_option maxHeartbeats 4000000 in
theorem m_M_seaAt (l : Launch) {a1 : Int32} {a2 : Int32} {S : zSt} {r : Int32} (h : f_M_seaAt a1 a2 S = some r) : zPM l y_M_seaAt b_M_seaAt 3 (some .int) rm_M_seaAt true true [zr (some 72), zi a1, zi a2] S (some (zi r)) S := by
  refine zPM_of (by decide) (Nat.le_of_ble_eq_true rfl) (fun p e s m args below meth c G C hret hname => ?_)
  unfold f_M_seaAt at h
  refine (?_ : zJ p l e rm_M_seaAt s m args below meth c G true 3 0 0 (zQm below G args s rm_M_seaAt true (some (zi r)) S) S 0 [(0, zr (some 72)), (1, zi a1), (2, zi a2)] [])
  refine z_aload_n C 0 rfl d_M_seaAt_0 rfl ?_
  refine z_getF2 C 11 (by decide) 39 (by decide) rfl 22 90 rfl (94) rfl zp_72 zk_72 zfl_11_89 d_M_seaAt_1 ?_
  refine z_bipush C (9 : Int32) (by decide) d_M_seaAt_4 ?_
  refine z_iload_n C 1 rfl d_M_seaAt_6 rfl ?_
  refine z_imul C d_M_seaAt_7 ?_
  refine z_iload_n C 2 rfl d_M_seaAt_8 rfl ?_
  refine z_iadd C d_M_seaAt_9 ?_
  refine z_fact (fun hSR => ?_)
  obtain ⟨g1, h⟩ := zgd_some h
  refine z_ialoadS C zo_94 zk_94 (za_94 hSR) g1 d_M_seaAt_10 ?_
  cases h
  exact z_iret C .int hret rfl ⟨Nat.zero_le _, Nat.zero_le _⟩ d_M_seaAt_11
def f_M_seaBy_16 (a2 : Int32) (a3 : Int32) (k0 : Int32) (S : zSt) : Option Int32 := if 0 ≤ k0 then zb1 (f_M_pairAt a2 a3) (fun r3 => zgd (0 ≤ r3 ∧ r3.toNatClampNeg < 81) (zb1 (f_M_seaAt k0 a3 S) (fun r6 => zb1 (f_M_lesser (1000000 : Int32) ((zI S 93 r3.toNatClampNeg) + r6)) (fun r8 => some r8)))) else some (1000000 : Int32)
def f_M_seaBy (a1 : Int32) (a2 : Int32) (a3 : Int32) (S : zSt) : Option Int32 := zb1 (f_M_isShut a2 a3 S) (fun r2 => if r2 = 0 then f_M_seaBy_16 a2 a3 a1 S else f_M_seaBy_16 a2 a3 (a1 - (1 : Int32)) S)
set_option maxRecDepth 100000 in
set_option maxHeartbeats 4000000 in
theorem c_M_seaBy_16 {p : Program} {l : Launch} {e : Env} {s : State} {m : MethodId} {args : Array Value} {below : List Frame} {meth : Method} {c : Code} {G : zG} (C : zC p s m args meth c G b_M_seaBy 5 y_M_seaBy.cls) (hret : meth.sig.returnType = (some .int)) {r : Int32} : ∀ (a2 : Int32) (a3 : Int32) (k0 : Int32) (S : zSt) , f_M_seaBy_16 a2 a3 k0 S = some r → zJ p l e rm_M_seaBy s m args below meth c G true 5 0 0 (zQm below G args s rm_M_seaBy true (some (zi r)) S) S 16 [(0, zr (some 72)), (2, zi a2), (3, zi a3)] [zi k0] := by
  intro a2 a3 k0 S h
  unfold f_M_seaBy_16 at h
  refine z_istore C [(4, zi k0), (0, zr (some 72)), (2, zi a2), (3, zi a3)] d_M_seaBy_16 (by decide) rfl ?_
  refine z_iload C 0 rfl d_M_seaBy_18 ?_
  rcases zite h with ⟨c1, h⟩ | ⟨c1, h⟩
  · refine z_if_get C 28 c1 d_M_seaBy_20 (by decide) ?_
    refine z_ldc C zc_11_177 d_M_seaBy_28 ?_
    refine z_aload_n C 1 rfl d_M_seaBy_30 rfl ?_
    refine z_getF2 C 11 (by decide) 38 (by decide) rfl 21 81 rfl (93) rfl zp_72 zk_72 zfl_11_86 d_M_seaBy_31 ?_
    refine z_iload_n C 2 rfl d_M_seaBy_34 rfl ?_
    refine z_iload_n C 3 rfl d_M_seaBy_35 rfl ?_
    obtain ⟨r3, h2, h⟩ := zb1_some h
    refine z_cS C (m_M_pairAt l h2) mf_M_pairAt lk_11_126 st_M_pairAt ⟨rfl, rfl⟩ ⟨by decide, by decide⟩ ⟨Nat.zero_le _, Nat.zero_le _⟩ rfl _ [zr (some 93), zi (1000000 : Int32)] rfl (Nat.le_of_ble_eq_true rfl) d_M_seaBy_36 ?_
    refine z_fact (fun hSR => ?_)
    obtain ⟨g4, h⟩ := zgd_some h
    refine z_ialoadS C zo_93 zk_93 (za_93 hSR) g4 d_M_seaBy_39 ?_
    refine z_aload_n C 1 rfl d_M_seaBy_40 rfl ?_
    refine z_iload C 0 rfl d_M_seaBy_41 ?_
    refine z_iload_n C 3 rfl d_M_seaBy_43 rfl ?_
    obtain ⟨r6, h5, h⟩ := zb1_some h
    refine z_cV C 11 (by decide) (m_M_seaAt l h5) mf_M_seaAt lk_11_409 in_M_seaAt se_M_seaAt rfl zo_72 zk_72 ⟨rfl, rfl⟩ ⟨by decide, by decide⟩ ⟨Nat.zero_le _, Nat.zero_le _⟩ rfl _ [zi (zI S 93 r3.toNatClampNeg), zi (1000000 : Int32)] rfl (Nat.le_of_ble_eq_true rfl) d_M_seaBy_44 ?_
    refine z_iadd C d_M_seaBy_47 ?_
    obtain ⟨r8, h7, h⟩ := zb1_some h
    refine z_cS C (m_M_lesser l h7) mf_M_lesser lk_11_372 st_M_lesser ⟨rfl, rfl⟩ ⟨by decide, by decide⟩ ⟨Nat.zero_le _, Nat.zero_le _⟩ rfl _ [] rfl (Nat.le_of_ble_eq_true rfl) d_M_seaBy_48 ?_
    cases h
    exact z_iret C .int hret rfl ⟨Nat.zero_le _, Nat.zero_le _⟩ d_M_seaBy_51
  · refine z_if_gef C 28 c1 d_M_seaBy_20 (by decide) ?_
    refine z_ldc C zc_11_177 d_M_seaBy_23 ?_
    refine z_goto C 51 d_M_seaBy_25 (by decide) ?_
    cases h
    exact z_iret C .int hret rfl ⟨Nat.zero_le _, Nat.zero_le _⟩ d_M_seaBy_51
set_option maxRecDepth 100000 in
set_option maxHeartbeats 4000000 in
theorem m_M_seaBy (l : Launch) {a1 : Int32} {a2 : Int32} {a3 : Int32} {S : zSt} {r : Int32} (h : f_M_seaBy a1 a2 a3 S = some r) : zPM l y_M_seaBy b_M_seaBy 5 (some .int) rm_M_seaBy true true [zr (some 72), zi a1, zi a2, zi a3] S (some (zi r)) S := by
  refine zPM_of (by decide) (Nat.le_of_ble_eq_true rfl) (fun p e s m args below meth c G C hret hname => ?_)
  unfold f_M_seaBy at h
  refine (?_ : zJ p l e rm_M_seaBy s m args below meth c G true 5 0 0 (zQm below G args s rm_M_seaBy true (some (zi r)) S) S 0 [(0, zr (some 72)), (1, zi a1), (2, zi a2), (3, zi a3)] [])
  refine z_aload_n C 0 rfl d_M_seaBy_0 rfl ?_
  refine z_iload_n C 2 rfl d_M_seaBy_1 rfl ?_
  refine z_iload_n C 3 rfl d_M_seaBy_2 rfl ?_
  obtain ⟨r2, h1, h⟩ := zb1_some h
  refine z_cV C 11 (by decide) (m_M_isShut l h1) mf_M_isShut lk_11_338 in_M_isShut se_M_isShut rfl zo_72 zk_72 ⟨rfl, rfl⟩ ⟨by decide, by decide⟩ ⟨Nat.zero_le _, Nat.zero_le _⟩ rfl _ [] rfl (Nat.le_of_ble_eq_true rfl) d_M_seaBy_3 ?_
  rcases zite h with ⟨c3, h⟩ | ⟨c3, h⟩
  · refine z_if_eqt C 15 c3 d_M_seaBy_6 (by decide) ?_
    refine z_iload_n C 1 rfl d_M_seaBy_15 rfl ?_
    refine zq_lsub [0, 2, 3] [(0, zr (some 72)), (2, zi a2), (3, zi a3)] rfl ?_
    exact c_M_seaBy_16 C hret  a2 a3 a1 S h
  · refine z_if_eqf C 15 c3 d_M_seaBy_6 (by decide) ?_
    refine z_iload_n C 1 rfl d_M_seaBy_9 rfl ?_
    refine z_iconst C (1 : Int32) (by decide) d_M_seaBy_10 ?_
    refine z_isub C d_M_seaBy_11 ?_
    refine z_goto C 16 d_M_seaBy_12 (by decide) ?_
    refine zq_lsub [0, 2, 3] [(0, zr (some 72)), (2, zi a2), (3, zi a3)] rfl ?_
    exact c_M_seaBy_16 C hret  a2 a3 (a1 - (1 : Int32)) S h

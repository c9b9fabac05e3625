/-! printed by dec4.py: 2d.model -/
abbrev rm_M_laysSea : Room := { frames := 139, cells := 0, slots := 0, locals := 3625 }
abbrev rm_M_sea : Room := { frames := 140, cells := 0, slots := 0, locals := 3650 }
abbrev rm_M_heard : Room := { frames := 3, cells := 0, slots := 0, locals := 107 }
abbrev rm_M_forget : Room := { frames := 1, cells := 0, slots := 0, locals := 64 }
abbrev rm_M_beginsAt : Room := { frames := 2, cells := 0, slots := 0, locals := 85 }
abbrev rm_M_canBeNow : Room := { frames := 141, cells := 0, slots := 0, locals := 3670 }
abbrev rm_M_canBe : Room := { frames := 142, cells := 0, slots := 0, locals := 3692 }
abbrev rm_M_since : Room := { frames := 141, cells := 0, slots := 0, locals := 3670 }
abbrev rm_M_dayAt : Room := { frames := 3, cells := 0, slots := 0, locals := 109 }
abbrev rm_M_mostAlike : Room := { frames := 4, cells := 0, slots := 0, locals := 131 }
abbrev rm_M_listen : Room := { frames := 142, cells := 0, slots := 0, locals := 3692 }
abbrev rm_M_few : Room := { frames := 2, cells := 0, slots := 0, locals := 86 }
abbrev rm_M_compare : Room := { frames := 141, cells := 0, slots := 0, locals := 3670 }
abbrev rm_M_stopped : Room := { frames := 1, cells := 0, slots := 0, locals := 64 }
abbrev rm_M_laysAside : Room := { frames := 1, cells := 0, slots := 0, locals := 64 }
abbrev rm_M_laysOrderSoon : Room := { frames := 141, cells := 0, slots := 0, locals := 3670 }
abbrev rm_M_goesAlong : Room := { frames := 142, cells := 0, slots := 0, locals := 3691 }
abbrev rm_M_small : Room := { frames := 1, cells := 0, slots := 0, locals := 64 }
abbrev rm_M_obeys : Room := { frames := 141, cells := 0, slots := 0, locals := 3669 }
abbrev rm_M_runs : Room := { frames := 143, cells := 0, slots := 0, locals := 3715 }
abbrev rm_M_takesBack : Room := { frames := 1, cells := 0, slots := 0, locals := 64 }
abbrev rm_M_orders : Room := { frames := 144, cells := 0, slots := 0, locals := 3739 }
abbrev rm_M_draws : Room := { frames := 1, cells := 0, slots := 0, locals := 64 }
abbrev rm_M_drawnAct : Room := { frames := 140, cells := 0, slots := 0, locals := 3647 }
def y_M_laysSea : MethodName := ⟨zNm 11, "laysSea", "(I)V"⟩
abbrev b_M_laysSea : ByteArray := prog_13_method_111_code
theorem d_M_laysSea_0 : decode b_M_laysSea 0 = .ok (.iconst 0, 1) := by decide +kernel
theorem d_M_laysSea_1 : decode b_M_laysSea 1 = .ok (.istore_n 2, 1) := by decide +kernel
theorem d_M_laysSea_2 : decode b_M_laysSea 2 = .ok (.iload_n 2, 1) := by decide +kernel
theorem d_M_laysSea_3 : decode b_M_laysSea 3 = .ok (.aload_n 0, 1) := by decide +kernel
theorem d_M_laysSea_4 : decode b_M_laysSea 4 = .ok (.invokevirtual 118, 3) := by decide +kernel
theorem d_M_laysSea_7 : decode b_M_laysSea 7 = .ok (.if_icmp .ge 55, 3) := by decide +kernel
theorem d_M_laysSea_10 : decode b_M_laysSea 10 = .ok (.iconst 0, 1) := by decide +kernel
theorem d_M_laysSea_11 : decode b_M_laysSea 11 = .ok (.istore_n 3, 1) := by decide +kernel
theorem d_M_laysSea_12 : decode b_M_laysSea 12 = .ok (.iload_n 3, 1) := by decide +kernel
theorem d_M_laysSea_13 : decode b_M_laysSea 13 = .ok (.aload_n 0, 1) := by decide +kernel
theorem d_M_laysSea_14 : decode b_M_laysSea 14 = .ok (.invokevirtual 118, 3) := by decide +kernel
theorem d_M_laysSea_17 : decode b_M_laysSea 17 = .ok (.if_icmp .ge 39, 3) := by decide +kernel
theorem d_M_laysSea_20 : decode b_M_laysSea 20 = .ok (.aload_n 0, 1) := by decide +kernel
theorem d_M_laysSea_21 : decode b_M_laysSea 21 = .ok (.getfield 86, 3) := by decide +kernel
theorem d_M_laysSea_24 : decode b_M_laysSea 24 = .ok (.iload_n 2, 1) := by decide +kernel
theorem d_M_laysSea_25 : decode b_M_laysSea 25 = .ok (.iload_n 3, 1) := by decide +kernel
theorem d_M_laysSea_26 : decode b_M_laysSea 26 = .ok (.invokestatic 126, 3) := by decide +kernel
theorem d_M_laysSea_29 : decode b_M_laysSea 29 = .ok (.aload_n 0, 1) := by decide +kernel
theorem d_M_laysSea_30 : decode b_M_laysSea 30 = .ok (.iload_n 2, 1) := by decide +kernel
theorem d_M_laysSea_31 : decode b_M_laysSea 31 = .ok (.iload_n 3, 1) := by decide +kernel
theorem d_M_laysSea_32 : decode b_M_laysSea 32 = .ok (.invokevirtual 335, 3) := by decide +kernel
theorem d_M_laysSea_35 : decode b_M_laysSea 35 = .ok (.ifCond .eq 12, 3) := by decide +kernel
theorem d_M_laysSea_38 : decode b_M_laysSea 38 = .ok (.aload_n 0, 1) := by decide +kernel
theorem d_M_laysSea_39 : decode b_M_laysSea 39 = .ok (.iload_n 2, 1) := by decide +kernel
theorem d_M_laysSea_40 : decode b_M_laysSea 40 = .ok (.iload_n 3, 1) := by decide +kernel
theorem d_M_laysSea_41 : decode b_M_laysSea 41 = .ok (.invokevirtual 144, 3) := by decide +kernel
theorem d_M_laysSea_44 : decode b_M_laysSea 44 = .ok (.goto 5, 3) := by decide +kernel
theorem d_M_laysSea_47 : decode b_M_laysSea 47 = .ok (.ldc 177, 2) := by decide +kernel
theorem d_M_laysSea_49 : decode b_M_laysSea 49 = .ok (.iastore, 1) := by decide +kernel
theorem d_M_laysSea_50 : decode b_M_laysSea 50 = .ok (.iinc 3 1, 3) := by decide +kernel
theorem d_M_laysSea_53 : decode b_M_laysSea 53 = .ok (.goto (-41), 3) := by decide +kernel
theorem d_M_laysSea_56 : decode b_M_laysSea 56 = .ok (.iinc 2 1, 3) := by decide +kernel
theorem d_M_laysSea_59 : decode b_M_laysSea 59 = .ok (.goto (-57), 3) := by decide +kernel
theorem d_M_laysSea_62 : decode b_M_laysSea 62 = .ok (.iconst 0, 1) := by decide +kernel
theorem d_M_laysSea_63 : decode b_M_laysSea 63 = .ok (.istore_n 2, 1) := by decide +kernel
theorem d_M_laysSea_64 : decode b_M_laysSea 64 = .ok (.iload_n 2, 1) := by decide +kernel
theorem d_M_laysSea_65 : decode b_M_laysSea 65 = .ok (.iload_n 1, 1) := by decide +kernel
theorem d_M_laysSea_66 : decode b_M_laysSea 66 = .ok (.if_icmp .gt 129, 3) := by decide +kernel
theorem d_M_laysSea_69 : decode b_M_laysSea 69 = .ok (.iconst 0, 1) := by decide +kernel
theorem d_M_laysSea_70 : decode b_M_laysSea 70 = .ok (.istore_n 3, 1) := by decide +kernel
theorem d_M_laysSea_71 : decode b_M_laysSea 71 = .ok (.iload_n 3, 1) := by decide +kernel
theorem d_M_laysSea_72 : decode b_M_laysSea 72 = .ok (.aload_n 0, 1) := by decide +kernel
theorem d_M_laysSea_73 : decode b_M_laysSea 73 = .ok (.invokevirtual 118, 3) := by decide +kernel
theorem d_M_laysSea_76 : decode b_M_laysSea 76 = .ok (.if_icmp .ge 30, 3) := by decide +kernel
theorem d_M_laysSea_79 : decode b_M_laysSea 79 = .ok (.aload_n 0, 1) := by decide +kernel
theorem d_M_laysSea_80 : decode b_M_laysSea 80 = .ok (.getfield 89, 3) := by decide +kernel
theorem d_M_laysSea_83 : decode b_M_laysSea 83 = .ok (.bipush 9, 2) := by decide +kernel
theorem d_M_laysSea_85 : decode b_M_laysSea 85 = .ok (.iload_n 2, 1) := by decide +kernel
theorem d_M_laysSea_86 : decode b_M_laysSea 86 = .ok (.imul, 1) := by decide +kernel
theorem d_M_laysSea_87 : decode b_M_laysSea 87 = .ok (.iload_n 3, 1) := by decide +kernel
theorem d_M_laysSea_88 : decode b_M_laysSea 88 = .ok (.iadd, 1) := by decide +kernel
theorem d_M_laysSea_89 : decode b_M_laysSea 89 = .ok (.iload_n 3, 1) := by decide +kernel
theorem d_M_laysSea_90 : decode b_M_laysSea 90 = .ok (.ifCond .ne 7, 3) := by decide +kernel
theorem d_M_laysSea_93 : decode b_M_laysSea 93 = .ok (.iconst 0, 1) := by decide +kernel
theorem d_M_laysSea_94 : decode b_M_laysSea 94 = .ok (.goto 5, 3) := by decide +kernel
theorem d_M_laysSea_97 : decode b_M_laysSea 97 = .ok (.ldc 177, 2) := by decide +kernel
theorem d_M_laysSea_99 : decode b_M_laysSea 99 = .ok (.iastore, 1) := by decide +kernel
theorem d_M_laysSea_100 : decode b_M_laysSea 100 = .ok (.iinc 3 1, 3) := by decide +kernel
theorem d_M_laysSea_103 : decode b_M_laysSea 103 = .ok (.goto (-32), 3) := by decide +kernel
theorem d_M_laysSea_106 : decode b_M_laysSea 106 = .ok (.iconst 1, 1) := by decide +kernel
theorem d_M_laysSea_107 : decode b_M_laysSea 107 = .ok (.istore_n 3, 1) := by decide +kernel
theorem d_M_laysSea_108 : decode b_M_laysSea 108 = .ok (.iload_n 3, 1) := by decide +kernel
theorem d_M_laysSea_109 : decode b_M_laysSea 109 = .ok (.aload_n 0, 1) := by decide +kernel
theorem d_M_laysSea_110 : decode b_M_laysSea 110 = .ok (.invokevirtual 118, 3) := by decide +kernel
theorem d_M_laysSea_113 : decode b_M_laysSea 113 = .ok (.if_icmp .ge 76, 3) := by decide +kernel
theorem d_M_laysSea_116 : decode b_M_laysSea 116 = .ok (.iconst 1, 1) := by decide +kernel
theorem d_M_laysSea_117 : decode b_M_laysSea 117 = .ok (.istore 4, 2) := by decide +kernel
theorem d_M_laysSea_119 : decode b_M_laysSea 119 = .ok (.iload 4, 2) := by decide +kernel
theorem d_M_laysSea_121 : decode b_M_laysSea 121 = .ok (.aload_n 0, 1) := by decide +kernel
theorem d_M_laysSea_122 : decode b_M_laysSea 122 = .ok (.invokevirtual 118, 3) := by decide +kernel
theorem d_M_laysSea_125 : decode b_M_laysSea 125 = .ok (.if_icmp .ge 58, 3) := by decide +kernel
theorem d_M_laysSea_128 : decode b_M_laysSea 128 = .ok (.iconst 0, 1) := by decide +kernel
theorem d_M_laysSea_129 : decode b_M_laysSea 129 = .ok (.istore 5, 2) := by decide +kernel
theorem d_M_laysSea_131 : decode b_M_laysSea 131 = .ok (.iload 5, 2) := by decide +kernel
theorem d_M_laysSea_133 : decode b_M_laysSea 133 = .ok (.aload_n 0, 1) := by decide +kernel
theorem d_M_laysSea_134 : decode b_M_laysSea 134 = .ok (.invokevirtual 118, 3) := by decide +kernel
theorem d_M_laysSea_137 : decode b_M_laysSea 137 = .ok (.if_icmp .ge 40, 3) := by decide +kernel
theorem d_M_laysSea_140 : decode b_M_laysSea 140 = .ok (.aload_n 0, 1) := by decide +kernel
theorem d_M_laysSea_141 : decode b_M_laysSea 141 = .ok (.getfield 89, 3) := by decide +kernel
theorem d_M_laysSea_144 : decode b_M_laysSea 144 = .ok (.bipush 9, 2) := by decide +kernel
theorem d_M_laysSea_146 : decode b_M_laysSea 146 = .ok (.iload_n 2, 1) := by decide +kernel
theorem d_M_laysSea_147 : decode b_M_laysSea 147 = .ok (.imul, 1) := by decide +kernel
theorem d_M_laysSea_148 : decode b_M_laysSea 148 = .ok (.iload 4, 2) := by decide +kernel
theorem d_M_laysSea_150 : decode b_M_laysSea 150 = .ok (.iadd, 1) := by decide +kernel
theorem d_M_laysSea_151 : decode b_M_laysSea 151 = .ok (.aload_n 0, 1) := by decide +kernel
theorem d_M_laysSea_152 : decode b_M_laysSea 152 = .ok (.iload_n 2, 1) := by decide +kernel
theorem d_M_laysSea_153 : decode b_M_laysSea 153 = .ok (.iload 4, 2) := by decide +kernel
theorem d_M_laysSea_155 : decode b_M_laysSea 155 = .ok (.invokevirtual 409, 3) := by decide +kernel
theorem d_M_laysSea_158 : decode b_M_laysSea 158 = .ok (.aload_n 0, 1) := by decide +kernel
theorem d_M_laysSea_159 : decode b_M_laysSea 159 = .ok (.iload_n 2, 1) := by decide +kernel
theorem d_M_laysSea_160 : decode b_M_laysSea 160 = .ok (.iload 4, 2) := by decide +kernel
theorem d_M_laysSea_162 : decode b_M_laysSea 162 = .ok (.iload 5, 2) := by decide +kernel
theorem d_M_laysSea_164 : decode b_M_laysSea 164 = .ok (.invokevirtual 412, 3) := by decide +kernel
theorem d_M_laysSea_167 : decode b_M_laysSea 167 = .ok (.invokestatic 372, 3) := by decide +kernel
theorem d_M_laysSea_170 : decode b_M_laysSea 170 = .ok (.iastore, 1) := by decide +kernel
theorem d_M_laysSea_171 : decode b_M_laysSea 171 = .ok (.iinc 5 1, 3) := by decide +kernel
theorem d_M_laysSea_174 : decode b_M_laysSea 174 = .ok (.goto (-43), 3) := by decide +kernel
theorem d_M_laysSea_177 : decode b_M_laysSea 177 = .ok (.iinc 4 1, 3) := by decide +kernel
theorem d_M_laysSea_180 : decode b_M_laysSea 180 = .ok (.goto (-61), 3) := by decide +kernel
theorem d_M_laysSea_183 : decode b_M_laysSea 183 = .ok (.iinc 3 1, 3) := by decide +kernel
theorem d_M_laysSea_186 : decode b_M_laysSea 186 = .ok (.goto (-78), 3) := by decide +kernel
theorem d_M_laysSea_189 : decode b_M_laysSea 189 = .ok (.iinc 2 1, 3) := by decide +kernel
theorem d_M_laysSea_192 : decode b_M_laysSea 192 = .ok (.goto (-128), 3) := by decide +kernel
theorem d_M_laysSea_195 : decode b_M_laysSea 195 = .ok (.return_, 1) := by decide +kernel
theorem mf_M_laysSea : zMF y_M_laysSea b_M_laysSea 6 none 1 := ⟨zGW_in 1854 (by decide +kernel) (by decide +kernel), zGW_in 135 (by decide +kernel) (by decide +kernel), by decide +kernel⟩
theorem in_M_laysSea : Cond.instanceMethod y_M_laysSea ∈ zGW := zGW_in 1853 (by decide +kernel) (by decide +kernel)
theorem se_M_laysSea : Cond.selects y_M_laysSea.cls y_M_laysSea y_M_laysSea ∈ zGW := zGW_in 108 (by decide +kernel) (by decide +kernel)
def y_M_sea : MethodName := ⟨zNm 11, "sea", "(II)I"⟩
abbrev b_M_sea : ByteArray := prog_13_method_112_code
theorem d_M_sea_0 : decode b_M_sea 0 = .ok (.aload_n 0, 1) := by decide +kernel
theorem d_M_sea_1 : decode b_M_sea 1 = .ok (.invokevirtual 118, 3) := by decide +kernel
theorem d_M_sea_4 : decode b_M_sea 4 = .ok (.ifCond .eq 18, 3) := by decide +kernel
theorem d_M_sea_7 : decode b_M_sea 7 = .ok (.iload_n 1, 1) := by decide +kernel
theorem d_M_sea_8 : decode b_M_sea 8 = .ok (.iconst 0, 1) := by decide +kernel
theorem d_M_sea_9 : decode b_M_sea 9 = .ok (.bipush 9, 2) := by decide +kernel
theorem d_M_sea_11 : decode b_M_sea 11 = .ok (.invokestatic 108, 3) := by decide +kernel
theorem d_M_sea_14 : decode b_M_sea 14 = .ok (.ifCond .eq 8, 3) := by decide +kernel
theorem d_M_sea_17 : decode b_M_sea 17 = .ok (.iload_n 2, 1) := by decide +kernel
theorem d_M_sea_18 : decode b_M_sea 18 = .ok (.iconst (-1), 1) := by decide +kernel
theorem d_M_sea_19 : decode b_M_sea 19 = .ok (.if_icmp .ge 5, 3) := by decide +kernel
theorem d_M_sea_22 : decode b_M_sea 22 = .ok (.iconst (-1), 1) := by decide +kernel
theorem d_M_sea_23 : decode b_M_sea 23 = .ok (.ireturn, 1) := by decide +kernel
theorem d_M_sea_24 : decode b_M_sea 24 = .ok (.aload_n 0, 1) := by decide +kernel
theorem d_M_sea_25 : decode b_M_sea 25 = .ok (.iload_n 1, 1) := by decide +kernel
theorem d_M_sea_26 : decode b_M_sea 26 = .ok (.invokevirtual 415, 3) := by decide +kernel
theorem d_M_sea_29 : decode b_M_sea 29 = .ok (.aload_n 0, 1) := by decide +kernel
theorem d_M_sea_30 : decode b_M_sea 30 = .ok (.getfield 24, 3) := by decide +kernel
theorem d_M_sea_33 : decode b_M_sea 33 = .ok (.iconst 0, 1) := by decide +kernel
theorem d_M_sea_34 : decode b_M_sea 34 = .ok (.iaload, 1) := by decide +kernel
theorem d_M_sea_35 : decode b_M_sea 35 = .ok (.istore_n 3, 1) := by decide +kernel
theorem d_M_sea_36 : decode b_M_sea 36 = .ok (.iload_n 1, 1) := by decide +kernel
theorem d_M_sea_37 : decode b_M_sea 37 = .ok (.istore 4, 2) := by decide +kernel
theorem d_M_sea_39 : decode b_M_sea 39 = .ok (.aload_n 0, 1) := by decide +kernel
theorem d_M_sea_40 : decode b_M_sea 40 = .ok (.iload 4, 2) := by decide +kernel
theorem d_M_sea_42 : decode b_M_sea 42 = .ok (.iload_n 3, 1) := by decide +kernel
theorem d_M_sea_43 : decode b_M_sea 43 = .ok (.invokevirtual 409, 3) := by decide +kernel
theorem d_M_sea_46 : decode b_M_sea 46 = .ok (.ldc 177, 2) := by decide +kernel
theorem d_M_sea_48 : decode b_M_sea 48 = .ok (.if_icmp .ge 8, 3) := by decide +kernel
theorem d_M_sea_51 : decode b_M_sea 51 = .ok (.iload_n 2, 1) := by decide +kernel
theorem d_M_sea_52 : decode b_M_sea 52 = .ok (.iconst (-1), 1) := by decide +kernel
theorem d_M_sea_53 : decode b_M_sea 53 = .ok (.if_icmp .ne 27, 3) := by decide +kernel
theorem d_M_sea_56 : decode b_M_sea 56 = .ok (.aload_n 0, 1) := by decide +kernel
theorem d_M_sea_57 : decode b_M_sea 57 = .ok (.iload 4, 2) := by decide +kernel
theorem d_M_sea_59 : decode b_M_sea 59 = .ok (.iload_n 3, 1) := by decide +kernel
theorem d_M_sea_60 : decode b_M_sea 60 = .ok (.invokevirtual 409, 3) := by decide +kernel
theorem d_M_sea_63 : decode b_M_sea 63 = .ok (.ldc 177, 2) := by decide +kernel
theorem d_M_sea_65 : decode b_M_sea 65 = .ok (.if_icmp .lt 7, 3) := by decide +kernel
theorem d_M_sea_68 : decode b_M_sea 68 = .ok (.iconst (-1), 1) := by decide +kernel
theorem d_M_sea_69 : decode b_M_sea 69 = .ok (.goto 10, 3) := by decide +kernel
theorem d_M_sea_72 : decode b_M_sea 72 = .ok (.aload_n 0, 1) := by decide +kernel
theorem d_M_sea_73 : decode b_M_sea 73 = .ok (.iload 4, 2) := by decide +kernel
theorem d_M_sea_75 : decode b_M_sea 75 = .ok (.iload_n 3, 1) := by decide +kernel
theorem d_M_sea_76 : decode b_M_sea 76 = .ok (.invokevirtual 409, 3) := by decide +kernel
theorem d_M_sea_79 : decode b_M_sea 79 = .ok (.ireturn, 1) := by decide +kernel
theorem d_M_sea_80 : decode b_M_sea 80 = .ok (.iconst 0, 1) := by decide +kernel
theorem d_M_sea_81 : decode b_M_sea 81 = .ok (.istore 5, 2) := by decide +kernel
theorem d_M_sea_83 : decode b_M_sea 83 = .ok (.iload 5, 2) := by decide +kernel
theorem d_M_sea_85 : decode b_M_sea 85 = .ok (.iload_n 2, 1) := by decide +kernel
theorem d_M_sea_86 : decode b_M_sea 86 = .ok (.if_icmp .ge 66, 3) := by decide +kernel
theorem d_M_sea_89 : decode b_M_sea 89 = .ok (.iload_n 3, 1) := by decide +kernel
theorem d_M_sea_90 : decode b_M_sea 90 = .ok (.ifCond .ne 5, 3) := by decide +kernel
theorem d_M_sea_93 : decode b_M_sea 93 = .ok (.iconst (-1), 1) := by decide +kernel
theorem d_M_sea_94 : decode b_M_sea 94 = .ok (.ireturn, 1) := by decide +kernel
theorem d_M_sea_95 : decode b_M_sea 95 = .ok (.iconst 0, 1) := by decide +kernel
theorem d_M_sea_96 : decode b_M_sea 96 = .ok (.istore 6, 2) := by decide +kernel
theorem d_M_sea_98 : decode b_M_sea 98 = .ok (.aload_n 0, 1) := by decide +kernel
theorem d_M_sea_99 : decode b_M_sea 99 = .ok (.iload 4, 2) := by decide +kernel
theorem d_M_sea_101 : decode b_M_sea 101 = .ok (.iload_n 3, 1) := by decide +kernel
theorem d_M_sea_102 : decode b_M_sea 102 = .ok (.iload 6, 2) := by decide +kernel
theorem d_M_sea_104 : decode b_M_sea 104 = .ok (.invokevirtual 412, 3) := by decide +kernel
theorem d_M_sea_107 : decode b_M_sea 107 = .ok (.aload_n 0, 1) := by decide +kernel
theorem d_M_sea_108 : decode b_M_sea 108 = .ok (.iload 4, 2) := by decide +kernel
theorem d_M_sea_110 : decode b_M_sea 110 = .ok (.iload_n 3, 1) := by decide +kernel
theorem d_M_sea_111 : decode b_M_sea 111 = .ok (.invokevirtual 409, 3) := by decide +kernel
theorem d_M_sea_114 : decode b_M_sea 114 = .ok (.if_icmp .eq 9, 3) := by decide +kernel
theorem d_M_sea_117 : decode b_M_sea 117 = .ok (.iinc 6 1, 3) := by decide +kernel
theorem d_M_sea_120 : decode b_M_sea 120 = .ok (.goto (-22), 3) := by decide +kernel
theorem d_M_sea_123 : decode b_M_sea 123 = .ok (.iload 4, 2) := by decide +kernel
theorem d_M_sea_125 : decode b_M_sea 125 = .ok (.aload_n 0, 1) := by decide +kernel
theorem d_M_sea_126 : decode b_M_sea 126 = .ok (.iload_n 3, 1) := by decide +kernel
theorem d_M_sea_127 : decode b_M_sea 127 = .ok (.iload 6, 2) := by decide +kernel
theorem d_M_sea_129 : decode b_M_sea 129 = .ok (.invokevirtual 338, 3) := by decide +kernel
theorem d_M_sea_132 : decode b_M_sea 132 = .ok (.ifCond .eq 7, 3) := by decide +kernel
theorem d_M_sea_135 : decode b_M_sea 135 = .ok (.iconst 1, 1) := by decide +kernel
theorem d_M_sea_136 : decode b_M_sea 136 = .ok (.goto 4, 3) := by decide +kernel
theorem d_M_sea_139 : decode b_M_sea 139 = .ok (.iconst 0, 1) := by decide +kernel
theorem d_M_sea_140 : decode b_M_sea 140 = .ok (.isub, 1) := by decide +kernel
theorem d_M_sea_141 : decode b_M_sea 141 = .ok (.istore 4, 2) := by decide +kernel
theorem d_M_sea_143 : decode b_M_sea 143 = .ok (.iload 6, 2) := by decide +kernel
theorem d_M_sea_145 : decode b_M_sea 145 = .ok (.istore_n 3, 1) := by decide +kernel
theorem d_M_sea_146 : decode b_M_sea 146 = .ok (.iinc 5 1, 3) := by decide +kernel
theorem d_M_sea_149 : decode b_M_sea 149 = .ok (.goto (-66), 3) := by decide +kernel
theorem d_M_sea_152 : decode b_M_sea 152 = .ok (.iload_n 3, 1) := by decide +kernel
theorem d_M_sea_153 : decode b_M_sea 153 = .ok (.ireturn, 1) := by decide +kernel
theorem mf_M_sea : zMF y_M_sea b_M_sea 7 (some .int) 2 := ⟨zGW_in 1850 (by decide +kernel) (by decide +kernel), zGW_in 135 (by decide +kernel) (by decide +kernel), by decide +kernel⟩
theorem in_M_sea : Cond.instanceMethod y_M_sea ∈ zGW := zGW_in 1848 (by decide +kernel) (by decide +kernel)
theorem se_M_sea : Cond.selects y_M_sea.cls y_M_sea y_M_sea ∈ zGW := zGW_in 1849 (by decide +kernel) (by decide +kernel)
def y_M_heard : MethodName := ⟨zNm 11, "heard", "(II)I"⟩
abbrev b_M_heard : ByteArray := prog_13_method_113_code
theorem d_M_heard_0 : decode b_M_heard 0 = .ok (.iload_n 2, 1) := by decide +kernel
theorem d_M_heard_1 : decode b_M_heard 1 = .ok (.iconst 0, 1) := by decide +kernel
theorem d_M_heard_2 : decode b_M_heard 2 = .ok (.sipush 999, 3) := by decide +kernel
theorem d_M_heard_5 : decode b_M_heard 5 = .ok (.invokestatic 108, 3) := by decide +kernel
theorem d_M_heard_8 : decode b_M_heard 8 = .ok (.ifCond .ne 9, 3) := by decide +kernel
theorem d_M_heard_11 : decode b_M_heard 11 = .ok (.aload_n 0, 1) := by decide +kernel
theorem d_M_heard_12 : decode b_M_heard 12 = .ok (.iconst (-1), 1) := by decide +kernel
theorem d_M_heard_13 : decode b_M_heard 13 = .ok (.invokevirtual 112, 3) := by decide +kernel
theorem d_M_heard_16 : decode b_M_heard 16 = .ok (.ireturn, 1) := by decide +kernel
theorem d_M_heard_17 : decode b_M_heard 17 = .ok (.aload_n 0, 1) := by decide +kernel
theorem d_M_heard_18 : decode b_M_heard 18 = .ok (.iload_n 1, 1) := by decide +kernel
theorem d_M_heard_19 : decode b_M_heard 19 = .ok (.invokevirtual 122, 3) := by decide +kernel
theorem d_M_heard_22 : decode b_M_heard 22 = .ok (.ifCond .ne 10, 3) := by decide +kernel
theorem d_M_heard_25 : decode b_M_heard 25 = .ok (.aload_n 0, 1) := by decide +kernel
theorem d_M_heard_26 : decode b_M_heard 26 = .ok (.bipush (-2), 2) := by decide +kernel
theorem d_M_heard_28 : decode b_M_heard 28 = .ok (.invokevirtual 112, 3) := by decide +kernel
theorem d_M_heard_31 : decode b_M_heard 31 = .ok (.ireturn, 1) := by decide +kernel
theorem d_M_heard_32 : decode b_M_heard 32 = .ok (.sipush 182, 3) := by decide +kernel
theorem d_M_heard_35 : decode b_M_heard 35 = .ok (.iconst 2, 1) := by decide +kernel
theorem d_M_heard_36 : decode b_M_heard 36 = .ok (.aload_n 0, 1) := by decide +kernel
theorem d_M_heard_37 : decode b_M_heard 37 = .ok (.getfield 24, 3) := by decide +kernel
theorem d_M_heard_40 : decode b_M_heard 40 = .ok (.sipush 197, 3) := by decide +kernel
theorem d_M_heard_43 : decode b_M_heard 43 = .ok (.iaload, 1) := by decide +kernel
theorem d_M_heard_44 : decode b_M_heard 44 = .ok (.imul, 1) := by decide +kernel
theorem d_M_heard_45 : decode b_M_heard 45 = .ok (.iadd, 1) := by decide +kernel
theorem d_M_heard_46 : decode b_M_heard 46 = .ok (.istore_n 3, 1) := by decide +kernel
theorem d_M_heard_47 : decode b_M_heard 47 = .ok (.aload_n 0, 1) := by decide +kernel
theorem d_M_heard_48 : decode b_M_heard 48 = .ok (.getfield 24, 3) := by decide +kernel
theorem d_M_heard_51 : decode b_M_heard 51 = .ok (.sipush 197, 3) := by decide +kernel
theorem d_M_heard_54 : decode b_M_heard 54 = .ok (.iaload, 1) := by decide +kernel
theorem d_M_heard_55 : decode b_M_heard 55 = .ok (.bipush 6, 2) := by decide +kernel
theorem d_M_heard_57 : decode b_M_heard 57 = .ok (.if_icmp .ne 10, 3) := by decide +kernel
theorem d_M_heard_60 : decode b_M_heard 60 = .ok (.aload_n 0, 1) := by decide +kernel
theorem d_M_heard_61 : decode b_M_heard 61 = .ok (.bipush (-5), 2) := by decide +kernel
theorem d_M_heard_63 : decode b_M_heard 63 = .ok (.invokevirtual 112, 3) := by decide +kernel
theorem d_M_heard_66 : decode b_M_heard 66 = .ok (.ireturn, 1) := by decide +kernel
theorem d_M_heard_67 : decode b_M_heard 67 = .ok (.aload_n 0, 1) := by decide +kernel
theorem d_M_heard_68 : decode b_M_heard 68 = .ok (.getfield 24, 3) := by decide +kernel
theorem d_M_heard_71 : decode b_M_heard 71 = .ok (.iload_n 3, 1) := by decide +kernel
theorem d_M_heard_72 : decode b_M_heard 72 = .ok (.iload_n 1, 1) := by decide +kernel
theorem d_M_heard_73 : decode b_M_heard 73 = .ok (.iastore, 1) := by decide +kernel
theorem d_M_heard_74 : decode b_M_heard 74 = .ok (.aload_n 0, 1) := by decide +kernel
theorem d_M_heard_75 : decode b_M_heard 75 = .ok (.getfield 24, 3) := by decide +kernel
theorem d_M_heard_78 : decode b_M_heard 78 = .ok (.iload_n 3, 1) := by decide +kernel
theorem d_M_heard_79 : decode b_M_heard 79 = .ok (.iconst 1, 1) := by decide +kernel
theorem d_M_heard_80 : decode b_M_heard 80 = .ok (.iadd, 1) := by decide +kernel
theorem d_M_heard_81 : decode b_M_heard 81 = .ok (.iload_n 2, 1) := by decide +kernel
theorem d_M_heard_82 : decode b_M_heard 82 = .ok (.iastore, 1) := by decide +kernel
theorem d_M_heard_83 : decode b_M_heard 83 = .ok (.aload_n 0, 1) := by decide +kernel
theorem d_M_heard_84 : decode b_M_heard 84 = .ok (.getfield 24, 3) := by decide +kernel
theorem d_M_heard_87 : decode b_M_heard 87 = .ok (.sipush 197, 3) := by decide +kernel
theorem d_M_heard_90 : decode b_M_heard 90 = .ok (.dup2, 1) := by decide +kernel
theorem d_M_heard_91 : decode b_M_heard 91 = .ok (.iaload, 1) := by decide +kernel
theorem d_M_heard_92 : decode b_M_heard 92 = .ok (.iconst 1, 1) := by decide +kernel
theorem d_M_heard_93 : decode b_M_heard 93 = .ok (.iadd, 1) := by decide +kernel
theorem d_M_heard_94 : decode b_M_heard 94 = .ok (.iastore, 1) := by decide +kernel
theorem d_M_heard_95 : decode b_M_heard 95 = .ok (.aload_n 0, 1) := by decide +kernel
theorem d_M_heard_96 : decode b_M_heard 96 = .ok (.aload_n 0, 1) := by decide +kernel
theorem d_M_heard_97 : decode b_M_heard 97 = .ok (.getfield 24, 3) := by decide +kernel
theorem d_M_heard_100 : decode b_M_heard 100 = .ok (.sipush 197, 3) := by decide +kernel
theorem d_M_heard_103 : decode b_M_heard 103 = .ok (.iaload, 1) := by decide +kernel
theorem d_M_heard_104 : decode b_M_heard 104 = .ok (.invokevirtual 14, 3) := by decide +kernel
theorem d_M_heard_107 : decode b_M_heard 107 = .ok (.ireturn, 1) := by decide +kernel
theorem mf_M_heard : zMF y_M_heard b_M_heard 4 (some .int) 2 := ⟨zGW_in 1866 (by decide +kernel) (by decide +kernel), zGW_in 135 (by decide +kernel) (by decide +kernel), by decide +kernel⟩
theorem in_M_heard : Cond.instanceMethod y_M_heard ∈ zGW := zGW_in 1864 (by decide +kernel) (by decide +kernel)
theorem se_M_heard : Cond.selects y_M_heard.cls y_M_heard y_M_heard ∈ zGW := zGW_in 1865 (by decide +kernel) (by decide +kernel)
def y_M_forget : MethodName := ⟨zNm 11, "forget", "()I"⟩
abbrev b_M_forget : ByteArray := prog_13_method_114_code
theorem d_M_forget_0 : decode b_M_forget 0 = .ok (.aload_n 0, 1) := by decide +kernel
theorem d_M_forget_1 : decode b_M_forget 1 = .ok (.getfield 24, 3) := by decide +kernel
theorem d_M_forget_4 : decode b_M_forget 4 = .ok (.sipush 197, 3) := by decide +kernel
theorem d_M_forget_7 : decode b_M_forget 7 = .ok (.iaload, 1) := by decide +kernel
theorem d_M_forget_8 : decode b_M_forget 8 = .ok (.istore_n 1, 1) := by decide +kernel
theorem d_M_forget_9 : decode b_M_forget 9 = .ok (.aload_n 0, 1) := by decide +kernel
theorem d_M_forget_10 : decode b_M_forget 10 = .ok (.getfield 24, 3) := by decide +kernel
theorem d_M_forget_13 : decode b_M_forget 13 = .ok (.sipush 197, 3) := by decide +kernel
theorem d_M_forget_16 : decode b_M_forget 16 = .ok (.iconst 0, 1) := by decide +kernel
theorem d_M_forget_17 : decode b_M_forget 17 = .ok (.iastore, 1) := by decide +kernel
theorem d_M_forget_18 : decode b_M_forget 18 = .ok (.iload_n 1, 1) := by decide +kernel
theorem d_M_forget_19 : decode b_M_forget 19 = .ok (.ireturn, 1) := by decide +kernel
theorem mf_M_forget : zMF y_M_forget b_M_forget 2 (some .int) 0 := ⟨zGW_in 1870 (by decide +kernel) (by decide +kernel), zGW_in 135 (by decide +kernel) (by decide +kernel), by decide +kernel⟩
theorem in_M_forget : Cond.instanceMethod y_M_forget ∈ zGW := zGW_in 1868 (by decide +kernel) (by decide +kernel)
theorem se_M_forget : Cond.selects y_M_forget.cls y_M_forget y_M_forget ∈ zGW := zGW_in 1869 (by decide +kernel) (by decide +kernel)
def y_M_beginsAt : MethodName := ⟨zNm 11, "beginsAt", "(I)I"⟩
abbrev b_M_beginsAt : ByteArray := prog_13_method_115_code
theorem d_M_beginsAt_0 : decode b_M_beginsAt 0 = .ok (.iconst (-1), 1) := by decide +kernel
theorem d_M_beginsAt_1 : decode b_M_beginsAt 1 = .ok (.istore_n 2, 1) := by decide +kernel
theorem d_M_beginsAt_2 : decode b_M_beginsAt 2 = .ok (.iconst 0, 1) := by decide +kernel
theorem d_M_beginsAt_3 : decode b_M_beginsAt 3 = .ok (.istore_n 3, 1) := by decide +kernel
theorem d_M_beginsAt_4 : decode b_M_beginsAt 4 = .ok (.iload_n 3, 1) := by decide +kernel
theorem d_M_beginsAt_5 : decode b_M_beginsAt 5 = .ok (.aload_n 0, 1) := by decide +kernel
theorem d_M_beginsAt_6 : decode b_M_beginsAt 6 = .ok (.getfield 24, 3) := by decide +kernel
theorem d_M_beginsAt_9 : decode b_M_beginsAt 9 = .ok (.sipush 197, 3) := by decide +kernel
theorem d_M_beginsAt_12 : decode b_M_beginsAt 12 = .ok (.iaload, 1) := by decide +kernel
theorem d_M_beginsAt_13 : decode b_M_beginsAt 13 = .ok (.if_icmp .ge 67, 3) := by decide +kernel
theorem d_M_beginsAt_16 : decode b_M_beginsAt 16 = .ok (.aload_n 0, 1) := by decide +kernel
theorem d_M_beginsAt_17 : decode b_M_beginsAt 17 = .ok (.getfield 24, 3) := by decide +kernel
theorem d_M_beginsAt_20 : decode b_M_beginsAt 20 = .ok (.sipush 182, 3) := by decide +kernel
theorem d_M_beginsAt_23 : decode b_M_beginsAt 23 = .ok (.iconst 2, 1) := by decide +kernel
theorem d_M_beginsAt_24 : decode b_M_beginsAt 24 = .ok (.iload_n 3, 1) := by decide +kernel
theorem d_M_beginsAt_25 : decode b_M_beginsAt 25 = .ok (.imul, 1) := by decide +kernel
theorem d_M_beginsAt_26 : decode b_M_beginsAt 26 = .ok (.iadd, 1) := by decide +kernel
theorem d_M_beginsAt_27 : decode b_M_beginsAt 27 = .ok (.iconst 1, 1) := by decide +kernel
theorem d_M_beginsAt_28 : decode b_M_beginsAt 28 = .ok (.iadd, 1) := by decide +kernel
theorem d_M_beginsAt_29 : decode b_M_beginsAt 29 = .ok (.iaload, 1) := by decide +kernel
theorem d_M_beginsAt_30 : decode b_M_beginsAt 30 = .ok (.aload_n 0, 1) := by decide +kernel
theorem d_M_beginsAt_31 : decode b_M_beginsAt 31 = .ok (.getfield 77, 3) := by decide +kernel
theorem d_M_beginsAt_34 : decode b_M_beginsAt 34 = .ok (.iload_n 1, 1) := by decide +kernel
theorem d_M_beginsAt_35 : decode b_M_beginsAt 35 = .ok (.aload_n 0, 1) := by decide +kernel
theorem d_M_beginsAt_36 : decode b_M_beginsAt 36 = .ok (.getfield 24, 3) := by decide +kernel
theorem d_M_beginsAt_39 : decode b_M_beginsAt 39 = .ok (.sipush 182, 3) := by decide +kernel
theorem d_M_beginsAt_42 : decode b_M_beginsAt 42 = .ok (.iconst 2, 1) := by decide +kernel
theorem d_M_beginsAt_43 : decode b_M_beginsAt 43 = .ok (.iload_n 3, 1) := by decide +kernel
theorem d_M_beginsAt_44 : decode b_M_beginsAt 44 = .ok (.imul, 1) := by decide +kernel
theorem d_M_beginsAt_45 : decode b_M_beginsAt 45 = .ok (.iadd, 1) := by decide +kernel
theorem d_M_beginsAt_46 : decode b_M_beginsAt 46 = .ok (.iaload, 1) := by decide +kernel
theorem d_M_beginsAt_47 : decode b_M_beginsAt 47 = .ok (.invokestatic 126, 3) := by decide +kernel
theorem d_M_beginsAt_50 : decode b_M_beginsAt 50 = .ok (.iaload, 1) := by decide +kernel
theorem d_M_beginsAt_51 : decode b_M_beginsAt 51 = .ok (.isub, 1) := by decide +kernel
theorem d_M_beginsAt_52 : decode b_M_beginsAt 52 = .ok (.istore 4, 2) := by decide +kernel
theorem d_M_beginsAt_54 : decode b_M_beginsAt 54 = .ok (.iload 4, 2) := by decide +kernel
theorem d_M_beginsAt_56 : decode b_M_beginsAt 56 = .ok (.ifCond .lt 13, 3) := by decide +kernel
theorem d_M_beginsAt_59 : decode b_M_beginsAt 59 = .ok (.iload_n 3, 1) := by decide +kernel
theorem d_M_beginsAt_60 : decode b_M_beginsAt 60 = .ok (.ifCond .le 11, 3) := by decide +kernel
theorem d_M_beginsAt_63 : decode b_M_beginsAt 63 = .ok (.iload 4, 2) := by decide +kernel
theorem d_M_beginsAt_65 : decode b_M_beginsAt 65 = .ok (.iload_n 2, 1) := by decide +kernel
theorem d_M_beginsAt_66 : decode b_M_beginsAt 66 = .ok (.if_icmp .eq 5, 3) := by decide +kernel
theorem d_M_beginsAt_69 : decode b_M_beginsAt 69 = .ok (.iconst (-1), 1) := by decide +kernel
theorem d_M_beginsAt_70 : decode b_M_beginsAt 70 = .ok (.ireturn, 1) := by decide +kernel
theorem d_M_beginsAt_71 : decode b_M_beginsAt 71 = .ok (.iload 4, 2) := by decide +kernel
theorem d_M_beginsAt_73 : decode b_M_beginsAt 73 = .ok (.istore_n 2, 1) := by decide +kernel
theorem d_M_beginsAt_74 : decode b_M_beginsAt 74 = .ok (.iinc 3 1, 3) := by decide +kernel
theorem d_M_beginsAt_77 : decode b_M_beginsAt 77 = .ok (.goto (-73), 3) := by decide +kernel
theorem d_M_beginsAt_80 : decode b_M_beginsAt 80 = .ok (.aload_n 0, 1) := by decide +kernel
theorem d_M_beginsAt_81 : decode b_M_beginsAt 81 = .ok (.getfield 24, 3) := by decide +kernel
theorem d_M_beginsAt_84 : decode b_M_beginsAt 84 = .ok (.sipush 197, 3) := by decide +kernel
theorem d_M_beginsAt_87 : decode b_M_beginsAt 87 = .ok (.iaload, 1) := by decide +kernel
theorem d_M_beginsAt_88 : decode b_M_beginsAt 88 = .ok (.ifCond .ne 7, 3) := by decide +kernel
theorem d_M_beginsAt_91 : decode b_M_beginsAt 91 = .ok (.iconst 0, 1) := by decide +kernel
theorem d_M_beginsAt_92 : decode b_M_beginsAt 92 = .ok (.goto 4, 3) := by decide +kernel
theorem d_M_beginsAt_95 : decode b_M_beginsAt 95 = .ok (.iload_n 2, 1) := by decide +kernel
theorem d_M_beginsAt_96 : decode b_M_beginsAt 96 = .ok (.ireturn, 1) := by decide +kernel
theorem mf_M_beginsAt : zMF y_M_beginsAt b_M_beginsAt 5 (some .int) 1 := ⟨zGW_in 1882 (by decide +kernel) (by decide +kernel), zGW_in 135 (by decide +kernel) (by decide +kernel), by decide +kernel⟩
theorem in_M_beginsAt : Cond.instanceMethod y_M_beginsAt ∈ zGW := zGW_in 1881 (by decide +kernel) (by decide +kernel)
theorem se_M_beginsAt : Cond.selects y_M_beginsAt.cls y_M_beginsAt y_M_beginsAt ∈ zGW := zGW_in 112 (by decide +kernel) (by decide +kernel)
def y_M_canBeNow : MethodName := ⟨zNm 11, "canBeNow", "()I"⟩
abbrev b_M_canBeNow : ByteArray := prog_13_method_116_code
theorem d_M_canBeNow_0 : decode b_M_canBeNow 0 = .ok (.aload_n 0, 1) := by decide +kernel
theorem d_M_canBeNow_1 : decode b_M_canBeNow 1 = .ok (.invokevirtual 375, 3) := by decide +kernel
theorem d_M_canBeNow_4 : decode b_M_canBeNow 4 = .ok (.iconst 0, 1) := by decide +kernel
theorem d_M_canBeNow_5 : decode b_M_canBeNow 5 = .ok (.istore_n 1, 1) := by decide +kernel
theorem d_M_canBeNow_6 : decode b_M_canBeNow 6 = .ok (.iconst 0, 1) := by decide +kernel
theorem d_M_canBeNow_7 : decode b_M_canBeNow 7 = .ok (.istore_n 2, 1) := by decide +kernel
theorem d_M_canBeNow_8 : decode b_M_canBeNow 8 = .ok (.iload_n 2, 1) := by decide +kernel
theorem d_M_canBeNow_9 : decode b_M_canBeNow 9 = .ok (.aload_n 0, 1) := by decide +kernel
theorem d_M_canBeNow_10 : decode b_M_canBeNow 10 = .ok (.invokevirtual 118, 3) := by decide +kernel
theorem d_M_canBeNow_13 : decode b_M_canBeNow 13 = .ok (.if_icmp .ge 28, 3) := by decide +kernel
theorem d_M_canBeNow_16 : decode b_M_canBeNow 16 = .ok (.iload_n 1, 1) := by decide +kernel
theorem d_M_canBeNow_17 : decode b_M_canBeNow 17 = .ok (.aload_n 0, 1) := by decide +kernel
theorem d_M_canBeNow_18 : decode b_M_canBeNow 18 = .ok (.iload_n 2, 1) := by decide +kernel
theorem d_M_canBeNow_19 : decode b_M_canBeNow 19 = .ok (.invokevirtual 418, 3) := by decide +kernel
theorem d_M_canBeNow_22 : decode b_M_canBeNow 22 = .ok (.iconst (-1), 1) := by decide +kernel
theorem d_M_canBeNow_23 : decode b_M_canBeNow 23 = .ok (.if_icmp .ne 7, 3) := by decide +kernel
theorem d_M_canBeNow_26 : decode b_M_canBeNow 26 = .ok (.iconst 0, 1) := by decide +kernel
theorem d_M_canBeNow_27 : decode b_M_canBeNow 27 = .ok (.goto 6, 3) := by decide +kernel
theorem d_M_canBeNow_30 : decode b_M_canBeNow 30 = .ok (.iconst 1, 1) := by decide +kernel
theorem d_M_canBeNow_31 : decode b_M_canBeNow 31 = .ok (.iload_n 2, 1) := by decide +kernel
theorem d_M_canBeNow_32 : decode b_M_canBeNow 32 = .ok (.ishl, 1) := by decide +kernel
theorem d_M_canBeNow_33 : decode b_M_canBeNow 33 = .ok (.ior, 1) := by decide +kernel
theorem d_M_canBeNow_34 : decode b_M_canBeNow 34 = .ok (.istore_n 1, 1) := by decide +kernel
theorem d_M_canBeNow_35 : decode b_M_canBeNow 35 = .ok (.iinc 2 1, 3) := by decide +kernel
theorem d_M_canBeNow_38 : decode b_M_canBeNow 38 = .ok (.goto (-30), 3) := by decide +kernel
theorem d_M_canBeNow_41 : decode b_M_canBeNow 41 = .ok (.iload_n 1, 1) := by decide +kernel
theorem d_M_canBeNow_42 : decode b_M_canBeNow 42 = .ok (.ireturn, 1) := by decide +kernel
theorem mf_M_canBeNow : zMF y_M_canBeNow b_M_canBeNow 3 (some .int) 0 := ⟨zGW_in 1878 (by decide +kernel) (by decide +kernel), zGW_in 135 (by decide +kernel) (by decide +kernel), by decide +kernel⟩
theorem in_M_canBeNow : Cond.instanceMethod y_M_canBeNow ∈ zGW := zGW_in 1877 (by decide +kernel) (by decide +kernel)
theorem se_M_canBeNow : Cond.selects y_M_canBeNow.cls y_M_canBeNow y_M_canBeNow ∈ zGW := zGW_in 111 (by decide +kernel) (by decide +kernel)
def y_M_canBe : MethodName := ⟨zNm 11, "canBe", "()I"⟩
abbrev b_M_canBe : ByteArray := prog_13_method_117_code
theorem d_M_canBe_0 : decode b_M_canBe 0 = .ok (.aload_n 0, 1) := by decide +kernel
theorem d_M_canBe_1 : decode b_M_canBe 1 = .ok (.invokevirtual 421, 3) := by decide +kernel
theorem d_M_canBe_4 : decode b_M_canBe 4 = .ok (.ireturn, 1) := by decide +kernel
theorem mf_M_canBe : zMF y_M_canBe b_M_canBe 1 (some .int) 0 := ⟨zGW_in 1874 (by decide +kernel) (by decide +kernel), zGW_in 135 (by decide +kernel) (by decide +kernel), by decide +kernel⟩
theorem in_M_canBe : Cond.instanceMethod y_M_canBe ∈ zGW := zGW_in 1872 (by decide +kernel) (by decide +kernel)
theorem se_M_canBe : Cond.selects y_M_canBe.cls y_M_canBe y_M_canBe ∈ zGW := zGW_in 1873 (by decide +kernel) (by decide +kernel)
def y_M_since : MethodName := ⟨zNm 11, "since", "(I)I"⟩
abbrev b_M_since : ByteArray := prog_13_method_118_code
theorem d_M_since_0 : decode b_M_since 0 = .ok (.aload_n 0, 1) := by decide +kernel
theorem d_M_since_1 : decode b_M_since 1 = .ok (.iload_n 1, 1) := by decide +kernel
theorem d_M_since_2 : decode b_M_since 2 = .ok (.invokevirtual 122, 3) := by decide +kernel
theorem d_M_since_5 : decode b_M_since 5 = .ok (.ifCond .eq 14, 3) := by decide +kernel
theorem d_M_since_8 : decode b_M_since 8 = .ok (.aload_n 0, 1) := by decide +kernel
theorem d_M_since_9 : decode b_M_since 9 = .ok (.getfield 24, 3) := by decide +kernel
theorem d_M_since_12 : decode b_M_since 12 = .ok (.sipush 197, 3) := by decide +kernel
theorem d_M_since_15 : decode b_M_since 15 = .ok (.iaload, 1) := by decide +kernel
theorem d_M_since_16 : decode b_M_since 16 = .ok (.ifCond .ne 5, 3) := by decide +kernel
theorem d_M_since_19 : decode b_M_since 19 = .ok (.iconst (-1), 1) := by decide +kernel
theorem d_M_since_20 : decode b_M_since 20 = .ok (.ireturn, 1) := by decide +kernel
theorem d_M_since_21 : decode b_M_since 21 = .ok (.aload_n 0, 1) := by decide +kernel
theorem d_M_since_22 : decode b_M_since 22 = .ok (.invokevirtual 375, 3) := by decide +kernel
theorem d_M_since_25 : decode b_M_since 25 = .ok (.aload_n 0, 1) := by decide +kernel
theorem d_M_since_26 : decode b_M_since 26 = .ok (.iload_n 1, 1) := by decide +kernel
theorem d_M_since_27 : decode b_M_since 27 = .ok (.invokevirtual 418, 3) := by decide +kernel
theorem d_M_since_30 : decode b_M_since 30 = .ok (.ireturn, 1) := by decide +kernel
theorem mf_M_since : zMF y_M_since b_M_since 2 (some .int) 1 := ⟨zGW_in 1886 (by decide +kernel) (by decide +kernel), zGW_in 135 (by decide +kernel) (by decide +kernel), by decide +kernel⟩
theorem in_M_since : Cond.instanceMethod y_M_since ∈ zGW := zGW_in 1884 (by decide +kernel) (by decide +kernel)
theorem se_M_since : Cond.selects y_M_since.cls y_M_since y_M_since ∈ zGW := zGW_in 1885 (by decide +kernel) (by decide +kernel)
def y_M_dayAt : MethodName := ⟨zNm 11, "dayAt", "(II)I"⟩
abbrev b_M_dayAt : ByteArray := prog_13_method_119_code
theorem d_M_dayAt_0 : decode b_M_dayAt 0 = .ok (.aload_n 0, 1) := by decide +kernel
theorem d_M_dayAt_1 : decode b_M_dayAt 1 = .ok (.iload_n 1, 1) := by decide +kernel
theorem d_M_dayAt_2 : decode b_M_dayAt 2 = .ok (.iload_n 2, 1) := by decide +kernel
theorem d_M_dayAt_3 : decode b_M_dayAt 3 = .ok (.invokevirtual 378, 3) := by decide +kernel
theorem d_M_dayAt_6 : decode b_M_dayAt 6 = .ok (.iconst (-1), 1) := by decide +kernel
theorem d_M_dayAt_7 : decode b_M_dayAt 7 = .ok (.if_icmp .ne 7, 3) := by decide +kernel
theorem d_M_dayAt_10 : decode b_M_dayAt 10 = .ok (.iconst (-1), 1) := by decide +kernel
theorem d_M_dayAt_11 : decode b_M_dayAt 11 = .ok (.goto 15, 3) := by decide +kernel
theorem d_M_dayAt_14 : decode b_M_dayAt 14 = .ok (.aload_n 0, 1) := by decide +kernel
theorem d_M_dayAt_15 : decode b_M_dayAt 15 = .ok (.iload_n 1, 1) := by decide +kernel
theorem d_M_dayAt_16 : decode b_M_dayAt 16 = .ok (.invokevirtual 418, 3) := by decide +kernel
theorem d_M_dayAt_19 : decode b_M_dayAt 19 = .ok (.aload_n 0, 1) := by decide +kernel
theorem d_M_dayAt_20 : decode b_M_dayAt 20 = .ok (.iload_n 1, 1) := by decide +kernel
theorem d_M_dayAt_21 : decode b_M_dayAt 21 = .ok (.iload_n 2, 1) := by decide +kernel
theorem d_M_dayAt_22 : decode b_M_dayAt 22 = .ok (.invokevirtual 378, 3) := by decide +kernel
theorem d_M_dayAt_25 : decode b_M_dayAt 25 = .ok (.iadd, 1) := by decide +kernel
theorem d_M_dayAt_26 : decode b_M_dayAt 26 = .ok (.ireturn, 1) := by decide +kernel
theorem mf_M_dayAt : zMF y_M_dayAt b_M_dayAt 3 (some .int) 2 := ⟨zGW_in 1898 (by decide +kernel) (by decide +kernel), zGW_in 135 (by decide +kernel) (by decide +kernel), by decide +kernel⟩
theorem in_M_dayAt : Cond.instanceMethod y_M_dayAt ∈ zGW := zGW_in 1897 (by decide +kernel) (by decide +kernel)
theorem se_M_dayAt : Cond.selects y_M_dayAt.cls y_M_dayAt y_M_dayAt ∈ zGW := zGW_in 114 (by decide +kernel) (by decide +kernel)
def y_M_mostAlike : MethodName := ⟨zNm 11, "mostAlike", "(II)I"⟩
abbrev b_M_mostAlike : ByteArray := prog_13_method_120_code
theorem d_M_mostAlike_0 : decode b_M_mostAlike 0 = .ok (.iconst 0, 1) := by decide +kernel
theorem d_M_mostAlike_1 : decode b_M_mostAlike 1 = .ok (.istore_n 3, 1) := by decide +kernel
theorem d_M_mostAlike_2 : decode b_M_mostAlike 2 = .ok (.iconst 0, 1) := by decide +kernel
theorem d_M_mostAlike_3 : decode b_M_mostAlike 3 = .ok (.istore 4, 2) := by decide +kernel
theorem d_M_mostAlike_5 : decode b_M_mostAlike 5 = .ok (.iload 4, 2) := by decide +kernel
theorem d_M_mostAlike_7 : decode b_M_mostAlike 7 = .ok (.aload_n 0, 1) := by decide +kernel
theorem d_M_mostAlike_8 : decode b_M_mostAlike 8 = .ok (.invokevirtual 118, 3) := by decide +kernel
theorem d_M_mostAlike_11 : decode b_M_mostAlike 11 = .ok (.if_icmp .ge 82, 3) := by decide +kernel
theorem d_M_mostAlike_14 : decode b_M_mostAlike 14 = .ok (.iconst 0, 1) := by decide +kernel
theorem d_M_mostAlike_15 : decode b_M_mostAlike 15 = .ok (.istore 5, 2) := by decide +kernel
theorem d_M_mostAlike_17 : decode b_M_mostAlike 17 = .ok (.iconst 0, 1) := by decide +kernel
theorem d_M_mostAlike_18 : decode b_M_mostAlike 18 = .ok (.istore 6, 2) := by decide +kernel
theorem d_M_mostAlike_20 : decode b_M_mostAlike 20 = .ok (.iload 6, 2) := by decide +kernel
theorem d_M_mostAlike_22 : decode b_M_mostAlike 22 = .ok (.aload_n 0, 1) := by decide +kernel
theorem d_M_mostAlike_23 : decode b_M_mostAlike 23 = .ok (.invokevirtual 118, 3) := by decide +kernel
theorem d_M_mostAlike_26 : decode b_M_mostAlike 26 = .ok (.if_icmp .ge 54, 3) := by decide +kernel
theorem d_M_mostAlike_29 : decode b_M_mostAlike 29 = .ok (.iload 5, 2) := by decide +kernel
theorem d_M_mostAlike_31 : decode b_M_mostAlike 31 = .ok (.iload_n 1, 1) := by decide +kernel
theorem d_M_mostAlike_32 : decode b_M_mostAlike 32 = .ok (.iload 6, 2) := by decide +kernel
theorem d_M_mostAlike_34 : decode b_M_mostAlike 34 = .ok (.invokestatic 390, 3) := by decide +kernel
theorem d_M_mostAlike_37 : decode b_M_mostAlike 37 = .ok (.ifCond .eq 33, 3) := by decide +kernel
theorem d_M_mostAlike_40 : decode b_M_mostAlike 40 = .ok (.iload_n 1, 1) := by decide +kernel
theorem d_M_mostAlike_41 : decode b_M_mostAlike 41 = .ok (.iload 4, 2) := by decide +kernel
theorem d_M_mostAlike_43 : decode b_M_mostAlike 43 = .ok (.invokestatic 390, 3) := by decide +kernel
theorem d_M_mostAlike_46 : decode b_M_mostAlike 46 = .ok (.ifCond .eq 24, 3) := by decide +kernel
theorem d_M_mostAlike_49 : decode b_M_mostAlike 49 = .ok (.aload_n 0, 1) := by decide +kernel
theorem d_M_mostAlike_50 : decode b_M_mostAlike 50 = .ok (.iload 4, 2) := by decide +kernel
theorem d_M_mostAlike_52 : decode b_M_mostAlike 52 = .ok (.iload_n 2, 1) := by decide +kernel
theorem d_M_mostAlike_53 : decode b_M_mostAlike 53 = .ok (.invokevirtual 424, 3) := by decide +kernel
theorem d_M_mostAlike_56 : decode b_M_mostAlike 56 = .ok (.aload_n 0, 1) := by decide +kernel
theorem d_M_mostAlike_57 : decode b_M_mostAlike 57 = .ok (.iload 6, 2) := by decide +kernel
theorem d_M_mostAlike_59 : decode b_M_mostAlike 59 = .ok (.iload_n 2, 1) := by decide +kernel
theorem d_M_mostAlike_60 : decode b_M_mostAlike 60 = .ok (.invokevirtual 424, 3) := by decide +kernel
theorem d_M_mostAlike_63 : decode b_M_mostAlike 63 = .ok (.if_icmp .ne 7, 3) := by decide +kernel
theorem d_M_mostAlike_66 : decode b_M_mostAlike 66 = .ok (.iconst 1, 1) := by decide +kernel
theorem d_M_mostAlike_67 : decode b_M_mostAlike 67 = .ok (.goto 4, 3) := by decide +kernel
theorem d_M_mostAlike_70 : decode b_M_mostAlike 70 = .ok (.iconst 0, 1) := by decide +kernel
theorem d_M_mostAlike_71 : decode b_M_mostAlike 71 = .ok (.iadd, 1) := by decide +kernel
theorem d_M_mostAlike_72 : decode b_M_mostAlike 72 = .ok (.istore 5, 2) := by decide +kernel
theorem d_M_mostAlike_74 : decode b_M_mostAlike 74 = .ok (.iinc 6 1, 3) := by decide +kernel
theorem d_M_mostAlike_77 : decode b_M_mostAlike 77 = .ok (.goto (-57), 3) := by decide +kernel
theorem d_M_mostAlike_80 : decode b_M_mostAlike 80 = .ok (.iload_n 3, 1) := by decide +kernel
theorem d_M_mostAlike_81 : decode b_M_mostAlike 81 = .ok (.iload 5, 2) := by decide +kernel
theorem d_M_mostAlike_83 : decode b_M_mostAlike 83 = .ok (.invokestatic 384, 3) := by decide +kernel
theorem d_M_mostAlike_86 : decode b_M_mostAlike 86 = .ok (.istore_n 3, 1) := by decide +kernel
theorem d_M_mostAlike_87 : decode b_M_mostAlike 87 = .ok (.iinc 4 1, 3) := by decide +kernel
theorem d_M_mostAlike_90 : decode b_M_mostAlike 90 = .ok (.goto (-85), 3) := by decide +kernel
theorem d_M_mostAlike_93 : decode b_M_mostAlike 93 = .ok (.iload_n 3, 1) := by decide +kernel
theorem d_M_mostAlike_94 : decode b_M_mostAlike 94 = .ok (.ireturn, 1) := by decide +kernel
theorem mf_M_mostAlike : zMF y_M_mostAlike b_M_mostAlike 7 (some .int) 2 := ⟨zGW_in 1894 (by decide +kernel) (by decide +kernel), zGW_in 135 (by decide +kernel) (by decide +kernel), by decide +kernel⟩
theorem in_M_mostAlike : Cond.instanceMethod y_M_mostAlike ∈ zGW := zGW_in 1893 (by decide +kernel) (by decide +kernel)
theorem se_M_mostAlike : Cond.selects y_M_mostAlike.cls y_M_mostAlike y_M_mostAlike ∈ zGW := zGW_in 113 (by decide +kernel) (by decide +kernel)
def y_M_listen : MethodName := ⟨zNm 11, "listen", "(I)I"⟩
abbrev b_M_listen : ByteArray := prog_13_method_121_code
theorem d_M_listen_0 : decode b_M_listen 0 = .ok (.iload_n 1, 1) := by decide +kernel
theorem d_M_listen_1 : decode b_M_listen 1 = .ok (.iconst 0, 1) := by decide +kernel
theorem d_M_listen_2 : decode b_M_listen 2 = .ok (.iconst 1, 1) := by decide +kernel
theorem d_M_listen_3 : decode b_M_listen 3 = .ok (.invokestatic 108, 3) := by decide +kernel
theorem d_M_listen_6 : decode b_M_listen 6 = .ok (.ifCond .ne 5, 3) := by decide +kernel
theorem d_M_listen_9 : decode b_M_listen 9 = .ok (.iconst (-1), 1) := by decide +kernel
theorem d_M_listen_10 : decode b_M_listen 10 = .ok (.ireturn, 1) := by decide +kernel
theorem d_M_listen_11 : decode b_M_listen 11 = .ok (.aload_n 0, 1) := by decide +kernel
theorem d_M_listen_12 : decode b_M_listen 12 = .ok (.invokevirtual 421, 3) := by decide +kernel
theorem d_M_listen_15 : decode b_M_listen 15 = .ok (.istore_n 2, 1) := by decide +kernel
theorem d_M_listen_16 : decode b_M_listen 16 = .ok (.iconst (-1), 1) := by decide +kernel
theorem d_M_listen_17 : decode b_M_listen 17 = .ok (.istore_n 3, 1) := by decide +kernel
theorem d_M_listen_18 : decode b_M_listen 18 = .ok (.ldc 177, 2) := by decide +kernel
theorem d_M_listen_20 : decode b_M_listen 20 = .ok (.istore 4, 2) := by decide +kernel
theorem d_M_listen_22 : decode b_M_listen 22 = .ok (.iconst 0, 1) := by decide +kernel
theorem d_M_listen_23 : decode b_M_listen 23 = .ok (.istore 5, 2) := by decide +kernel
theorem d_M_listen_25 : decode b_M_listen 25 = .ok (.iload 5, 2) := by decide +kernel
theorem d_M_listen_27 : decode b_M_listen 27 = .ok (.aload_n 0, 1) := by decide +kernel
theorem d_M_listen_28 : decode b_M_listen 28 = .ok (.invokevirtual 118, 3) := by decide +kernel
theorem d_M_listen_31 : decode b_M_listen 31 = .ok (.if_icmp .ge 39, 3) := by decide +kernel
theorem d_M_listen_34 : decode b_M_listen 34 = .ok (.iload_n 2, 1) := by decide +kernel
theorem d_M_listen_35 : decode b_M_listen 35 = .ok (.ifCond .eq 35, 3) := by decide +kernel
theorem d_M_listen_38 : decode b_M_listen 38 = .ok (.aload_n 0, 1) := by decide +kernel
theorem d_M_listen_39 : decode b_M_listen 39 = .ok (.iload_n 2, 1) := by decide +kernel
theorem d_M_listen_40 : decode b_M_listen 40 = .ok (.iload 5, 2) := by decide +kernel
theorem d_M_listen_42 : decode b_M_listen 42 = .ok (.invokevirtual 427, 3) := by decide +kernel
theorem d_M_listen_45 : decode b_M_listen 45 = .ok (.istore 6, 2) := by decide +kernel
theorem d_M_listen_47 : decode b_M_listen 47 = .ok (.iload 6, 2) := by decide +kernel
theorem d_M_listen_49 : decode b_M_listen 49 = .ok (.iload 4, 2) := by decide +kernel
theorem d_M_listen_51 : decode b_M_listen 51 = .ok (.if_icmp .lt 6, 3) := by decide +kernel
theorem d_M_listen_54 : decode b_M_listen 54 = .ok (.goto 10, 3) := by decide +kernel
theorem d_M_listen_57 : decode b_M_listen 57 = .ok (.iload 6, 2) := by decide +kernel
theorem d_M_listen_59 : decode b_M_listen 59 = .ok (.istore 4, 2) := by decide +kernel
theorem d_M_listen_61 : decode b_M_listen 61 = .ok (.iload 5, 2) := by decide +kernel
theorem d_M_listen_63 : decode b_M_listen 63 = .ok (.istore_n 3, 1) := by decide +kernel
theorem d_M_listen_64 : decode b_M_listen 64 = .ok (.iinc 5 1, 3) := by decide +kernel
theorem d_M_listen_67 : decode b_M_listen 67 = .ok (.goto (-42), 3) := by decide +kernel
theorem d_M_listen_70 : decode b_M_listen 70 = .ok (.iload_n 3, 1) := by decide +kernel
theorem d_M_listen_71 : decode b_M_listen 71 = .ok (.iconst (-1), 1) := by decide +kernel
theorem d_M_listen_72 : decode b_M_listen 72 = .ok (.if_icmp .eq 7, 3) := by decide +kernel
theorem d_M_listen_75 : decode b_M_listen 75 = .ok (.iload_n 1, 1) := by decide +kernel
theorem d_M_listen_76 : decode b_M_listen 76 = .ok (.ifCond .ne 7, 3) := by decide +kernel
theorem d_M_listen_79 : decode b_M_listen 79 = .ok (.iload_n 3, 1) := by decide +kernel
theorem d_M_listen_80 : decode b_M_listen 80 = .ok (.goto 5, 3) := by decide +kernel
theorem d_M_listen_83 : decode b_M_listen 83 = .ok (.iload 4, 2) := by decide +kernel
theorem d_M_listen_85 : decode b_M_listen 85 = .ok (.ireturn, 1) := by decide +kernel
theorem mf_M_listen : zMF y_M_listen b_M_listen 7 (some .int) 1 := ⟨zGW_in 1890 (by decide +kernel) (by decide +kernel), zGW_in 135 (by decide +kernel) (by decide +kernel), by decide +kernel⟩
theorem in_M_listen : Cond.instanceMethod y_M_listen ∈ zGW := zGW_in 1888 (by decide +kernel) (by decide +kernel)
theorem se_M_listen : Cond.selects y_M_listen.cls y_M_listen y_M_listen ∈ zGW := zGW_in 1889 (by decide +kernel) (by decide +kernel)
def y_M_few : MethodName := ⟨zNm 11, "few", "(II)J"⟩
abbrev b_M_few : ByteArray := prog_13_method_122_code
theorem d_M_few_0 : decode b_M_few 0 = .ok (.iload_n 1, 1) := by decide +kernel
theorem d_M_few_1 : decode b_M_few 1 = .ok (.iconst 1, 1) := by decide +kernel
theorem d_M_few_2 : decode b_M_few 2 = .ok (.bipush 20, 2) := by decide +kernel
theorem d_M_few_4 : decode b_M_few 4 = .ok (.invokestatic 108, 3) := by decide +kernel
theorem d_M_few_7 : decode b_M_few 7 = .ok (.ifCond .eq 13, 3) := by decide +kernel
theorem d_M_few_10 : decode b_M_few 10 = .ok (.iload_n 2, 1) := by decide +kernel
theorem d_M_few_11 : decode b_M_few 11 = .ok (.iconst 0, 1) := by decide +kernel
theorem d_M_few_12 : decode b_M_few 12 = .ok (.bipush 99, 2) := by decide +kernel
theorem d_M_few_14 : decode b_M_few 14 = .ok (.invokestatic 108, 3) := by decide +kernel
theorem d_M_few_17 : decode b_M_few 17 = .ok (.ifCond .ne 7, 3) := by decide +kernel
theorem d_M_few_20 : decode b_M_few 20 = .ok (.ldc2_w 430, 3) := by decide +kernel
theorem d_M_few_23 : decode b_M_few 23 = .ok (.lreturn, 1) := by decide +kernel
theorem d_M_few_24 : decode b_M_few 24 = .ok (.iconst 0, 1) := by decide +kernel
theorem d_M_few_25 : decode b_M_few 25 = .ok (.istore_n 3, 1) := by decide +kernel
theorem d_M_few_26 : decode b_M_few 26 = .ok (.iload_n 3, 1) := by decide +kernel
theorem d_M_few_27 : decode b_M_few 27 = .ok (.bipush 20, 2) := by decide +kernel
theorem d_M_few_29 : decode b_M_few 29 = .ok (.if_icmp .gt 26, 3) := by decide +kernel
theorem d_M_few_32 : decode b_M_few 32 = .ok (.aload_n 0, 1) := by decide +kernel
theorem d_M_few_33 : decode b_M_few 33 = .ok (.getfield 92, 3) := by decide +kernel
theorem d_M_few_36 : decode b_M_few 36 = .ok (.iload_n 3, 1) := by decide +kernel
theorem d_M_few_37 : decode b_M_few 37 = .ok (.iload_n 3, 1) := by decide +kernel
theorem d_M_few_38 : decode b_M_few 38 = .ok (.ifCond .ne 9, 3) := by decide +kernel
theorem d_M_few_41 : decode b_M_few 41 = .ok (.ldc2_w 432, 3) := by decide +kernel
theorem d_M_few_44 : decode b_M_few 44 = .ok (.goto 4, 3) := by decide +kernel
theorem d_M_few_47 : decode b_M_few 47 = .ok (.lconst 0, 1) := by decide +kernel
theorem d_M_few_48 : decode b_M_few 48 = .ok (.lastore, 1) := by decide +kernel
theorem d_M_few_49 : decode b_M_few 49 = .ok (.iinc 3 1, 3) := by decide +kernel
theorem d_M_few_52 : decode b_M_few 52 = .ok (.goto (-26), 3) := by decide +kernel
theorem d_M_few_55 : decode b_M_few 55 = .ok (.iconst 0, 1) := by decide +kernel
theorem d_M_few_56 : decode b_M_few 56 = .ok (.istore_n 3, 1) := by decide +kernel
theorem d_M_few_57 : decode b_M_few 57 = .ok (.iload_n 3, 1) := by decide +kernel
theorem d_M_few_58 : decode b_M_few 58 = .ok (.iload_n 2, 1) := by decide +kernel
theorem d_M_few_59 : decode b_M_few 59 = .ok (.if_icmp .ge 89, 3) := by decide +kernel
theorem d_M_few_62 : decode b_M_few 62 = .ok (.iload_n 1, 1) := by decide +kernel
theorem d_M_few_63 : decode b_M_few 63 = .ok (.iconst 1, 1) := by decide +kernel
theorem d_M_few_64 : decode b_M_few 64 = .ok (.isub, 1) := by decide +kernel
theorem d_M_few_65 : decode b_M_few 65 = .ok (.istore 4, 2) := by decide +kernel
theorem d_M_few_67 : decode b_M_few 67 = .ok (.iload 4, 2) := by decide +kernel
theorem d_M_few_69 : decode b_M_few 69 = .ok (.ifCond .lt 73, 3) := by decide +kernel
theorem d_M_few_72 : decode b_M_few 72 = .ok (.aload_n 0, 1) := by decide +kernel
theorem d_M_few_73 : decode b_M_few 73 = .ok (.getfield 92, 3) := by decide +kernel
theorem d_M_few_76 : decode b_M_few 76 = .ok (.iload 4, 2) := by decide +kernel
theorem d_M_few_78 : decode b_M_few 78 = .ok (.iconst 1, 1) := by decide +kernel
theorem d_M_few_79 : decode b_M_few 79 = .ok (.iadd, 1) := by decide +kernel
theorem d_M_few_80 : decode b_M_few 80 = .ok (.dup2, 1) := by decide +kernel
theorem d_M_few_81 : decode b_M_few 81 = .ok (.laload, 1) := by decide +kernel
theorem d_M_few_82 : decode b_M_few 82 = .ok (.aload_n 0, 1) := by decide +kernel
theorem d_M_few_83 : decode b_M_few 83 = .ok (.getfield 92, 3) := by decide +kernel
theorem d_M_few_86 : decode b_M_few 86 = .ok (.iload 4, 2) := by decide +kernel
theorem d_M_few_88 : decode b_M_few 88 = .ok (.laload, 1) := by decide +kernel
theorem d_M_few_89 : decode b_M_few 89 = .ok (.aload_n 0, 1) := by decide +kernel
theorem d_M_few_90 : decode b_M_few 90 = .ok (.getfield 24, 3) := by decide +kernel
theorem d_M_few_93 : decode b_M_few 93 = .ok (.sipush 194, 3) := by decide +kernel
theorem d_M_few_96 : decode b_M_few 96 = .ok (.iaload, 1) := by decide +kernel
theorem d_M_few_97 : decode b_M_few 97 = .ok (.i2l, 1) := by decide +kernel
theorem d_M_few_98 : decode b_M_few 98 = .ok (.lmul, 1) := by decide +kernel
theorem d_M_few_99 : decode b_M_few 99 = .ok (.ldc2_w 434, 3) := by decide +kernel
theorem d_M_few_102 : decode b_M_few 102 = .ok (.ldiv, 1) := by decide +kernel
theorem d_M_few_103 : decode b_M_few 103 = .ok (.ladd, 1) := by decide +kernel
theorem d_M_few_104 : decode b_M_few 104 = .ok (.lastore, 1) := by decide +kernel
theorem d_M_few_105 : decode b_M_few 105 = .ok (.aload_n 0, 1) := by decide +kernel
theorem d_M_few_106 : decode b_M_few 106 = .ok (.getfield 92, 3) := by decide +kernel
theorem d_M_few_109 : decode b_M_few 109 = .ok (.iload 4, 2) := by decide +kernel
theorem d_M_few_111 : decode b_M_few 111 = .ok (.aload_n 0, 1) := by decide +kernel
theorem d_M_few_112 : decode b_M_few 112 = .ok (.getfield 92, 3) := by decide +kernel
theorem d_M_few_115 : decode b_M_few 115 = .ok (.iload 4, 2) := by decide +kernel
theorem d_M_few_117 : decode b_M_few 117 = .ok (.laload, 1) := by decide +kernel
theorem d_M_few_118 : decode b_M_few 118 = .ok (.bipush 10, 2) := by decide +kernel
theorem d_M_few_120 : decode b_M_few 120 = .ok (.aload_n 0, 1) := by decide +kernel
theorem d_M_few_121 : decode b_M_few 121 = .ok (.getfield 24, 3) := by decide +kernel
theorem d_M_few_124 : decode b_M_few 124 = .ok (.sipush 194, 3) := by decide +kernel
theorem d_M_few_127 : decode b_M_few 127 = .ok (.iaload, 1) := by decide +kernel
theorem d_M_few_128 : decode b_M_few 128 = .ok (.isub, 1) := by decide +kernel
theorem d_M_few_129 : decode b_M_few 129 = .ok (.i2l, 1) := by decide +kernel
theorem d_M_few_130 : decode b_M_few 130 = .ok (.lmul, 1) := by decide +kernel
theorem d_M_few_131 : decode b_M_few 131 = .ok (.ldc2_w 434, 3) := by decide +kernel
theorem d_M_few_134 : decode b_M_few 134 = .ok (.ldiv, 1) := by decide +kernel
theorem d_M_few_135 : decode b_M_few 135 = .ok (.lastore, 1) := by decide +kernel
theorem d_M_few_136 : decode b_M_few 136 = .ok (.iinc 4 (-1), 3) := by decide +kernel
theorem d_M_few_139 : decode b_M_few 139 = .ok (.goto (-72), 3) := by decide +kernel
theorem d_M_few_142 : decode b_M_few 142 = .ok (.iinc 3 1, 3) := by decide +kernel
theorem d_M_few_145 : decode b_M_few 145 = .ok (.goto (-88), 3) := by decide +kernel
theorem d_M_few_148 : decode b_M_few 148 = .ok (.lconst 0, 1) := by decide +kernel
theorem d_M_few_149 : decode b_M_few 149 = .ok (.lstore_n 3, 1) := by decide +kernel
theorem d_M_few_150 : decode b_M_few 150 = .ok (.iconst 0, 1) := by decide +kernel
theorem d_M_few_151 : decode b_M_few 151 = .ok (.istore 5, 2) := by decide +kernel
theorem d_M_few_153 : decode b_M_few 153 = .ok (.iload 5, 2) := by decide +kernel
theorem d_M_few_155 : decode b_M_few 155 = .ok (.iload_n 1, 1) := by decide +kernel
theorem d_M_few_156 : decode b_M_few 156 = .ok (.if_icmp .ge 19, 3) := by decide +kernel
theorem d_M_few_159 : decode b_M_few 159 = .ok (.lload_n 3, 1) := by decide +kernel
theorem d_M_few_160 : decode b_M_few 160 = .ok (.aload_n 0, 1) := by decide +kernel
theorem d_M_few_161 : decode b_M_few 161 = .ok (.getfield 92, 3) := by decide +kernel
theorem d_M_few_164 : decode b_M_few 164 = .ok (.iload 5, 2) := by decide +kernel
theorem d_M_few_166 : decode b_M_few 166 = .ok (.laload, 1) := by decide +kernel
theorem d_M_few_167 : decode b_M_few 167 = .ok (.ladd, 1) := by decide +kernel
theorem d_M_few_168 : decode b_M_few 168 = .ok (.lstore_n 3, 1) := by decide +kernel
theorem d_M_few_169 : decode b_M_few 169 = .ok (.iinc 5 1, 3) := by decide +kernel
theorem d_M_few_172 : decode b_M_few 172 = .ok (.goto (-19), 3) := by decide +kernel
theorem d_M_few_175 : decode b_M_few 175 = .ok (.lload_n 3, 1) := by decide +kernel
theorem d_M_few_176 : decode b_M_few 176 = .ok (.lreturn, 1) := by decide +kernel
theorem mf_M_few : zMF y_M_few b_M_few 6 (some .long) 2 := ⟨zGW_in 1902 (by decide +kernel) (by decide +kernel), zGW_in 135 (by decide +kernel) (by decide +kernel), by decide +kernel⟩
theorem in_M_few : Cond.instanceMethod y_M_few ∈ zGW := zGW_in 1900 (by decide +kernel) (by decide +kernel)
theorem se_M_few : Cond.selects y_M_few.cls y_M_few y_M_few ∈ zGW := zGW_in 1901 (by decide +kernel) (by decide +kernel)
def y_M_compare : MethodName := ⟨zNm 11, "compare", "(III)I"⟩
abbrev b_M_compare : ByteArray := prog_13_method_123_code
theorem d_M_compare_0 : decode b_M_compare 0 = .ok (.aload_n 0, 1) := by decide +kernel
theorem d_M_compare_1 : decode b_M_compare 1 = .ok (.iload_n 1, 1) := by decide +kernel
theorem d_M_compare_2 : decode b_M_compare 2 = .ok (.invokevirtual 262, 3) := by decide +kernel
theorem d_M_compare_5 : decode b_M_compare 5 = .ok (.ifCond .eq 19, 3) := by decide +kernel
theorem d_M_compare_8 : decode b_M_compare 8 = .ok (.aload_n 0, 1) := by decide +kernel
theorem d_M_compare_9 : decode b_M_compare 9 = .ok (.iload_n 2, 1) := by decide +kernel
theorem d_M_compare_10 : decode b_M_compare 10 = .ok (.invokevirtual 122, 3) := by decide +kernel
theorem d_M_compare_13 : decode b_M_compare 13 = .ok (.ifCond .eq 11, 3) := by decide +kernel
theorem d_M_compare_16 : decode b_M_compare 16 = .ok (.aload_n 0, 1) := by decide +kernel
theorem d_M_compare_17 : decode b_M_compare 17 = .ok (.iload_n 3, 1) := by decide +kernel
theorem d_M_compare_18 : decode b_M_compare 18 = .ok (.invokevirtual 122, 3) := by decide +kernel
theorem d_M_compare_21 : decode b_M_compare 21 = .ok (.ifCond .ne 5, 3) := by decide +kernel
theorem d_M_compare_24 : decode b_M_compare 24 = .ok (.iconst (-1), 1) := by decide +kernel
theorem d_M_compare_25 : decode b_M_compare 25 = .ok (.ireturn, 1) := by decide +kernel
theorem d_M_compare_26 : decode b_M_compare 26 = .ok (.aload_n 0, 1) := by decide +kernel
theorem d_M_compare_27 : decode b_M_compare 27 = .ok (.getfield 24, 3) := by decide +kernel
theorem d_M_compare_30 : decode b_M_compare 30 = .ok (.sipush 199, 3) := by decide +kernel
theorem d_M_compare_33 : decode b_M_compare 33 = .ok (.iaload, 1) := by decide +kernel
theorem d_M_compare_34 : decode b_M_compare 34 = .ok (.istore 4, 2) := by decide +kernel
theorem d_M_compare_36 : decode b_M_compare 36 = .ok (.aload_n 0, 1) := by decide +kernel
theorem d_M_compare_37 : decode b_M_compare 37 = .ok (.getfield 24, 3) := by decide +kernel
theorem d_M_compare_40 : decode b_M_compare 40 = .ok (.sipush 199, 3) := by decide +kernel
theorem d_M_compare_43 : decode b_M_compare 43 = .ok (.iload_n 1, 1) := by decide +kernel
theorem d_M_compare_44 : decode b_M_compare 44 = .ok (.iastore, 1) := by decide +kernel
theorem d_M_compare_45 : decode b_M_compare 45 = .ok (.aload_n 0, 1) := by decide +kernel
theorem d_M_compare_46 : decode b_M_compare 46 = .ok (.invokevirtual 375, 3) := by decide +kernel
theorem d_M_compare_49 : decode b_M_compare 49 = .ok (.aload_n 0, 1) := by decide +kernel
theorem d_M_compare_50 : decode b_M_compare 50 = .ok (.getfield 24, 3) := by decide +kernel
theorem d_M_compare_53 : decode b_M_compare 53 = .ok (.sipush 199, 3) := by decide +kernel
theorem d_M_compare_56 : decode b_M_compare 56 = .ok (.iload 4, 2) := by decide +kernel
theorem d_M_compare_58 : decode b_M_compare 58 = .ok (.iastore, 1) := by decide +kernel
theorem d_M_compare_59 : decode b_M_compare 59 = .ok (.aload_n 0, 1) := by decide +kernel
theorem d_M_compare_60 : decode b_M_compare 60 = .ok (.iload_n 2, 1) := by decide +kernel
theorem d_M_compare_61 : decode b_M_compare 61 = .ok (.iload_n 3, 1) := by decide +kernel
theorem d_M_compare_62 : decode b_M_compare 62 = .ok (.invokevirtual 378, 3) := by decide +kernel
theorem d_M_compare_65 : decode b_M_compare 65 = .ok (.ireturn, 1) := by decide +kernel
theorem mf_M_compare : zMF y_M_compare b_M_compare 5 (some .int) 3 := ⟨zGW_in 1909 (by decide +kernel) (by decide +kernel), zGW_in 135 (by decide +kernel) (by decide +kernel), by decide +kernel⟩
theorem in_M_compare : Cond.instanceMethod y_M_compare ∈ zGW := zGW_in 1907 (by decide +kernel) (by decide +kernel)
theorem se_M_compare : Cond.selects y_M_compare.cls y_M_compare y_M_compare ∈ zGW := zGW_in 1908 (by decide +kernel) (by decide +kernel)
def y_M_stopped : MethodName := ⟨zNm 11, "stopped", "()I"⟩
abbrev b_M_stopped : ByteArray := prog_13_method_124_code
theorem d_M_stopped_0 : decode b_M_stopped 0 = .ok (.aload_n 0, 1) := by decide +kernel
theorem d_M_stopped_1 : decode b_M_stopped 1 = .ok (.getfield 96, 3) := by decide +kernel
theorem d_M_stopped_4 : decode b_M_stopped 4 = .ok (.ireturn, 1) := by decide +kernel
theorem mf_M_stopped : zMF y_M_stopped b_M_stopped 1 (some .int) 0 := ⟨zGW_in 1913 (by decide +kernel) (by decide +kernel), zGW_in 135 (by decide +kernel) (by decide +kernel), by decide +kernel⟩
theorem in_M_stopped : Cond.instanceMethod y_M_stopped ∈ zGW := zGW_in 1911 (by decide +kernel) (by decide +kernel)
theorem se_M_stopped : Cond.selects y_M_stopped.cls y_M_stopped y_M_stopped ∈ zGW := zGW_in 1912 (by decide +kernel) (by decide +kernel)
def y_M_laysAside : MethodName := ⟨zNm 11, "laysAside", "(I)V"⟩
abbrev b_M_laysAside : ByteArray := prog_13_method_10_code
theorem d_M_laysAside_0 : decode b_M_laysAside 0 = .ok (.iconst 0, 1) := by decide +kernel
theorem d_M_laysAside_1 : decode b_M_laysAside 1 = .ok (.istore_n 2, 1) := by decide +kernel
theorem d_M_laysAside_2 : decode b_M_laysAside 2 = .ok (.iload_n 2, 1) := by decide +kernel
theorem d_M_laysAside_3 : decode b_M_laysAside 3 = .ok (.bipush 92, 2) := by decide +kernel
theorem d_M_laysAside_5 : decode b_M_laysAside 5 = .ok (.if_icmp .ge 26, 3) := by decide +kernel
theorem d_M_laysAside_8 : decode b_M_laysAside 8 = .ok (.aload_n 0, 1) := by decide +kernel
theorem d_M_laysAside_9 : decode b_M_laysAside 9 = .ok (.getfield 34, 3) := by decide +kernel
theorem d_M_laysAside_12 : decode b_M_laysAside 12 = .ok (.bipush 92, 2) := by decide +kernel
theorem d_M_laysAside_14 : decode b_M_laysAside 14 = .ok (.iload_n 1, 1) := by decide +kernel
theorem d_M_laysAside_15 : decode b_M_laysAside 15 = .ok (.imul, 1) := by decide +kernel
theorem d_M_laysAside_16 : decode b_M_laysAside 16 = .ok (.iload_n 2, 1) := by decide +kernel
theorem d_M_laysAside_17 : decode b_M_laysAside 17 = .ok (.iadd, 1) := by decide +kernel
theorem d_M_laysAside_18 : decode b_M_laysAside 18 = .ok (.aload_n 0, 1) := by decide +kernel
theorem d_M_laysAside_19 : decode b_M_laysAside 19 = .ok (.getfield 24, 3) := by decide +kernel
theorem d_M_laysAside_22 : decode b_M_laysAside 22 = .ok (.iload_n 2, 1) := by decide +kernel
theorem d_M_laysAside_23 : decode b_M_laysAside 23 = .ok (.iaload, 1) := by decide +kernel
theorem d_M_laysAside_24 : decode b_M_laysAside 24 = .ok (.iastore, 1) := by decide +kernel
theorem d_M_laysAside_25 : decode b_M_laysAside 25 = .ok (.iinc 2 1, 3) := by decide +kernel
theorem d_M_laysAside_28 : decode b_M_laysAside 28 = .ok (.goto (-26), 3) := by decide +kernel
theorem d_M_laysAside_31 : decode b_M_laysAside 31 = .ok (.return_, 1) := by decide +kernel
theorem mf_M_laysAside : zMF y_M_laysAside b_M_laysAside 3 none 1 := ⟨zGW_in 1921 (by decide +kernel) (by decide +kernel), zGW_in 135 (by decide +kernel) (by decide +kernel), by decide +kernel⟩
theorem in_M_laysAside : Cond.instanceMethod y_M_laysAside ∈ zGW := zGW_in 1920 (by decide +kernel) (by decide +kernel)
theorem se_M_laysAside : Cond.selects y_M_laysAside.cls y_M_laysAside y_M_laysAside ∈ zGW := zGW_in 115 (by decide +kernel) (by decide +kernel)
def y_M_laysOrderSoon : MethodName := ⟨zNm 11, "laysOrderSoon", "()V"⟩
abbrev b_M_laysOrderSoon : ByteArray := prog_13_method_126_code
theorem d_M_laysOrderSoon_0 : decode b_M_laysOrderSoon 0 = .ok (.aload_n 0, 1) := by decide +kernel
theorem d_M_laysOrderSoon_1 : decode b_M_laysOrderSoon 1 = .ok (.invokevirtual 375, 3) := by decide +kernel
theorem d_M_laysOrderSoon_4 : decode b_M_laysOrderSoon 4 = .ok (.iconst 0, 1) := by decide +kernel
theorem d_M_laysOrderSoon_5 : decode b_M_laysOrderSoon 5 = .ok (.istore_n 1, 1) := by decide +kernel
theorem d_M_laysOrderSoon_6 : decode b_M_laysOrderSoon 6 = .ok (.iload_n 1, 1) := by decide +kernel
theorem d_M_laysOrderSoon_7 : decode b_M_laysOrderSoon 7 = .ok (.aload_n 0, 1) := by decide +kernel
theorem d_M_laysOrderSoon_8 : decode b_M_laysOrderSoon 8 = .ok (.invokevirtual 118, 3) := by decide +kernel
theorem d_M_laysOrderSoon_11 : decode b_M_laysOrderSoon 11 = .ok (.if_icmp .ge 26, 3) := by decide +kernel
theorem d_M_laysOrderSoon_14 : decode b_M_laysOrderSoon 14 = .ok (.aload_n 0, 1) := by decide +kernel
theorem d_M_laysOrderSoon_15 : decode b_M_laysOrderSoon 15 = .ok (.getfield 62, 3) := by decide +kernel
theorem d_M_laysOrderSoon_18 : decode b_M_laysOrderSoon 18 = .ok (.iload_n 1, 1) := by decide +kernel
theorem d_M_laysOrderSoon_19 : decode b_M_laysOrderSoon 19 = .ok (.aload_n 0, 1) := by decide +kernel
theorem d_M_laysOrderSoon_20 : decode b_M_laysOrderSoon 20 = .ok (.aload_n 0, 1) := by decide +kernel
theorem d_M_laysOrderSoon_21 : decode b_M_laysOrderSoon 21 = .ok (.getfield 24, 3) := by decide +kernel
theorem d_M_laysOrderSoon_24 : decode b_M_laysOrderSoon 24 = .ok (.iconst 0, 1) := by decide +kernel
theorem d_M_laysOrderSoon_25 : decode b_M_laysOrderSoon 25 = .ok (.iaload, 1) := by decide +kernel
theorem d_M_laysOrderSoon_26 : decode b_M_laysOrderSoon 26 = .ok (.iload_n 1, 1) := by decide +kernel
theorem d_M_laysOrderSoon_27 : decode b_M_laysOrderSoon 27 = .ok (.invokevirtual 378, 3) := by decide +kernel
theorem d_M_laysOrderSoon_30 : decode b_M_laysOrderSoon 30 = .ok (.iastore, 1) := by decide +kernel
theorem d_M_laysOrderSoon_31 : decode b_M_laysOrderSoon 31 = .ok (.iinc 1 1, 3) := by decide +kernel
theorem d_M_laysOrderSoon_34 : decode b_M_laysOrderSoon 34 = .ok (.goto (-28), 3) := by decide +kernel
theorem d_M_laysOrderSoon_37 : decode b_M_laysOrderSoon 37 = .ok (.return_, 1) := by decide +kernel
theorem mf_M_laysOrderSoon : zMF y_M_laysOrderSoon b_M_laysOrderSoon 2 none 0 := ⟨zGW_in 1933 (by decide +kernel) (by decide +kernel), zGW_in 135 (by decide +kernel) (by decide +kernel), by decide +kernel⟩
theorem in_M_laysOrderSoon : Cond.instanceMethod y_M_laysOrderSoon ∈ zGW := zGW_in 1932 (by decide +kernel) (by decide +kernel)
theorem se_M_laysOrderSoon : Cond.selects y_M_laysOrderSoon.cls y_M_laysOrderSoon y_M_laysOrderSoon ∈ zGW := zGW_in 118 (by decide +kernel) (by decide +kernel)
def y_M_goesAlong : MethodName := ⟨zNm 11, "goesAlong", "(IZ)V"⟩
abbrev b_M_goesAlong : ByteArray := prog_13_method_127_code
theorem d_M_goesAlong_0 : decode b_M_goesAlong 0 = .ok (.iload_n 2, 1) := by decide +kernel
theorem d_M_goesAlong_1 : decode b_M_goesAlong 1 = .ok (.ifCond .eq 7, 3) := by decide +kernel
theorem d_M_goesAlong_4 : decode b_M_goesAlong 4 = .ok (.aload_n 0, 1) := by decide +kernel
theorem d_M_goesAlong_5 : decode b_M_goesAlong 5 = .ok (.invokevirtual 448, 3) := by decide +kernel
theorem d_M_goesAlong_8 : decode b_M_goesAlong 8 = .ok (.aload_n 0, 1) := by decide +kernel
theorem d_M_goesAlong_9 : decode b_M_goesAlong 9 = .ok (.iconst 1, 1) := by decide +kernel
theorem d_M_goesAlong_10 : decode b_M_goesAlong 10 = .ok (.putfield 298, 3) := by decide +kernel
theorem d_M_goesAlong_13 : decode b_M_goesAlong 13 = .ok (.aload_n 0, 1) := by decide +kernel
theorem d_M_goesAlong_14 : decode b_M_goesAlong 14 = .ok (.iload_n 1, 1) := by decide +kernel
theorem d_M_goesAlong_15 : decode b_M_goesAlong 15 = .ok (.putfield 265, 3) := by decide +kernel
theorem d_M_goesAlong_18 : decode b_M_goesAlong 18 = .ok (.aload_n 0, 1) := by decide +kernel
theorem d_M_goesAlong_19 : decode b_M_goesAlong 19 = .ok (.aload_n 0, 1) := by decide +kernel
theorem d_M_goesAlong_20 : decode b_M_goesAlong 20 = .ok (.getfield 439, 3) := by decide +kernel
theorem d_M_goesAlong_23 : decode b_M_goesAlong 23 = .ok (.putfield 268, 3) := by decide +kernel
theorem d_M_goesAlong_26 : decode b_M_goesAlong 26 = .ok (.aload_n 0, 1) := by decide +kernel
theorem d_M_goesAlong_27 : decode b_M_goesAlong 27 = .ok (.aload_n 0, 1) := by decide +kernel
theorem d_M_goesAlong_28 : decode b_M_goesAlong 28 = .ok (.aload_n 0, 1) := by decide +kernel
theorem d_M_goesAlong_29 : decode b_M_goesAlong 29 = .ok (.getfield 268, 3) := by decide +kernel
theorem d_M_goesAlong_32 : decode b_M_goesAlong 32 = .ok (.invokevirtual 271, 3) := by decide +kernel
theorem d_M_goesAlong_35 : decode b_M_goesAlong 35 = .ok (.putfield 451, 3) := by decide +kernel
theorem d_M_goesAlong_38 : decode b_M_goesAlong 38 = .ok (.aload_n 0, 1) := by decide +kernel
theorem d_M_goesAlong_39 : decode b_M_goesAlong 39 = .ok (.dup, 1) := by decide +kernel
theorem d_M_goesAlong_40 : decode b_M_goesAlong 40 = .ok (.getfield 268, 3) := by decide +kernel
theorem d_M_goesAlong_43 : decode b_M_goesAlong 43 = .ok (.iconst 1, 1) := by decide +kernel
theorem d_M_goesAlong_44 : decode b_M_goesAlong 44 = .ok (.iadd, 1) := by decide +kernel
theorem d_M_goesAlong_45 : decode b_M_goesAlong 45 = .ok (.putfield 268, 3) := by decide +kernel
theorem d_M_goesAlong_48 : decode b_M_goesAlong 48 = .ok (.aload_n 0, 1) := by decide +kernel
theorem d_M_goesAlong_49 : decode b_M_goesAlong 49 = .ok (.iconst 1, 1) := by decide +kernel
theorem d_M_goesAlong_50 : decode b_M_goesAlong 50 = .ok (.putfield 454, 3) := by decide +kernel
theorem d_M_goesAlong_53 : decode b_M_goesAlong 53 = .ok (.aload_n 0, 1) := by decide +kernel
theorem d_M_goesAlong_54 : decode b_M_goesAlong 54 = .ok (.getfield 451, 3) := by decide +kernel
theorem d_M_goesAlong_57 : decode b_M_goesAlong 57 = .ok (.bipush 24, 2) := by decide +kernel
theorem d_M_goesAlong_59 : decode b_M_goesAlong 59 = .ok (.if_icmp .ne 7, 3) := by decide +kernel
theorem d_M_goesAlong_62 : decode b_M_goesAlong 62 = .ok (.iconst 0, 1) := by decide +kernel
theorem d_M_goesAlong_63 : decode b_M_goesAlong 63 = .ok (.goto 17, 3) := by decide +kernel
theorem d_M_goesAlong_66 : decode b_M_goesAlong 66 = .ok (.aload_n 0, 1) := by decide +kernel
theorem d_M_goesAlong_67 : decode b_M_goesAlong 67 = .ok (.getfield 451, 3) := by decide +kernel
theorem d_M_goesAlong_70 : decode b_M_goesAlong 70 = .ok (.bipush 21, 2) := by decide +kernel
theorem d_M_goesAlong_72 : decode b_M_goesAlong 72 = .ok (.if_icmp .ne 7, 3) := by decide +kernel
theorem d_M_goesAlong_75 : decode b_M_goesAlong 75 = .ok (.iconst 1, 1) := by decide +kernel
theorem d_M_goesAlong_76 : decode b_M_goesAlong 76 = .ok (.goto 4, 3) := by decide +kernel
theorem d_M_goesAlong_79 : decode b_M_goesAlong 79 = .ok (.iconst 2, 1) := by decide +kernel
theorem d_M_goesAlong_80 : decode b_M_goesAlong 80 = .ok (.istore_n 3, 1) := by decide +kernel
theorem d_M_goesAlong_81 : decode b_M_goesAlong 81 = .ok (.iconst 0, 1) := by decide +kernel
theorem d_M_goesAlong_82 : decode b_M_goesAlong 82 = .ok (.istore 4, 2) := by decide +kernel
theorem d_M_goesAlong_84 : decode b_M_goesAlong 84 = .ok (.iload 4, 2) := by decide +kernel
theorem d_M_goesAlong_86 : decode b_M_goesAlong 86 = .ok (.iload_n 3, 1) := by decide +kernel
theorem d_M_goesAlong_87 : decode b_M_goesAlong 87 = .ok (.if_icmp .ge 64, 3) := by decide +kernel
theorem d_M_goesAlong_90 : decode b_M_goesAlong 90 = .ok (.iload 4, 2) := by decide +kernel
theorem d_M_goesAlong_92 : decode b_M_goesAlong 92 = .ok (.ifCond .le 13, 3) := by decide +kernel
theorem d_M_goesAlong_95 : decode b_M_goesAlong 95 = .ok (.aload_n 0, 1) := by decide +kernel
theorem d_M_goesAlong_96 : decode b_M_goesAlong 96 = .ok (.dup, 1) := by decide +kernel
theorem d_M_goesAlong_97 : decode b_M_goesAlong 97 = .ok (.getfield 268, 3) := by decide +kernel
theorem d_M_goesAlong_100 : decode b_M_goesAlong 100 = .ok (.iconst 1, 1) := by decide +kernel
theorem d_M_goesAlong_101 : decode b_M_goesAlong 101 = .ok (.iadd, 1) := by decide +kernel
theorem d_M_goesAlong_102 : decode b_M_goesAlong 102 = .ok (.putfield 268, 3) := by decide +kernel
theorem d_M_goesAlong_105 : decode b_M_goesAlong 105 = .ok (.aload_n 0, 1) := by decide +kernel
theorem d_M_goesAlong_106 : decode b_M_goesAlong 106 = .ok (.iconst 0, 1) := by decide +kernel
theorem d_M_goesAlong_107 : decode b_M_goesAlong 107 = .ok (.putfield 278, 3) := by decide +kernel
theorem d_M_goesAlong_110 : decode b_M_goesAlong 110 = .ok (.aload_n 0, 1) := by decide +kernel
theorem d_M_goesAlong_111 : decode b_M_goesAlong 111 = .ok (.getfield 99, 3) := by decide +kernel
theorem d_M_goesAlong_114 : decode b_M_goesAlong 114 = .ok (.iload 4, 2) := by decide +kernel
theorem d_M_goesAlong_116 : decode b_M_goesAlong 116 = .ok (.aload_n 0, 1) := by decide +kernel
theorem d_M_goesAlong_117 : decode b_M_goesAlong 117 = .ok (.iload_n 2, 1) := by decide +kernel
theorem d_M_goesAlong_118 : decode b_M_goesAlong 118 = .ok (.invokevirtual 295, 3) := by decide +kernel
theorem d_M_goesAlong_121 : decode b_M_goesAlong 121 = .ok (.lastore, 1) := by decide +kernel
theorem d_M_goesAlong_122 : decode b_M_goesAlong 122 = .ok (.aload_n 0, 1) := by decide +kernel
theorem d_M_goesAlong_123 : decode b_M_goesAlong 123 = .ok (.aload_n 0, 1) := by decide +kernel
theorem d_M_goesAlong_124 : decode b_M_goesAlong 124 = .ok (.getfield 454, 3) := by decide +kernel
theorem d_M_goesAlong_127 : decode b_M_goesAlong 127 = .ok (.ifCond .eq 14, 3) := by decide +kernel
theorem d_M_goesAlong_130 : decode b_M_goesAlong 130 = .ok (.aload_n 0, 1) := by decide +kernel
theorem d_M_goesAlong_131 : decode b_M_goesAlong 131 = .ok (.getfield 278, 3) := by decide +kernel
theorem d_M_goesAlong_134 : decode b_M_goesAlong 134 = .ok (.ifCond .ne 7, 3) := by decide +kernel
theorem d_M_goesAlong_137 : decode b_M_goesAlong 137 = .ok (.iconst 1, 1) := by decide +kernel
theorem d_M_goesAlong_138 : decode b_M_goesAlong 138 = .ok (.goto 4, 3) := by decide +kernel
theorem d_M_goesAlong_141 : decode b_M_goesAlong 141 = .ok (.iconst 0, 1) := by decide +kernel
theorem d_M_goesAlong_142 : decode b_M_goesAlong 142 = .ok (.putfield 454, 3) := by decide +kernel
theorem d_M_goesAlong_145 : decode b_M_goesAlong 145 = .ok (.iinc 4 1, 3) := by decide +kernel
theorem d_M_goesAlong_148 : decode b_M_goesAlong 148 = .ok (.goto (-64), 3) := by decide +kernel
theorem d_M_goesAlong_151 : decode b_M_goesAlong 151 = .ok (.aload_n 0, 1) := by decide +kernel
theorem d_M_goesAlong_152 : decode b_M_goesAlong 152 = .ok (.iconst 1, 1) := by decide +kernel
theorem d_M_goesAlong_153 : decode b_M_goesAlong 153 = .ok (.putfield 457, 3) := by decide +kernel
theorem d_M_goesAlong_156 : decode b_M_goesAlong 156 = .ok (.aload_n 0, 1) := by decide +kernel
theorem d_M_goesAlong_157 : decode b_M_goesAlong 157 = .ok (.bipush 25, 2) := by decide +kernel
theorem d_M_goesAlong_159 : decode b_M_goesAlong 159 = .ok (.invokevirtual 292, 3) := by decide +kernel
theorem d_M_goesAlong_162 : decode b_M_goesAlong 162 = .ok (.ifCond .eq 30, 3) := by decide +kernel
theorem d_M_goesAlong_165 : decode b_M_goesAlong 165 = .ok (.aload_n 0, 1) := by decide +kernel
theorem d_M_goesAlong_166 : decode b_M_goesAlong 166 = .ok (.aload_n 0, 1) := by decide +kernel
theorem d_M_goesAlong_167 : decode b_M_goesAlong 167 = .ok (.getfield 24, 3) := by decide +kernel
theorem d_M_goesAlong_170 : decode b_M_goesAlong 170 = .ok (.sipush 3007, 3) := by decide +kernel
theorem d_M_goesAlong_173 : decode b_M_goesAlong 173 = .ok (.aload_n 0, 1) := by decide +kernel
theorem d_M_goesAlong_174 : decode b_M_goesAlong 174 = .ok (.getfield 268, 3) := by decide +kernel
theorem d_M_goesAlong_177 : decode b_M_goesAlong 177 = .ok (.iadd, 1) := by decide +kernel
theorem d_M_goesAlong_178 : decode b_M_goesAlong 178 = .ok (.iaload, 1) := by decide +kernel
theorem d_M_goesAlong_179 : decode b_M_goesAlong 179 = .ok (.putfield 457, 3) := by decide +kernel
theorem d_M_goesAlong_182 : decode b_M_goesAlong 182 = .ok (.aload_n 0, 1) := by decide +kernel
theorem d_M_goesAlong_183 : decode b_M_goesAlong 183 = .ok (.dup, 1) := by decide +kernel
theorem d_M_goesAlong_184 : decode b_M_goesAlong 184 = .ok (.getfield 268, 3) := by decide +kernel
theorem d_M_goesAlong_187 : decode b_M_goesAlong 187 = .ok (.iconst 1, 1) := by decide +kernel
theorem d_M_goesAlong_188 : decode b_M_goesAlong 188 = .ok (.iadd, 1) := by decide +kernel
theorem d_M_goesAlong_189 : decode b_M_goesAlong 189 = .ok (.putfield 268, 3) := by decide +kernel
theorem d_M_goesAlong_192 : decode b_M_goesAlong 192 = .ok (.aload_n 0, 1) := by decide +kernel
theorem d_M_goesAlong_193 : decode b_M_goesAlong 193 = .ok (.iconst 0, 1) := by decide +kernel
theorem d_M_goesAlong_194 : decode b_M_goesAlong 194 = .ok (.putfield 278, 3) := by decide +kernel
theorem d_M_goesAlong_197 : decode b_M_goesAlong 197 = .ok (.aload_n 0, 1) := by decide +kernel
theorem d_M_goesAlong_198 : decode b_M_goesAlong 198 = .ok (.aload_n 0, 1) := by decide +kernel
theorem d_M_goesAlong_199 : decode b_M_goesAlong 199 = .ok (.iconst 5, 1) := by decide +kernel
theorem d_M_goesAlong_200 : decode b_M_goesAlong 200 = .ok (.invokevirtual 292, 3) := by decide +kernel
theorem d_M_goesAlong_203 : decode b_M_goesAlong 203 = .ok (.ifCond .eq 11, 3) := by decide +kernel
theorem d_M_goesAlong_206 : decode b_M_goesAlong 206 = .ok (.aload_n 0, 1) := by decide +kernel
theorem d_M_goesAlong_207 : decode b_M_goesAlong 207 = .ok (.iload_n 2, 1) := by decide +kernel
theorem d_M_goesAlong_208 : decode b_M_goesAlong 208 = .ok (.invokevirtual 322, 3) := by decide +kernel
theorem d_M_goesAlong_211 : decode b_M_goesAlong 211 = .ok (.ifCond .eq 7, 3) := by decide +kernel
theorem d_M_goesAlong_214 : decode b_M_goesAlong 214 = .ok (.iconst 1, 1) := by decide +kernel
theorem d_M_goesAlong_215 : decode b_M_goesAlong 215 = .ok (.goto 4, 3) := by decide +kernel
theorem d_M_goesAlong_218 : decode b_M_goesAlong 218 = .ok (.iconst 0, 1) := by decide +kernel
theorem d_M_goesAlong_219 : decode b_M_goesAlong 219 = .ok (.putfield 460, 3) := by decide +kernel
theorem d_M_goesAlong_222 : decode b_M_goesAlong 222 = .ok (.aload_n 0, 1) := by decide +kernel
theorem d_M_goesAlong_223 : decode b_M_goesAlong 223 = .ok (.aload_n 0, 1) := by decide +kernel
theorem d_M_goesAlong_224 : decode b_M_goesAlong 224 = .ok (.getfield 460, 3) := by decide +kernel
theorem d_M_goesAlong_227 : decode b_M_goesAlong 227 = .ok (.ifCond .eq 14, 3) := by decide +kernel
theorem d_M_goesAlong_230 : decode b_M_goesAlong 230 = .ok (.aload_n 0, 1) := by decide +kernel
theorem d_M_goesAlong_231 : decode b_M_goesAlong 231 = .ok (.getfield 278, 3) := by decide +kernel
theorem d_M_goesAlong_234 : decode b_M_goesAlong 234 = .ok (.ifCond .ne 7, 3) := by decide +kernel
theorem d_M_goesAlong_237 : decode b_M_goesAlong 237 = .ok (.iconst 1, 1) := by decide +kernel
theorem d_M_goesAlong_238 : decode b_M_goesAlong 238 = .ok (.goto 4, 3) := by decide +kernel
theorem d_M_goesAlong_241 : decode b_M_goesAlong 241 = .ok (.iconst 0, 1) := by decide +kernel
theorem d_M_goesAlong_242 : decode b_M_goesAlong 242 = .ok (.putfield 460, 3) := by decide +kernel
theorem d_M_goesAlong_245 : decode b_M_goesAlong 245 = .ok (.aload_n 0, 1) := by decide +kernel
theorem d_M_goesAlong_246 : decode b_M_goesAlong 246 = .ok (.dup, 1) := by decide +kernel
theorem d_M_goesAlong_247 : decode b_M_goesAlong 247 = .ok (.getfield 268, 3) := by decide +kernel
theorem d_M_goesAlong_250 : decode b_M_goesAlong 250 = .ok (.iconst 1, 1) := by decide +kernel
theorem d_M_goesAlong_251 : decode b_M_goesAlong 251 = .ok (.iadd, 1) := by decide +kernel
theorem d_M_goesAlong_252 : decode b_M_goesAlong 252 = .ok (.putfield 268, 3) := by decide +kernel
theorem d_M_goesAlong_255 : decode b_M_goesAlong 255 = .ok (.return_, 1) := by decide +kernel
theorem mf_M_goesAlong : zMF y_M_goesAlong b_M_goesAlong 5 none 2 := ⟨zGW_in 1929 (by decide +kernel) (by decide +kernel), zGW_in 135 (by decide +kernel) (by decide +kernel), by decide +kernel⟩
theorem in_M_goesAlong : Cond.instanceMethod y_M_goesAlong ∈ zGW := zGW_in 1928 (by decide +kernel) (by decide +kernel)
theorem se_M_goesAlong : Cond.selects y_M_goesAlong.cls y_M_goesAlong y_M_goesAlong ∈ zGW := zGW_in 117 (by decide +kernel) (by decide +kernel)
def y_M_small : MethodName := ⟨zNm 11, "small", "(J)I"⟩
abbrev b_M_small : ByteArray := prog_13_method_128_code
theorem d_M_small_0 : decode b_M_small 0 = .ok (.lload_n 0, 1) := by decide +kernel
theorem d_M_small_1 : decode b_M_small 1 = .ok (.lconst 0, 1) := by decide +kernel
theorem d_M_small_2 : decode b_M_small 2 = .ok (.lcmp, 1) := by decide +kernel
theorem d_M_small_3 : decode b_M_small 3 = .ok (.ifCond .lt 11, 3) := by decide +kernel
theorem d_M_small_6 : decode b_M_small 6 = .ok (.lload_n 0, 1) := by decide +kernel
theorem d_M_small_7 : decode b_M_small 7 = .ok (.ldc2_w 463, 3) := by decide +kernel
theorem d_M_small_10 : decode b_M_small 10 = .ok (.lcmp, 1) := by decide +kernel
theorem d_M_small_11 : decode b_M_small 11 = .ok (.ifCond .le 7, 3) := by decide +kernel
theorem d_M_small_14 : decode b_M_small 14 = .ok (.iconst (-1), 1) := by decide +kernel
theorem d_M_small_15 : decode b_M_small 15 = .ok (.goto 5, 3) := by decide +kernel
theorem d_M_small_18 : decode b_M_small 18 = .ok (.lload_n 0, 1) := by decide +kernel
theorem d_M_small_19 : decode b_M_small 19 = .ok (.l2i, 1) := by decide +kernel
theorem d_M_small_20 : decode b_M_small 20 = .ok (.ireturn, 1) := by decide +kernel
theorem mf_M_small : zMF y_M_small b_M_small 2 (some .int) 1 := ⟨zGW_in 1940 (by decide +kernel) (by decide +kernel), zGW_in 135 (by decide +kernel) (by decide +kernel), by decide +kernel⟩
theorem st_M_small : Cond.static y_M_small ∈ zGW := zGW_in 1939 (by decide +kernel) (by decide +kernel)
def y_M_obeys : MethodName := ⟨zNm 11, "obeys", "()I"⟩
abbrev b_M_obeys : ByteArray := prog_13_method_129_code
theorem d_M_obeys_0 : decode b_M_obeys 0 = .ok (.aload_n 0, 1) := by decide +kernel
theorem d_M_obeys_1 : decode b_M_obeys 1 = .ok (.getfield 451, 3) := by decide +kernel
theorem d_M_obeys_4 : decode b_M_obeys 4 = .ok (.tableswitch 79 22 24 #[28, 51, 74], 28) := by decide +kernel
theorem d_M_obeys_32 : decode b_M_obeys 32 = .ok (.aload_n 0, 1) := by decide +kernel
theorem d_M_obeys_33 : decode b_M_obeys 33 = .ok (.aload_n 0, 1) := by decide +kernel
theorem d_M_obeys_34 : decode b_M_obeys 34 = .ok (.getfield 99, 3) := by decide +kernel
theorem d_M_obeys_37 : decode b_M_obeys 37 = .ok (.iconst 0, 1) := by decide +kernel
theorem d_M_obeys_38 : decode b_M_obeys 38 = .ok (.laload, 1) := by decide +kernel
theorem d_M_obeys_39 : decode b_M_obeys 39 = .ok (.invokestatic 465, 3) := by decide +kernel
theorem d_M_obeys_42 : decode b_M_obeys 42 = .ok (.aload_n 0, 1) := by decide +kernel
theorem d_M_obeys_43 : decode b_M_obeys 43 = .ok (.getfield 99, 3) := by decide +kernel
theorem d_M_obeys_46 : decode b_M_obeys 46 = .ok (.iconst 1, 1) := by decide +kernel
theorem d_M_obeys_47 : decode b_M_obeys 47 = .ok (.laload, 1) := by decide +kernel
theorem d_M_obeys_48 : decode b_M_obeys 48 = .ok (.invokestatic 465, 3) := by decide +kernel
theorem d_M_obeys_51 : decode b_M_obeys 51 = .ok (.invokevirtual 363, 3) := by decide +kernel
theorem d_M_obeys_54 : decode b_M_obeys 54 = .ok (.ireturn, 1) := by decide +kernel
theorem d_M_obeys_55 : decode b_M_obeys 55 = .ok (.aload_n 0, 1) := by decide +kernel
theorem d_M_obeys_56 : decode b_M_obeys 56 = .ok (.aload_n 0, 1) := by decide +kernel
theorem d_M_obeys_57 : decode b_M_obeys 57 = .ok (.getfield 99, 3) := by decide +kernel
theorem d_M_obeys_60 : decode b_M_obeys 60 = .ok (.iconst 0, 1) := by decide +kernel
theorem d_M_obeys_61 : decode b_M_obeys 61 = .ok (.laload, 1) := by decide +kernel
theorem d_M_obeys_62 : decode b_M_obeys 62 = .ok (.invokestatic 465, 3) := by decide +kernel
theorem d_M_obeys_65 : decode b_M_obeys 65 = .ok (.aload_n 0, 1) := by decide +kernel
theorem d_M_obeys_66 : decode b_M_obeys 66 = .ok (.getfield 99, 3) := by decide +kernel
theorem d_M_obeys_69 : decode b_M_obeys 69 = .ok (.iconst 1, 1) := by decide +kernel
theorem d_M_obeys_70 : decode b_M_obeys 70 = .ok (.laload, 1) := by decide +kernel
theorem d_M_obeys_71 : decode b_M_obeys 71 = .ok (.invokestatic 465, 3) := by decide +kernel
theorem d_M_obeys_74 : decode b_M_obeys 74 = .ok (.invokevirtual 366, 3) := by decide +kernel
theorem d_M_obeys_77 : decode b_M_obeys 77 = .ok (.ireturn, 1) := by decide +kernel
theorem d_M_obeys_78 : decode b_M_obeys 78 = .ok (.aload_n 0, 1) := by decide +kernel
theorem d_M_obeys_79 : decode b_M_obeys 79 = .ok (.invokevirtual 369, 3) := by decide +kernel
theorem d_M_obeys_82 : decode b_M_obeys 82 = .ok (.ireturn, 1) := by decide +kernel
theorem d_M_obeys_83 : decode b_M_obeys 83 = .ok (.aload_n 0, 1) := by decide +kernel
theorem d_M_obeys_84 : decode b_M_obeys 84 = .ok (.aload_n 0, 1) := by decide +kernel
theorem d_M_obeys_85 : decode b_M_obeys 85 = .ok (.getfield 99, 3) := by decide +kernel
theorem d_M_obeys_88 : decode b_M_obeys 88 = .ok (.iconst 0, 1) := by decide +kernel
theorem d_M_obeys_89 : decode b_M_obeys 89 = .ok (.laload, 1) := by decide +kernel
theorem d_M_obeys_90 : decode b_M_obeys 90 = .ok (.invokestatic 465, 3) := by decide +kernel
theorem d_M_obeys_93 : decode b_M_obeys 93 = .ok (.invokevirtual 357, 3) := by decide +kernel
theorem d_M_obeys_96 : decode b_M_obeys 96 = .ok (.istore_n 1, 1) := by decide +kernel
theorem d_M_obeys_97 : decode b_M_obeys 97 = .ok (.aload_n 0, 1) := by decide +kernel
theorem d_M_obeys_98 : decode b_M_obeys 98 = .ok (.iload_n 1, 1) := by decide +kernel
theorem d_M_obeys_99 : decode b_M_obeys 99 = .ok (.ifCond .ge 10, 3) := by decide +kernel
theorem d_M_obeys_102 : decode b_M_obeys 102 = .ok (.aload_n 0, 1) := by decide +kernel
theorem d_M_obeys_103 : decode b_M_obeys 103 = .ok (.getfield 307, 3) := by decide +kernel
theorem d_M_obeys_106 : decode b_M_obeys 106 = .ok (.goto 4, 3) := by decide +kernel
theorem d_M_obeys_109 : decode b_M_obeys 109 = .ok (.iload_n 1, 1) := by decide +kernel
theorem d_M_obeys_110 : decode b_M_obeys 110 = .ok (.putfield 307, 3) := by decide +kernel
theorem d_M_obeys_113 : decode b_M_obeys 113 = .ok (.iload_n 1, 1) := by decide +kernel
theorem d_M_obeys_114 : decode b_M_obeys 114 = .ok (.ireturn, 1) := by decide +kernel
theorem mf_M_obeys : zMF y_M_obeys b_M_obeys 2 (some .int) 0 := ⟨zGW_in 1937 (by decide +kernel) (by decide +kernel), zGW_in 135 (by decide +kernel) (by decide +kernel), by decide +kernel⟩
theorem in_M_obeys : Cond.instanceMethod y_M_obeys ∈ zGW := zGW_in 1936 (by decide +kernel) (by decide +kernel)
theorem se_M_obeys : Cond.selects y_M_obeys.cls y_M_obeys y_M_obeys ∈ zGW := zGW_in 119 (by decide +kernel) (by decide +kernel)
def y_M_runs : MethodName := ⟨zNm 11, "runs", "(I)Z"⟩
abbrev b_M_runs : ByteArray := prog_13_method_130_code
theorem d_M_runs_0 : decode b_M_runs 0 = .ok (.aload_n 0, 1) := by decide +kernel
theorem d_M_runs_1 : decode b_M_runs 1 = .ok (.iload_n 1, 1) := by decide +kernel
theorem d_M_runs_2 : decode b_M_runs 2 = .ok (.iconst 0, 1) := by decide +kernel
theorem d_M_runs_3 : decode b_M_runs 3 = .ok (.invokevirtual 469, 3) := by decide +kernel
theorem d_M_runs_6 : decode b_M_runs 6 = .ok (.aload_n 0, 1) := by decide +kernel
theorem d_M_runs_7 : decode b_M_runs 7 = .ok (.getfield 457, 3) := by decide +kernel
theorem d_M_runs_10 : decode b_M_runs 10 = .ok (.istore_n 2, 1) := by decide +kernel
theorem d_M_runs_11 : decode b_M_runs 11 = .ok (.aload_n 0, 1) := by decide +kernel
theorem d_M_runs_12 : decode b_M_runs 12 = .ok (.getfield 268, 3) := by decide +kernel
theorem d_M_runs_15 : decode b_M_runs 15 = .ok (.istore_n 3, 1) := by decide +kernel
theorem d_M_runs_16 : decode b_M_runs 16 = .ok (.iconst 0, 1) := by decide +kernel
theorem d_M_runs_17 : decode b_M_runs 17 = .ok (.istore 4, 2) := by decide +kernel
theorem d_M_runs_19 : decode b_M_runs 19 = .ok (.iload 4, 2) := by decide +kernel
theorem d_M_runs_21 : decode b_M_runs 21 = .ok (.iload_n 2, 1) := by decide +kernel
theorem d_M_runs_22 : decode b_M_runs 22 = .ok (.if_icmp .ge 51, 3) := by decide +kernel
theorem d_M_runs_25 : decode b_M_runs 25 = .ok (.aload_n 0, 1) := by decide +kernel
theorem d_M_runs_26 : decode b_M_runs 26 = .ok (.iload_n 1, 1) := by decide +kernel
theorem d_M_runs_27 : decode b_M_runs 27 = .ok (.iconst 1, 1) := by decide +kernel
theorem d_M_runs_28 : decode b_M_runs 28 = .ok (.invokevirtual 469, 3) := by decide +kernel
theorem d_M_runs_31 : decode b_M_runs 31 = .ok (.aload_n 0, 1) := by decide +kernel
theorem d_M_runs_32 : decode b_M_runs 32 = .ok (.getfield 460, 3) := by decide +kernel
theorem d_M_runs_35 : decode b_M_runs 35 = .ok (.ifCond .ne 6, 3) := by decide +kernel
theorem d_M_runs_38 : decode b_M_runs 38 = .ok (.goto 29, 3) := by decide +kernel
theorem d_M_runs_41 : decode b_M_runs 41 = .ok (.aload_n 0, 1) := by decide +kernel
theorem d_M_runs_42 : decode b_M_runs 42 = .ok (.getfield 454, 3) := by decide +kernel
theorem d_M_runs_45 : decode b_M_runs 45 = .ok (.ifCond .eq 10, 3) := by decide +kernel
theorem d_M_runs_48 : decode b_M_runs 48 = .ok (.aload_n 0, 1) := by decide +kernel
theorem d_M_runs_49 : decode b_M_runs 49 = .ok (.invokevirtual 473, 3) := by decide +kernel
theorem d_M_runs_52 : decode b_M_runs 52 = .ok (.ifCond .ge 5, 3) := by decide +kernel
theorem d_M_runs_55 : decode b_M_runs 55 = .ok (.iconst 0, 1) := by decide +kernel
theorem d_M_runs_56 : decode b_M_runs 56 = .ok (.ireturn, 1) := by decide +kernel
theorem d_M_runs_57 : decode b_M_runs 57 = .ok (.aload_n 0, 1) := by decide +kernel
theorem d_M_runs_58 : decode b_M_runs 58 = .ok (.dup, 1) := by decide +kernel
theorem d_M_runs_59 : decode b_M_runs 59 = .ok (.getfield 304, 3) := by decide +kernel
theorem d_M_runs_62 : decode b_M_runs 62 = .ok (.iconst 1, 1) := by decide +kernel
theorem d_M_runs_63 : decode b_M_runs 63 = .ok (.iadd, 1) := by decide +kernel
theorem d_M_runs_64 : decode b_M_runs 64 = .ok (.putfield 304, 3) := by decide +kernel
theorem d_M_runs_67 : decode b_M_runs 67 = .ok (.iinc 4 1, 3) := by decide +kernel
theorem d_M_runs_70 : decode b_M_runs 70 = .ok (.goto (-51), 3) := by decide +kernel
theorem d_M_runs_73 : decode b_M_runs 73 = .ok (.aload_n 0, 1) := by decide +kernel
theorem d_M_runs_74 : decode b_M_runs 74 = .ok (.iload_n 3, 1) := by decide +kernel
theorem d_M_runs_75 : decode b_M_runs 75 = .ok (.putfield 439, 3) := by decide +kernel
theorem d_M_runs_78 : decode b_M_runs 78 = .ok (.iconst 1, 1) := by decide +kernel
theorem d_M_runs_79 : decode b_M_runs 79 = .ok (.ireturn, 1) := by decide +kernel
theorem mf_M_runs : zMF y_M_runs b_M_runs 5 (some .boolean) 1 := ⟨zGW_in 1925 (by decide +kernel) (by decide +kernel), zGW_in 135 (by decide +kernel) (by decide +kernel), by decide +kernel⟩
theorem in_M_runs : Cond.instanceMethod y_M_runs ∈ zGW := zGW_in 1924 (by decide +kernel) (by decide +kernel)
theorem se_M_runs : Cond.selects y_M_runs.cls y_M_runs y_M_runs ∈ zGW := zGW_in 116 (by decide +kernel) (by decide +kernel)
def y_M_takesBack : MethodName := ⟨zNm 11, "takesBack", "(I)V"⟩
abbrev b_M_takesBack : ByteArray := prog_13_method_11_code
theorem d_M_takesBack_0 : decode b_M_takesBack 0 = .ok (.iconst 0, 1) := by decide +kernel
theorem d_M_takesBack_1 : decode b_M_takesBack 1 = .ok (.istore_n 2, 1) := by decide +kernel
theorem d_M_takesBack_2 : decode b_M_takesBack 2 = .ok (.iload_n 2, 1) := by decide +kernel
theorem d_M_takesBack_3 : decode b_M_takesBack 3 = .ok (.bipush 92, 2) := by decide +kernel
theorem d_M_takesBack_5 : decode b_M_takesBack 5 = .ok (.if_icmp .ge 26, 3) := by decide +kernel
theorem d_M_takesBack_8 : decode b_M_takesBack 8 = .ok (.aload_n 0, 1) := by decide +kernel
theorem d_M_takesBack_9 : decode b_M_takesBack 9 = .ok (.getfield 24, 3) := by decide +kernel
theorem d_M_takesBack_12 : decode b_M_takesBack 12 = .ok (.iload_n 2, 1) := by decide +kernel
theorem d_M_takesBack_13 : decode b_M_takesBack 13 = .ok (.aload_n 0, 1) := by decide +kernel
theorem d_M_takesBack_14 : decode b_M_takesBack 14 = .ok (.getfield 34, 3) := by decide +kernel
theorem d_M_takesBack_17 : decode b_M_takesBack 17 = .ok (.bipush 92, 2) := by decide +kernel
theorem d_M_takesBack_19 : decode b_M_takesBack 19 = .ok (.iload_n 1, 1) := by decide +kernel
theorem d_M_takesBack_20 : decode b_M_takesBack 20 = .ok (.imul, 1) := by decide +kernel
theorem d_M_takesBack_21 : decode b_M_takesBack 21 = .ok (.iload_n 2, 1) := by decide +kernel
theorem d_M_takesBack_22 : decode b_M_takesBack 22 = .ok (.iadd, 1) := by decide +kernel
theorem d_M_takesBack_23 : decode b_M_takesBack 23 = .ok (.iaload, 1) := by decide +kernel
theorem d_M_takesBack_24 : decode b_M_takesBack 24 = .ok (.iastore, 1) := by decide +kernel
theorem d_M_takesBack_25 : decode b_M_takesBack 25 = .ok (.iinc 2 1, 3) := by decide +kernel
theorem d_M_takesBack_28 : decode b_M_takesBack 28 = .ok (.goto (-26), 3) := by decide +kernel
theorem d_M_takesBack_31 : decode b_M_takesBack 31 = .ok (.return_, 1) := by decide +kernel
theorem mf_M_takesBack : zMF y_M_takesBack b_M_takesBack 3 none 1 := ⟨zGW_in 1945 (by decide +kernel) (by decide +kernel), zGW_in 135 (by decide +kernel) (by decide +kernel), by decide +kernel⟩
theorem in_M_takesBack : Cond.instanceMethod y_M_takesBack ∈ zGW := zGW_in 1944 (by decide +kernel) (by decide +kernel)
theorem se_M_takesBack : Cond.selects y_M_takesBack.cls y_M_takesBack y_M_takesBack ∈ zGW := zGW_in 120 (by decide +kernel) (by decide +kernel)
def y_M_orders : MethodName := ⟨zNm 11, "orders", "()I"⟩
abbrev b_M_orders : ByteArray := prog_13_method_125_code
theorem d_M_orders_0 : decode b_M_orders 0 = .ok (.aload_n 0, 1) := by decide +kernel
theorem d_M_orders_1 : decode b_M_orders 1 = .ok (.iconst (-1), 1) := by decide +kernel
theorem d_M_orders_2 : decode b_M_orders 2 = .ok (.putfield 96, 3) := by decide +kernel
theorem d_M_orders_5 : decode b_M_orders 5 = .ok (.aload_n 0, 1) := by decide +kernel
theorem d_M_orders_6 : decode b_M_orders 6 = .ok (.iconst 1, 1) := by decide +kernel
theorem d_M_orders_7 : decode b_M_orders 7 = .ok (.invokevirtual 255, 3) := by decide +kernel
theorem d_M_orders_10 : decode b_M_orders 10 = .ok (.ifCond .ne 10, 3) := by decide +kernel
theorem d_M_orders_13 : decode b_M_orders 13 = .ok (.aload_n 0, 1) := by decide +kernel
theorem d_M_orders_14 : decode b_M_orders 14 = .ok (.bipush (-6), 2) := by decide +kernel
theorem d_M_orders_16 : decode b_M_orders 16 = .ok (.invokevirtual 112, 3) := by decide +kernel
theorem d_M_orders_19 : decode b_M_orders 19 = .ok (.ireturn, 1) := by decide +kernel
theorem d_M_orders_20 : decode b_M_orders 20 = .ok (.aload_n 0, 1) := by decide +kernel
theorem d_M_orders_21 : decode b_M_orders 21 = .ok (.iconst 1, 1) := by decide +kernel
theorem d_M_orders_22 : decode b_M_orders 22 = .ok (.invokevirtual 436, 3) := by decide +kernel
theorem d_M_orders_25 : decode b_M_orders 25 = .ok (.iconst 0, 1) := by decide +kernel
theorem d_M_orders_26 : decode b_M_orders 26 = .ok (.istore_n 1, 1) := by decide +kernel
theorem d_M_orders_27 : decode b_M_orders 27 = .ok (.iload_n 1, 1) := by decide +kernel
theorem d_M_orders_28 : decode b_M_orders 28 = .ok (.sipush 1488, 3) := by decide +kernel
theorem d_M_orders_31 : decode b_M_orders 31 = .ok (.if_icmp .ge 21, 3) := by decide +kernel
theorem d_M_orders_34 : decode b_M_orders 34 = .ok (.aload_n 0, 1) := by decide +kernel
theorem d_M_orders_35 : decode b_M_orders 35 = .ok (.getfield 68, 3) := by decide +kernel
theorem d_M_orders_38 : decode b_M_orders 38 = .ok (.iload_n 1, 1) := by decide +kernel
theorem d_M_orders_39 : decode b_M_orders 39 = .ok (.aload_n 0, 1) := by decide +kernel
theorem d_M_orders_40 : decode b_M_orders 40 = .ok (.getfield 65, 3) := by decide +kernel
theorem d_M_orders_43 : decode b_M_orders 43 = .ok (.iload_n 1, 1) := by decide +kernel
theorem d_M_orders_44 : decode b_M_orders 44 = .ok (.iaload, 1) := by decide +kernel
theorem d_M_orders_45 : decode b_M_orders 45 = .ok (.iastore, 1) := by decide +kernel
theorem d_M_orders_46 : decode b_M_orders 46 = .ok (.iinc 1 1, 3) := by decide +kernel
theorem d_M_orders_49 : decode b_M_orders 49 = .ok (.goto (-22), 3) := by decide +kernel
theorem d_M_orders_52 : decode b_M_orders 52 = .ok (.aload_n 0, 1) := by decide +kernel
theorem d_M_orders_53 : decode b_M_orders 53 = .ok (.getfield 11, 3) := by decide +kernel
theorem d_M_orders_56 : decode b_M_orders 56 = .ok (.istore_n 1, 1) := by decide +kernel
theorem d_M_orders_57 : decode b_M_orders 57 = .ok (.aload_n 0, 1) := by decide +kernel
theorem d_M_orders_58 : decode b_M_orders 58 = .ok (.bipush 6, 2) := by decide +kernel
theorem d_M_orders_60 : decode b_M_orders 60 = .ok (.invokevirtual 259, 3) := by decide +kernel
theorem d_M_orders_63 : decode b_M_orders 63 = .ok (.aload_n 0, 1) := by decide +kernel
theorem d_M_orders_64 : decode b_M_orders 64 = .ok (.iconst 0, 1) := by decide +kernel
theorem d_M_orders_65 : decode b_M_orders 65 = .ok (.putfield 304, 3) := by decide +kernel
theorem d_M_orders_68 : decode b_M_orders 68 = .ok (.aload_n 0, 1) := by decide +kernel
theorem d_M_orders_69 : decode b_M_orders 69 = .ok (.iconst (-1), 1) := by decide +kernel
theorem d_M_orders_70 : decode b_M_orders 70 = .ok (.putfield 307, 3) := by decide +kernel
theorem d_M_orders_73 : decode b_M_orders 73 = .ok (.aload_n 0, 1) := by decide +kernel
theorem d_M_orders_74 : decode b_M_orders 74 = .ok (.sipush 2400, 3) := by decide +kernel
theorem d_M_orders_77 : decode b_M_orders 77 = .ok (.putfield 439, 3) := by decide +kernel
theorem d_M_orders_80 : decode b_M_orders 80 = .ok (.aload_n 0, 1) := by decide +kernel
theorem d_M_orders_81 : decode b_M_orders 81 = .ok (.getfield 439, 3) := by decide +kernel
theorem d_M_orders_84 : decode b_M_orders 84 = .ok (.aload_n 0, 1) := by decide +kernel
theorem d_M_orders_85 : decode b_M_orders 85 = .ok (.getfield 24, 3) := by decide +kernel
theorem d_M_orders_88 : decode b_M_orders 88 = .ok (.sipush 206, 3) := by decide +kernel
theorem d_M_orders_91 : decode b_M_orders 91 = .ok (.iaload, 1) := by decide +kernel
theorem d_M_orders_92 : decode b_M_orders 92 = .ok (.iadd, 1) := by decide +kernel
theorem d_M_orders_93 : decode b_M_orders 93 = .ok (.istore_n 2, 1) := by decide +kernel
theorem d_M_orders_94 : decode b_M_orders 94 = .ok (.iconst 0, 1) := by decide +kernel
theorem d_M_orders_95 : decode b_M_orders 95 = .ok (.istore_n 3, 1) := by decide +kernel
theorem d_M_orders_96 : decode b_M_orders 96 = .ok (.aload_n 0, 1) := by decide +kernel
theorem d_M_orders_97 : decode b_M_orders 97 = .ok (.getfield 439, 3) := by decide +kernel
theorem d_M_orders_100 : decode b_M_orders 100 = .ok (.iload_n 2, 1) := by decide +kernel
theorem d_M_orders_101 : decode b_M_orders 101 = .ok (.if_icmp .ge 73, 3) := by decide +kernel
theorem d_M_orders_104 : decode b_M_orders 104 = .ok (.aload_n 0, 1) := by decide +kernel
theorem d_M_orders_105 : decode b_M_orders 105 = .ok (.iload_n 2, 1) := by decide +kernel
theorem d_M_orders_106 : decode b_M_orders 106 = .ok (.invokevirtual 442, 3) := by decide +kernel
theorem d_M_orders_109 : decode b_M_orders 109 = .ok (.ifCond .eq 6, 3) := by decide +kernel
theorem d_M_orders_112 : decode b_M_orders 112 = .ok (.goto 56, 3) := by decide +kernel
theorem d_M_orders_115 : decode b_M_orders 115 = .ok (.aload_n 0, 1) := by decide +kernel
theorem d_M_orders_116 : decode b_M_orders 116 = .ok (.iconst 1, 1) := by decide +kernel
theorem d_M_orders_117 : decode b_M_orders 117 = .ok (.invokevirtual 445, 3) := by decide +kernel
theorem d_M_orders_120 : decode b_M_orders 120 = .ok (.iconst 0, 1) := by decide +kernel
theorem d_M_orders_121 : decode b_M_orders 121 = .ok (.istore 4, 2) := by decide +kernel
theorem d_M_orders_123 : decode b_M_orders 123 = .ok (.iload 4, 2) := by decide +kernel
theorem d_M_orders_125 : decode b_M_orders 125 = .ok (.sipush 1488, 3) := by decide +kernel
theorem d_M_orders_128 : decode b_M_orders 128 = .ok (.if_icmp .ge 23, 3) := by decide +kernel
theorem d_M_orders_131 : decode b_M_orders 131 = .ok (.aload_n 0, 1) := by decide +kernel
theorem d_M_orders_132 : decode b_M_orders 132 = .ok (.getfield 65, 3) := by decide +kernel
theorem d_M_orders_135 : decode b_M_orders 135 = .ok (.iload 4, 2) := by decide +kernel
theorem d_M_orders_137 : decode b_M_orders 137 = .ok (.aload_n 0, 1) := by decide +kernel
theorem d_M_orders_138 : decode b_M_orders 138 = .ok (.getfield 68, 3) := by decide +kernel
theorem d_M_orders_141 : decode b_M_orders 141 = .ok (.iload 4, 2) := by decide +kernel
theorem d_M_orders_143 : decode b_M_orders 143 = .ok (.iaload, 1) := by decide +kernel
theorem d_M_orders_144 : decode b_M_orders 144 = .ok (.iastore, 1) := by decide +kernel
theorem d_M_orders_145 : decode b_M_orders 145 = .ok (.iinc 4 1, 3) := by decide +kernel
theorem d_M_orders_148 : decode b_M_orders 148 = .ok (.goto (-25), 3) := by decide +kernel
theorem d_M_orders_151 : decode b_M_orders 151 = .ok (.aload_n 0, 1) := by decide +kernel
theorem d_M_orders_152 : decode b_M_orders 152 = .ok (.iload_n 1, 1) := by decide +kernel
theorem d_M_orders_153 : decode b_M_orders 153 = .ok (.putfield 11, 3) := by decide +kernel
theorem d_M_orders_156 : decode b_M_orders 156 = .ok (.aload_n 0, 1) := by decide +kernel
theorem d_M_orders_157 : decode b_M_orders 157 = .ok (.iload_n 3, 1) := by decide +kernel
theorem d_M_orders_158 : decode b_M_orders 158 = .ok (.putfield 96, 3) := by decide +kernel
theorem d_M_orders_161 : decode b_M_orders 161 = .ok (.aload_n 0, 1) := by decide +kernel
theorem d_M_orders_162 : decode b_M_orders 162 = .ok (.bipush (-3), 2) := by decide +kernel
theorem d_M_orders_164 : decode b_M_orders 164 = .ok (.invokevirtual 112, 3) := by decide +kernel
theorem d_M_orders_167 : decode b_M_orders 167 = .ok (.ireturn, 1) := by decide +kernel
theorem d_M_orders_168 : decode b_M_orders 168 = .ok (.iinc 3 1, 3) := by decide +kernel
theorem d_M_orders_171 : decode b_M_orders 171 = .ok (.goto (-75), 3) := by decide +kernel
theorem d_M_orders_174 : decode b_M_orders 174 = .ok (.aload_n 0, 1) := by decide +kernel
theorem d_M_orders_175 : decode b_M_orders 175 = .ok (.aload_n 0, 1) := by decide +kernel
theorem d_M_orders_176 : decode b_M_orders 176 = .ok (.getfield 304, 3) := by decide +kernel
theorem d_M_orders_179 : decode b_M_orders 179 = .ok (.invokevirtual 14, 3) := by decide +kernel
theorem d_M_orders_182 : decode b_M_orders 182 = .ok (.ireturn, 1) := by decide +kernel
theorem mf_M_orders : zMF y_M_orders b_M_orders 5 (some .int) 0 := ⟨zGW_in 1917 (by decide +kernel) (by decide +kernel), zGW_in 135 (by decide +kernel) (by decide +kernel), by decide +kernel⟩
theorem in_M_orders : Cond.instanceMethod y_M_orders ∈ zGW := zGW_in 1915 (by decide +kernel) (by decide +kernel)
theorem se_M_orders : Cond.selects y_M_orders.cls y_M_orders y_M_orders ∈ zGW := zGW_in 1916 (by decide +kernel) (by decide +kernel)
def y_M_draws : MethodName := ⟨zNm 11, "draws", "(I)I"⟩
abbrev b_M_draws : ByteArray := prog_13_method_131_code
theorem d_M_draws_0 : decode b_M_draws 0 = .ok (.aload_n 0, 1) := by decide +kernel
theorem d_M_draws_1 : decode b_M_draws 1 = .ok (.ldc2_w 476, 3) := by decide +kernel
theorem d_M_draws_4 : decode b_M_draws 4 = .ok (.aload_n 0, 1) := by decide +kernel
theorem d_M_draws_5 : decode b_M_draws 5 = .ok (.getfield 478, 3) := by decide +kernel
theorem d_M_draws_8 : decode b_M_draws 8 = .ok (.i2l, 1) := by decide +kernel
theorem d_M_draws_9 : decode b_M_draws 9 = .ok (.lmul, 1) := by decide +kernel
theorem d_M_draws_10 : decode b_M_draws 10 = .ok (.ldc2_w 481, 3) := by decide +kernel
theorem d_M_draws_13 : decode b_M_draws 13 = .ok (.ladd, 1) := by decide +kernel
theorem d_M_draws_14 : decode b_M_draws 14 = .ok (.ldc2_w 483, 3) := by decide +kernel
theorem d_M_draws_17 : decode b_M_draws 17 = .ok (.lrem, 1) := by decide +kernel
theorem d_M_draws_18 : decode b_M_draws 18 = .ok (.l2i, 1) := by decide +kernel
theorem d_M_draws_19 : decode b_M_draws 19 = .ok (.putfield 478, 3) := by decide +kernel
theorem d_M_draws_22 : decode b_M_draws 22 = .ok (.aload_n 0, 1) := by decide +kernel
theorem d_M_draws_23 : decode b_M_draws 23 = .ok (.getfield 478, 3) := by decide +kernel
theorem d_M_draws_26 : decode b_M_draws 26 = .ok (.iload_n 1, 1) := by decide +kernel
theorem d_M_draws_27 : decode b_M_draws 27 = .ok (.irem, 1) := by decide +kernel
theorem d_M_draws_28 : decode b_M_draws 28 = .ok (.ireturn, 1) := by decide +kernel
theorem mf_M_draws : zMF y_M_draws b_M_draws 2 (some .int) 1 := ⟨zGW_in 1957 (by decide +kernel) (by decide +kernel), zGW_in 135 (by decide +kernel) (by decide +kernel), by decide +kernel⟩
theorem in_M_draws : Cond.instanceMethod y_M_draws ∈ zGW := zGW_in 1956 (by decide +kernel) (by decide +kernel)
theorem se_M_draws : Cond.selects y_M_draws.cls y_M_draws y_M_draws ∈ zGW := zGW_in 122 (by decide +kernel) (by decide +kernel)
def y_M_drawnAct : MethodName := ⟨zNm 11, "drawnAct", "()I"⟩
abbrev b_M_drawnAct : ByteArray := prog_13_method_132_code
theorem d_M_drawnAct_0 : decode b_M_drawnAct 0 = .ok (.aload_n 0, 1) := by decide +kernel
theorem d_M_drawnAct_1 : decode b_M_drawnAct 1 = .ok (.aload_n 0, 1) := by decide +kernel
theorem d_M_drawnAct_2 : decode b_M_drawnAct 2 = .ok (.invokevirtual 118, 3) := by decide +kernel
theorem d_M_drawnAct_5 : decode b_M_drawnAct 5 = .ok (.invokevirtual 485, 3) := by decide +kernel
theorem d_M_drawnAct_8 : decode b_M_drawnAct 8 = .ok (.istore_n 1, 1) := by decide +kernel
theorem d_M_drawnAct_9 : decode b_M_drawnAct 9 = .ok (.aload_n 0, 1) := by decide +kernel
theorem d_M_drawnAct_10 : decode b_M_drawnAct 10 = .ok (.aload_n 0, 1) := by decide +kernel
theorem d_M_drawnAct_11 : decode b_M_drawnAct 11 = .ok (.invokevirtual 118, 3) := by decide +kernel
theorem d_M_drawnAct_14 : decode b_M_drawnAct 14 = .ok (.invokevirtual 485, 3) := by decide +kernel
theorem d_M_drawnAct_17 : decode b_M_drawnAct 17 = .ok (.istore_n 2, 1) := by decide +kernel
theorem d_M_drawnAct_18 : decode b_M_drawnAct 18 = .ok (.aload_n 0, 1) := by decide +kernel
theorem d_M_drawnAct_19 : decode b_M_drawnAct 19 = .ok (.bipush 10, 2) := by decide +kernel
theorem d_M_drawnAct_21 : decode b_M_drawnAct 21 = .ok (.invokevirtual 485, 3) := by decide +kernel
theorem d_M_drawnAct_24 : decode b_M_drawnAct 24 = .ok (.istore_n 3, 1) := by decide +kernel
theorem d_M_drawnAct_25 : decode b_M_drawnAct 25 = .ok (.aload_n 0, 1) := by decide +kernel
theorem d_M_drawnAct_26 : decode b_M_drawnAct 26 = .ok (.iconst 4, 1) := by decide +kernel
theorem d_M_drawnAct_27 : decode b_M_drawnAct 27 = .ok (.invokevirtual 485, 3) := by decide +kernel
theorem d_M_drawnAct_30 : decode b_M_drawnAct 30 = .ok (.istore 4, 2) := by decide +kernel
theorem d_M_drawnAct_32 : decode b_M_drawnAct 32 = .ok (.iload 4, 2) := by decide +kernel
theorem d_M_drawnAct_34 : decode b_M_drawnAct 34 = .ok (.ifCond .ne 24, 3) := by decide +kernel
theorem d_M_drawnAct_37 : decode b_M_drawnAct 37 = .ok (.iload_n 1, 1) := by decide +kernel
theorem d_M_drawnAct_38 : decode b_M_drawnAct 38 = .ok (.iload_n 2, 1) := by decide +kernel
theorem d_M_drawnAct_39 : decode b_M_drawnAct 39 = .ok (.if_icmp .eq 19, 3) := by decide +kernel
theorem d_M_drawnAct_42 : decode b_M_drawnAct 42 = .ok (.aload_n 0, 1) := by decide +kernel
theorem d_M_drawnAct_43 : decode b_M_drawnAct 43 = .ok (.iload_n 1, 1) := by decide +kernel
theorem d_M_drawnAct_44 : decode b_M_drawnAct 44 = .ok (.iload_n 2, 1) := by decide +kernel
theorem d_M_drawnAct_45 : decode b_M_drawnAct 45 = .ok (.invokevirtual 134, 3) := by decide +kernel
theorem d_M_drawnAct_48 : decode b_M_drawnAct 48 = .ok (.ifCond .le 10, 3) := by decide +kernel
theorem d_M_drawnAct_51 : decode b_M_drawnAct 51 = .ok (.aload_n 0, 1) := by decide +kernel
theorem d_M_drawnAct_52 : decode b_M_drawnAct 52 = .ok (.iload_n 1, 1) := by decide +kernel
theorem d_M_drawnAct_53 : decode b_M_drawnAct 53 = .ok (.iload_n 2, 1) := by decide +kernel
theorem d_M_drawnAct_54 : decode b_M_drawnAct 54 = .ok (.invokevirtual 351, 3) := by decide +kernel
theorem d_M_drawnAct_57 : decode b_M_drawnAct 57 = .ok (.pop, 1) := by decide +kernel
theorem d_M_drawnAct_58 : decode b_M_drawnAct 58 = .ok (.iload 4, 2) := by decide +kernel
theorem d_M_drawnAct_60 : decode b_M_drawnAct 60 = .ok (.iconst 1, 1) := by decide +kernel
theorem d_M_drawnAct_61 : decode b_M_drawnAct 61 = .ok (.if_icmp .ne 12, 3) := by decide +kernel
theorem d_M_drawnAct_64 : decode b_M_drawnAct 64 = .ok (.aload_n 0, 1) := by decide +kernel
theorem d_M_drawnAct_65 : decode b_M_drawnAct 65 = .ok (.getfield 24, 3) := by decide +kernel
theorem d_M_drawnAct_68 : decode b_M_drawnAct 68 = .ok (.iconst 1, 1) := by decide +kernel
theorem d_M_drawnAct_69 : decode b_M_drawnAct 69 = .ok (.iload_n 1, 1) := by decide +kernel
theorem d_M_drawnAct_70 : decode b_M_drawnAct 70 = .ok (.iadd, 1) := by decide +kernel
theorem d_M_drawnAct_71 : decode b_M_drawnAct 71 = .ok (.iload_n 3, 1) := by decide +kernel
theorem d_M_drawnAct_72 : decode b_M_drawnAct 72 = .ok (.iastore, 1) := by decide +kernel
theorem d_M_drawnAct_73 : decode b_M_drawnAct 73 = .ok (.iload 4, 2) := by decide +kernel
theorem d_M_drawnAct_75 : decode b_M_drawnAct 75 = .ok (.iconst 2, 1) := by decide +kernel
theorem d_M_drawnAct_76 : decode b_M_drawnAct 76 = .ok (.if_icmp .ne 17, 3) := by decide +kernel
theorem d_M_drawnAct_79 : decode b_M_drawnAct 79 = .ok (.aload_n 0, 1) := by decide +kernel
theorem d_M_drawnAct_80 : decode b_M_drawnAct 80 = .ok (.aload_n 0, 1) := by decide +kernel
theorem d_M_drawnAct_81 : decode b_M_drawnAct 81 = .ok (.getfield 24, 3) := by decide +kernel
theorem d_M_drawnAct_84 : decode b_M_drawnAct 84 = .ok (.iconst 0, 1) := by decide +kernel
theorem d_M_drawnAct_85 : decode b_M_drawnAct 85 = .ok (.iaload, 1) := by decide +kernel
theorem d_M_drawnAct_86 : decode b_M_drawnAct 86 = .ok (.iload_n 1, 1) := by decide +kernel
theorem d_M_drawnAct_87 : decode b_M_drawnAct 87 = .ok (.invokevirtual 345, 3) := by decide +kernel
theorem d_M_drawnAct_90 : decode b_M_drawnAct 90 = .ok (.ifCond .ne 5, 3) := by decide +kernel
theorem d_M_drawnAct_93 : decode b_M_drawnAct 93 = .ok (.iconst 0, 1) := by decide +kernel
theorem d_M_drawnAct_94 : decode b_M_drawnAct 94 = .ok (.ireturn, 1) := by decide +kernel
theorem d_M_drawnAct_95 : decode b_M_drawnAct 95 = .ok (.aload_n 0, 1) := by decide +kernel
theorem d_M_drawnAct_96 : decode b_M_drawnAct 96 = .ok (.aload_n 0, 1) := by decide +kernel
theorem d_M_drawnAct_97 : decode b_M_drawnAct 97 = .ok (.getfield 24, 3) := by decide +kernel
theorem d_M_drawnAct_100 : decode b_M_drawnAct 100 = .ok (.iconst 0, 1) := by decide +kernel
theorem d_M_drawnAct_101 : decode b_M_drawnAct 101 = .ok (.iaload, 1) := by decide +kernel
theorem d_M_drawnAct_102 : decode b_M_drawnAct 102 = .ok (.iload_n 1, 1) := by decide +kernel
theorem d_M_drawnAct_103 : decode b_M_drawnAct 103 = .ok (.invokevirtual 144, 3) := by decide +kernel
theorem d_M_drawnAct_106 : decode b_M_drawnAct 106 = .ok (.istore 5, 2) := by decide +kernel
theorem d_M_drawnAct_108 : decode b_M_drawnAct 108 = .ok (.aload_n 0, 1) := by decide +kernel
theorem d_M_drawnAct_109 : decode b_M_drawnAct 109 = .ok (.getfield 24, 3) := by decide +kernel
theorem d_M_drawnAct_112 : decode b_M_drawnAct 112 = .ok (.iconst 0, 1) := by decide +kernel
theorem d_M_drawnAct_113 : decode b_M_drawnAct 113 = .ok (.iload_n 1, 1) := by decide +kernel
theorem d_M_drawnAct_114 : decode b_M_drawnAct 114 = .ok (.iastore, 1) := by decide +kernel
theorem d_M_drawnAct_115 : decode b_M_drawnAct 115 = .ok (.iload 5, 2) := by decide +kernel
theorem d_M_drawnAct_117 : decode b_M_drawnAct 117 = .ok (.ireturn, 1) := by decide +kernel
theorem mf_M_drawnAct : zMF y_M_drawnAct b_M_drawnAct 6 (some .int) 0 := ⟨zGW_in 1953 (by decide +kernel) (by decide +kernel), zGW_in 135 (by decide +kernel) (by decide +kernel), by decide +kernel⟩
theorem in_M_drawnAct : Cond.instanceMethod y_M_drawnAct ∈ zGW := zGW_in 1952 (by decide +kernel) (by decide +kernel)
theorem se_M_drawnAct : Cond.selects y_M_drawnAct.cls y_M_drawnAct y_M_drawnAct ∈ zGW := zGW_in 121 (by decide +kernel) (by decide +kernel)
theorem lk_11_412 : Cond.methodLink (zNm 11) 412 y_M_seaBy ∈ zGW := zGW_in 1859 (by decide +kernel) (by decide +kernel)
theorem lk_11_415 : Cond.methodLink (zNm 11) 415 y_M_laysSea ∈ zGW := zGW_in 1851 (by decide +kernel) (by decide +kernel)
theorem lk_11_418 : Cond.methodLink (zNm 11) 418 y_M_beginsAt ∈ zGW := zGW_in 1879 (by decide +kernel) (by decide +kernel)
theorem lk_11_421 : Cond.methodLink (zNm 11) 421 y_M_canBeNow ∈ zGW := zGW_in 1875 (by decide +kernel) (by decide +kernel)
theorem lk_11_424 : Cond.methodLink (zNm 11) 424 y_M_dayAt ∈ zGW := zGW_in 1895 (by decide +kernel) (by decide +kernel)
theorem lk_11_427 : Cond.methodLink (zNm 11) 427 y_M_mostAlike ∈ zGW := zGW_in 1891 (by decide +kernel) (by decide +kernel)
theorem zc_11_430 : Cond.constantLong (zNm 11) 430 (-1 : Int64) ∈ zGW := zGW_in 1903 (by decide +kernel) (by decide +kernel)
theorem zc_11_432 : Cond.constantLong (zNm 11) 432 (1000000000000 : Int64) ∈ zGW := zGW_in 1904 (by decide +kernel) (by decide +kernel)
theorem zc_11_434 : Cond.constantLong (zNm 11) 434 (10 : Int64) ∈ zGW := zGW_in 1905 (by decide +kernel) (by decide +kernel)
theorem lk_11_448 : Cond.methodLink (zNm 11) 448 y_M_laysOrderSoon ∈ zGW := zGW_in 1930 (by decide +kernel) (by decide +kernel)
theorem zc_11_463 : Cond.constantLong (zNm 11) 463 (1000000 : Int64) ∈ zGW := zGW_in 1941 (by decide +kernel) (by decide +kernel)
theorem lk_11_465 : Cond.methodLink (zNm 11) 465 y_M_small ∈ zGW := zGW_in 1938 (by decide +kernel) (by decide +kernel)
theorem lk_11_469 : Cond.methodLink (zNm 11) 469 y_M_goesAlong ∈ zGW := zGW_in 1926 (by decide +kernel) (by decide +kernel)
theorem lk_11_473 : Cond.methodLink (zNm 11) 473 y_M_obeys ∈ zGW := zGW_in 1934 (by decide +kernel) (by decide +kernel)
theorem lk_11_436 : Cond.methodLink (zNm 11) 436 y_M_laysAside ∈ zGW := zGW_in 1918 (by decide +kernel) (by decide +kernel)
theorem lk_11_442 : Cond.methodLink (zNm 11) 442 y_M_runs ∈ zGW := zGW_in 1922 (by decide +kernel) (by decide +kernel)
theorem lk_11_445 : Cond.methodLink (zNm 11) 445 y_M_takesBack ∈ zGW := zGW_in 1942 (by decide +kernel) (by decide +kernel)
theorem zc_11_476 : Cond.constantLong (zNm 11) 476 (1103 : Int64) ∈ zGW := zGW_in 1958 (by decide +kernel) (by decide +kernel)
theorem zc_11_481 : Cond.constantLong (zNm 11) 481 (12345 : Int64) ∈ zGW := zGW_in 1959 (by decide +kernel) (by decide +kernel)
theorem zc_11_483 : Cond.constantLong (zNm 11) 483 (1000003 : Int64) ∈ zGW := zGW_in 1960 (by decide +kernel) (by decide +kernel)
theorem lk_11_485 : Cond.methodLink (zNm 11) 485 y_M_draws ∈ zGW := zGW_in 1954 (by decide +kernel) (by decide +kernel)
def f_M_laysSea_12 (fu : Nat) (k2 : Int32 → Int32 → zSt → Option zSt) : Nat → Int32 → Int32 → Int32 → zSt → Option zSt
  | 0, _, _, _, _ => none
  | n + 1, a1, a2, a3, S => zb1 (f_M_springMany S) (fun r2 => if r2 ≤ a3 then k2 a1 (a2 + (1 : Int32)) S else zb1 (f_M_pairAt a2 a3) (fun r5 => zb2 (f_M_goesThrough fu a2 a3 S) (fun r7 S8 => if r7 = 0 then zgd (0 ≤ r5 ∧ r5.toNatClampNeg < 81) (f_M_laysSea_12 fu k2 n a1 a2 (a3 + (1 : Int32)) (zwI S8 93 r5.toNatClampNeg (1000000 : Int32))) else zb2 (f_M_takesFor fu a2 a3 S8) (fun r12 S13 => zgd (0 ≤ r5 ∧ r5.toNatClampNeg < 81) (f_M_laysSea_12 fu k2 n a1 a2 (a3 + (1 : Int32)) (zwI S13 93 r5.toNatClampNeg r12))))))
def f_M_laysSea_131 (fu : Nat) (k64 : Int32 → Int32 → zSt → Option zSt) (k108 : Int32 → Int32 → Int32 → zSt → Option zSt) (k119 : Int32 → Int32 → Int32 → Int32 → zSt → Option zSt) : Nat → Int32 → Int32 → Int32 → Int32 → Int32 → zSt → Option zSt
  | 0, _, _, _, _, _, _ => none
  | n + 1, a1, a2, a3, a4, a5, S => zb1 (f_M_springMany S) (fun r2 => if r2 ≤ a5 then k119 a1 a2 a3 (a4 + (1 : Int32)) S else zb1 (f_M_seaAt a2 a4 S) (fun r5 => zb1 (f_M_seaBy a2 a4 a5 S) (fun r7 => zb1 (f_M_lesser r5 r7) (fun r9 => zgd (0 ≤ (((9 : Int32) * a2) + a4) ∧ (((9 : Int32) * a2) + a4).toNatClampNeg < 90) (f_M_laysSea_131 fu k64 k108 k119 n a1 a2 a3 a4 (a5 + (1 : Int32)) (zwI S 94 (((9 : Int32) * a2) + a4).toNatClampNeg r9))))))
def f_M_laysSea_119 (fu : Nat) (k64 : Int32 → Int32 → zSt → Option zSt) (k108 : Int32 → Int32 → Int32 → zSt → Option zSt) : Nat → Int32 → Int32 → Int32 → Int32 → zSt → Option zSt
  | 0, _, _, _, _, _ => none
  | n + 1, a1, a2, a3, a4, S => zb1 (f_M_springMany S) (fun r2 => if r2 ≤ a4 then k108 a1 a2 (a3 + (1 : Int32)) S else f_M_laysSea_131 fu k64 k108 (f_M_laysSea_119 fu k64 k108 n) fu a1 a2 a3 a4 (0 : Int32) S)
def f_M_laysSea_108 (fu : Nat) (k64 : Int32 → Int32 → zSt → Option zSt) : Nat → Int32 → Int32 → Int32 → zSt → Option zSt
  | 0, _, _, _, _ => none
  | n + 1, a1, a2, a3, S => zb1 (f_M_springMany S) (fun r2 => if r2 ≤ a3 then k64 a1 (a2 + (1 : Int32)) S else f_M_laysSea_119 fu k64 (f_M_laysSea_108 fu k64 n) fu a1 a2 a3 (1 : Int32) S)
def f_M_laysSea_71 (fu : Nat) (k64 : Int32 → Int32 → zSt → Option zSt) : Nat → Int32 → Int32 → Int32 → zSt → Option zSt
  | 0, _, _, _, _ => none
  | n + 1, a1, a2, a3, S => zb1 (f_M_springMany S) (fun r2 => if r2 ≤ a3 then f_M_laysSea_108 fu k64 fu a1 a2 (1 : Int32) S else if a3 = 0 then zgd (0 ≤ (((9 : Int32) * a2) + a3) ∧ (((9 : Int32) * a2) + a3).toNatClampNeg < 90) (f_M_laysSea_71 fu k64 n a1 a2 (a3 + (1 : Int32)) (zwI S 94 (((9 : Int32) * a2) + a3).toNatClampNeg (0 : Int32))) else zgd (0 ≤ (((9 : Int32) * a2) + a3) ∧ (((9 : Int32) * a2) + a3).toNatClampNeg < 90) (f_M_laysSea_71 fu k64 n a1 a2 (a3 + (1 : Int32)) (zwI S 94 (((9 : Int32) * a2) + a3).toNatClampNeg (1000000 : Int32))))
def f_M_laysSea_64 (fu : Nat) : Nat → Int32 → Int32 → zSt → Option zSt
  | 0, _, _, _ => none
  | n + 1, a1, a2, S => if a1 < a2 then some S else f_M_laysSea_71 fu (f_M_laysSea_64 fu n) fu a1 a2 (0 : Int32) S
def f_M_laysSea_2 (fu : Nat) : Nat → Int32 → Int32 → zSt → Option zSt
  | 0, _, _, _ => none
  | n + 1, a1, a2, S => zb1 (f_M_springMany S) (fun r2 => if r2 ≤ a2 then f_M_laysSea_64 fu fu a1 (0 : Int32) S else f_M_laysSea_12 fu (f_M_laysSea_2 fu n) fu a1 a2 (0 : Int32) S)
def f_M_laysSea (fu : Nat) (a1 : Int32) (S : zSt) : Option zSt := f_M_laysSea_2 fu fu a1 (0 : Int32) S
set_option maxRecDepth 100000 in
set_option maxHeartbeats 4000000 in
theorem c_M_laysSea_12 {p : Program} {l : Launch} {e : Env} {s : State} {m : MethodId} {args : Array Value} {below : List Frame} {meth : Method} {c : Code} {G : zG} (C : zC p s m args meth c G b_M_laysSea 6 y_M_laysSea.cls) (hret : meth.sig.returnType = none) {fu : Nat} {S1 : zSt} {k2 : Int32 → Int32 → zSt → Option zSt} (hk2 : ∀ (a1 : Int32) (a2 : Int32) (S : zSt) , k2 a1 a2 S = some S1 → zJ p l e rm_M_laysSea s m args below meth c G true 6 0 0 (zQm below G args s rm_M_laysSea true none S1) S 2 [(0, zr (some 72)), (1, zi a1), (2, zi a2)] []) : ∀ (n : Nat) (a1 : Int32) (a2 : Int32) (a3 : Int32) (S : zSt) , f_M_laysSea_12 fu k2 n a1 a2 a3 S = some S1 → zJ p l e rm_M_laysSea s m args below meth c G true 6 0 0 (zQm below G args s rm_M_laysSea true none S1) S 12 [(0, zr (some 72)), (1, zi a1), (2, zi a2), (3, zi a3)] [] := by
  intro n
  induction n with
  | zero =>
    intro a1 a2 a3 S h
    cases h
  | succ n ih =>
    intro a1 a2 a3 S h
    rw [f_M_laysSea_12] at h
    refine z_iload_n C 3 rfl d_M_laysSea_12 rfl ?_
    refine z_aload_n C 0 rfl d_M_laysSea_13 rfl ?_
    obtain ⟨r2, h1, h⟩ := zb1_some h
    refine z_cV C 11 (by decide) (m_M_springMany l h1) mf_M_springMany lk_11_118 in_M_springMany se_M_springMany rfl zo_72 zk_72 ⟨rfl, rfl⟩ ⟨by decide, by decide⟩ ⟨Nat.zero_le _, Nat.zero_le _⟩ rfl _ [zi a3] rfl (Nat.le_of_ble_eq_true rfl) d_M_laysSea_14 ?_
    rcases zite h with ⟨c3, h⟩ | ⟨c3, h⟩
    · refine z_icmp_get C 56 c3 d_M_laysSea_17 (by decide) ?_
      refine z_iinc C 2 (a2 + (1 : Int32)) [(2, zi (a2 + (1 : Int32))), (0, zr (some 72)), (1, zi a1), (3, zi a3)] rfl d_M_laysSea_56 (by first | rfl | decide) (by decide) rfl ?_
      refine z_goto C 2 d_M_laysSea_59 (by decide) ?_
      refine zq_lsub [1, 2, 0] [(0, zr (some 72)), (1, zi a1), (2, zi (a2 + (1 : Int32)))] rfl ?_
      exact hk2 a1 (a2 + (1 : Int32)) S h
    · refine z_icmp_gef C 56 c3 d_M_laysSea_17 (by decide) ?_
      refine z_aload_n C 0 rfl d_M_laysSea_20 rfl ?_
      refine z_getF2 C 11 (by decide) 38 (by decide) rfl 21 81 rfl (93) rfl zp_72 zk_72 zfl_11_86 d_M_laysSea_21 ?_
      refine z_iload_n C 2 rfl d_M_laysSea_24 rfl ?_
      refine z_iload_n C 3 rfl d_M_laysSea_25 rfl ?_
      obtain ⟨r5, h4, h⟩ := zb1_some h
      refine z_cS C (m_M_pairAt l h4) mf_M_pairAt lk_11_126 st_M_pairAt ⟨rfl, rfl⟩ ⟨by decide, by decide⟩ ⟨Nat.zero_le _, Nat.zero_le _⟩ rfl _ [zr (some 93)] rfl (Nat.le_of_ble_eq_true rfl) d_M_laysSea_26 ?_
      refine z_aload_n C 0 rfl d_M_laysSea_29 rfl ?_
      refine z_iload_n C 2 rfl d_M_laysSea_30 rfl ?_
      refine z_iload_n C 3 rfl d_M_laysSea_31 rfl ?_
      obtain ⟨r7, S8, h6, h⟩ := zb2_some h
      refine z_cV C 11 (by decide) (m_M_goesThrough l h6) mf_M_goesThrough lk_11_335 in_M_goesThrough se_M_goesThrough rfl zo_72 zk_72 ⟨rfl, rfl⟩ ⟨by decide, by decide⟩ ⟨Nat.zero_le _, Nat.zero_le _⟩ rfl _ [zi r5, zr (some 93)] rfl (Nat.le_of_ble_eq_true rfl) d_M_laysSea_32 ?_
      rcases zite h with ⟨c9, h⟩ | ⟨c9, h⟩
      · refine z_if_eqt C 47 c9 d_M_laysSea_35 (by decide) ?_
        refine z_ldc C zc_11_177 d_M_laysSea_47 ?_
        refine z_fact (fun hSR => ?_)
        obtain ⟨g10, h⟩ := zgd_some h
        refine z_iastoreS C zo_93 zk_93 (za_93 hSR) g10 d_M_laysSea_49 ?_
        refine z_iinc C 3 (a3 + (1 : Int32)) [(3, zi (a3 + (1 : Int32))), (0, zr (some 72)), (1, zi a1), (2, zi a2)] rfl d_M_laysSea_50 (by first | rfl | decide) (by decide) rfl ?_
        refine z_goto C 12 d_M_laysSea_53 (by decide) ?_
        refine zq_lsub [1, 2, 3, 0] [(0, zr (some 72)), (1, zi a1), (2, zi a2), (3, zi (a3 + (1 : Int32)))] rfl ?_
        exact ih a1 a2 (a3 + (1 : Int32)) (zwI S8 93 r5.toNatClampNeg (1000000 : Int32)) h
      · refine z_if_eqf C 47 c9 d_M_laysSea_35 (by decide) ?_
        refine z_aload_n C 0 rfl d_M_laysSea_38 rfl ?_
        refine z_iload_n C 2 rfl d_M_laysSea_39 rfl ?_
        refine z_iload_n C 3 rfl d_M_laysSea_40 rfl ?_
        obtain ⟨r12, S13, h11, h⟩ := zb2_some h
        refine z_cV C 11 (by decide) (m_M_takesFor l h11) mf_M_takesFor lk_11_144 in_M_takesFor se_M_takesFor rfl zo_72 zk_72 ⟨rfl, rfl⟩ ⟨by decide, by decide⟩ ⟨Nat.zero_le _, Nat.zero_le _⟩ rfl _ [zi r5, zr (some 93)] rfl (Nat.le_of_ble_eq_true rfl) d_M_laysSea_41 ?_
        refine z_goto C 49 d_M_laysSea_44 (by decide) ?_
        refine z_fact (fun hSR => ?_)
        obtain ⟨g14, h⟩ := zgd_some h
        refine z_iastoreS C zo_93 zk_93 (za_93 hSR) g14 d_M_laysSea_49 ?_
        refine z_iinc C 3 (a3 + (1 : Int32)) [(3, zi (a3 + (1 : Int32))), (0, zr (some 72)), (1, zi a1), (2, zi a2)] rfl d_M_laysSea_50 (by first | rfl | decide) (by decide) rfl ?_
        refine z_goto C 12 d_M_laysSea_53 (by decide) ?_
        refine zq_lsub [1, 2, 3, 0] [(0, zr (some 72)), (1, zi a1), (2, zi a2), (3, zi (a3 + (1 : Int32)))] rfl ?_
        exact ih a1 a2 (a3 + (1 : Int32)) (zwI S13 93 r5.toNatClampNeg r12) h
set_option maxRecDepth 100000 in
set_option maxHeartbeats 4000000 in
theorem c_M_laysSea_131 {p : Program} {l : Launch} {e : Env} {s : State} {m : MethodId} {args : Array Value} {below : List Frame} {meth : Method} {c : Code} {G : zG} (C : zC p s m args meth c G b_M_laysSea 6 y_M_laysSea.cls) (hret : meth.sig.returnType = none) {fu : Nat} {S1 : zSt} {k64 : Int32 → Int32 → zSt → Option zSt} (hk64 : ∀ (a1 : Int32) (a2 : Int32) (S : zSt) , k64 a1 a2 S = some S1 → zJ p l e rm_M_laysSea s m args below meth c G true 6 0 0 (zQm below G args s rm_M_laysSea true none S1) S 64 [(0, zr (some 72)), (1, zi a1), (2, zi a2)] []) {k108 : Int32 → Int32 → Int32 → zSt → Option zSt} (hk108 : ∀ (a1 : Int32) (a2 : Int32) (a3 : Int32) (S : zSt) , k108 a1 a2 a3 S = some S1 → zJ p l e rm_M_laysSea s m args below meth c G true 6 0 0 (zQm below G args s rm_M_laysSea true none S1) S 108 [(0, zr (some 72)), (1, zi a1), (2, zi a2), (3, zi a3)] []) {k119 : Int32 → Int32 → Int32 → Int32 → zSt → Option zSt} (hk119 : ∀ (a1 : Int32) (a2 : Int32) (a3 : Int32) (a4 : Int32) (S : zSt) , k119 a1 a2 a3 a4 S = some S1 → zJ p l e rm_M_laysSea s m args below meth c G true 6 0 0 (zQm below G args s rm_M_laysSea true none S1) S 119 [(0, zr (some 72)), (1, zi a1), (2, zi a2), (3, zi a3), (4, zi a4)] []) : ∀ (n : Nat) (a1 : Int32) (a2 : Int32) (a3 : Int32) (a4 : Int32) (a5 : Int32) (S : zSt) , f_M_laysSea_131 fu k64 k108 k119 n a1 a2 a3 a4 a5 S = some S1 → zJ p l e rm_M_laysSea s m args below meth c G true 6 0 0 (zQm below G args s rm_M_laysSea true none S1) S 131 [(0, zr (some 72)), (1, zi a1), (2, zi a2), (3, zi a3), (4, zi a4), (5, zi a5)] [] := by
  intro n
  induction n with
  | zero =>
    intro a1 a2 a3 a4 a5 S h
    cases h
  | succ n ih =>
    intro a1 a2 a3 a4 a5 S h
    rw [f_M_laysSea_131] at h
    refine z_iload C 5 rfl d_M_laysSea_131 ?_
    refine z_aload_n C 0 rfl d_M_laysSea_133 rfl ?_
    obtain ⟨r2, h1, h⟩ := zb1_some h
    refine z_cV C 11 (by decide) (m_M_springMany l h1) mf_M_springMany lk_11_118 in_M_springMany se_M_springMany rfl zo_72 zk_72 ⟨rfl, rfl⟩ ⟨by decide, by decide⟩ ⟨Nat.zero_le _, Nat.zero_le _⟩ rfl _ [zi a5] rfl (Nat.le_of_ble_eq_true rfl) d_M_laysSea_134 ?_
    rcases zite h with ⟨c3, h⟩ | ⟨c3, h⟩
    · refine z_icmp_get C 177 c3 d_M_laysSea_137 (by decide) ?_
      refine z_iinc C 4 (a4 + (1 : Int32)) [(4, zi (a4 + (1 : Int32))), (0, zr (some 72)), (1, zi a1), (2, zi a2), (3, zi a3), (5, zi a5)] rfl d_M_laysSea_177 (by first | rfl | decide) (by decide) rfl ?_
      refine z_goto C 119 d_M_laysSea_180 (by decide) ?_
      refine zq_lsub [1, 2, 3, 4, 0] [(0, zr (some 72)), (1, zi a1), (2, zi a2), (3, zi a3), (4, zi (a4 + (1 : Int32)))] rfl ?_
      exact hk119 a1 a2 a3 (a4 + (1 : Int32)) S h
    · refine z_icmp_gef C 177 c3 d_M_laysSea_137 (by decide) ?_
      refine z_aload_n C 0 rfl d_M_laysSea_140 rfl ?_
      refine z_getF2 C 11 (by decide) 39 (by decide) rfl 22 90 rfl (94) rfl zp_72 zk_72 zfl_11_89 d_M_laysSea_141 ?_
      refine z_bipush C (9 : Int32) (by decide) d_M_laysSea_144 ?_
      refine z_iload_n C 2 rfl d_M_laysSea_146 rfl ?_
      refine z_imul C d_M_laysSea_147 ?_
      refine z_iload C 4 rfl d_M_laysSea_148 ?_
      refine z_iadd C d_M_laysSea_150 ?_
      refine z_aload_n C 0 rfl d_M_laysSea_151 rfl ?_
      refine z_iload_n C 2 rfl d_M_laysSea_152 rfl ?_
      refine z_iload C 4 rfl d_M_laysSea_153 ?_
      obtain ⟨r5, h4, h⟩ := zb1_some h
      refine z_cV C 11 (by decide) (m_M_seaAt l h4) mf_M_seaAt lk_11_409 in_M_seaAt se_M_seaAt rfl zo_72 zk_72 ⟨rfl, rfl⟩ ⟨by decide, by decide⟩ ⟨Nat.zero_le _, Nat.zero_le _⟩ rfl _ [zi (((9 : Int32) * a2) + a4), zr (some 94)] rfl (Nat.le_of_ble_eq_true rfl) d_M_laysSea_155 ?_
      refine z_aload_n C 0 rfl d_M_laysSea_158 rfl ?_
      refine z_iload_n C 2 rfl d_M_laysSea_159 rfl ?_
      refine z_iload C 4 rfl d_M_laysSea_160 ?_
      refine z_iload C 5 rfl d_M_laysSea_162 ?_
      obtain ⟨r7, h6, h⟩ := zb1_some h
      refine z_cV C 11 (by decide) (m_M_seaBy l h6) mf_M_seaBy lk_11_412 in_M_seaBy se_M_seaBy rfl zo_72 zk_72 ⟨rfl, rfl⟩ ⟨by decide, by decide⟩ ⟨Nat.zero_le _, Nat.zero_le _⟩ rfl _ [zi r5, zi (((9 : Int32) * a2) + a4), zr (some 94)] rfl (Nat.le_of_ble_eq_true rfl) d_M_laysSea_164 ?_
      obtain ⟨r9, h8, h⟩ := zb1_some h
      refine z_cS C (m_M_lesser l h8) mf_M_lesser lk_11_372 st_M_lesser ⟨rfl, rfl⟩ ⟨by decide, by decide⟩ ⟨Nat.zero_le _, Nat.zero_le _⟩ rfl _ [zi (((9 : Int32) * a2) + a4), zr (some 94)] rfl (Nat.le_of_ble_eq_true rfl) d_M_laysSea_167 ?_
      refine z_fact (fun hSR => ?_)
      obtain ⟨g10, h⟩ := zgd_some h
      refine z_iastoreS C zo_94 zk_94 (za_94 hSR) g10 d_M_laysSea_170 ?_
      refine z_iinc C 5 (a5 + (1 : Int32)) [(5, zi (a5 + (1 : Int32))), (0, zr (some 72)), (1, zi a1), (2, zi a2), (3, zi a3), (4, zi a4)] rfl d_M_laysSea_171 (by first | rfl | decide) (by decide) rfl ?_
      refine z_goto C 131 d_M_laysSea_174 (by decide) ?_
      refine zq_lsub [1, 2, 3, 4, 5, 0] [(0, zr (some 72)), (1, zi a1), (2, zi a2), (3, zi a3), (4, zi a4), (5, zi (a5 + (1 : Int32)))] rfl ?_
      exact ih a1 a2 a3 a4 (a5 + (1 : Int32)) (zwI S 94 (((9 : Int32) * a2) + a4).toNatClampNeg r9) h
set_option maxRecDepth 100000 in
set_option maxHeartbeats 4000000 in
theorem c_M_laysSea_119 {p : Program} {l : Launch} {e : Env} {s : State} {m : MethodId} {args : Array Value} {below : List Frame} {meth : Method} {c : Code} {G : zG} (C : zC p s m args meth c G b_M_laysSea 6 y_M_laysSea.cls) (hret : meth.sig.returnType = none) {fu : Nat} {S1 : zSt} {k64 : Int32 → Int32 → zSt → Option zSt} (hk64 : ∀ (a1 : Int32) (a2 : Int32) (S : zSt) , k64 a1 a2 S = some S1 → zJ p l e rm_M_laysSea s m args below meth c G true 6 0 0 (zQm below G args s rm_M_laysSea true none S1) S 64 [(0, zr (some 72)), (1, zi a1), (2, zi a2)] []) {k108 : Int32 → Int32 → Int32 → zSt → Option zSt} (hk108 : ∀ (a1 : Int32) (a2 : Int32) (a3 : Int32) (S : zSt) , k108 a1 a2 a3 S = some S1 → zJ p l e rm_M_laysSea s m args below meth c G true 6 0 0 (zQm below G args s rm_M_laysSea true none S1) S 108 [(0, zr (some 72)), (1, zi a1), (2, zi a2), (3, zi a3)] []) : ∀ (n : Nat) (a1 : Int32) (a2 : Int32) (a3 : Int32) (a4 : Int32) (S : zSt) , f_M_laysSea_119 fu k64 k108 n a1 a2 a3 a4 S = some S1 → zJ p l e rm_M_laysSea s m args below meth c G true 6 0 0 (zQm below G args s rm_M_laysSea true none S1) S 119 [(0, zr (some 72)), (1, zi a1), (2, zi a2), (3, zi a3), (4, zi a4)] [] := by
  intro n
  induction n with
  | zero =>
    intro a1 a2 a3 a4 S h
    cases h
  | succ n ih =>
    intro a1 a2 a3 a4 S h
    rw [f_M_laysSea_119] at h
    refine z_iload C 4 rfl d_M_laysSea_119 ?_
    refine z_aload_n C 0 rfl d_M_laysSea_121 rfl ?_
    obtain ⟨r2, h1, h⟩ := zb1_some h
    refine z_cV C 11 (by decide) (m_M_springMany l h1) mf_M_springMany lk_11_118 in_M_springMany se_M_springMany rfl zo_72 zk_72 ⟨rfl, rfl⟩ ⟨by decide, by decide⟩ ⟨Nat.zero_le _, Nat.zero_le _⟩ rfl _ [zi a4] rfl (Nat.le_of_ble_eq_true rfl) d_M_laysSea_122 ?_
    rcases zite h with ⟨c3, h⟩ | ⟨c3, h⟩
    · refine z_icmp_get C 183 c3 d_M_laysSea_125 (by decide) ?_
      refine z_iinc C 3 (a3 + (1 : Int32)) [(3, zi (a3 + (1 : Int32))), (0, zr (some 72)), (1, zi a1), (2, zi a2), (4, zi a4)] rfl d_M_laysSea_183 (by first | rfl | decide) (by decide) rfl ?_
      refine z_goto C 108 d_M_laysSea_186 (by decide) ?_
      refine zq_lsub [1, 2, 3, 0] [(0, zr (some 72)), (1, zi a1), (2, zi a2), (3, zi (a3 + (1 : Int32)))] rfl ?_
      exact hk108 a1 a2 (a3 + (1 : Int32)) S h
    · refine z_icmp_gef C 183 c3 d_M_laysSea_125 (by decide) ?_
      refine z_iconst C (0 : Int32) (by decide) d_M_laysSea_128 ?_
      refine z_istore C [(5, zi (0 : Int32)), (0, zr (some 72)), (1, zi a1), (2, zi a2), (3, zi a3), (4, zi a4)] d_M_laysSea_129 (by decide) rfl ?_
      refine zq_lsub [1, 2, 3, 4, 5, 0] [(0, zr (some 72)), (1, zi a1), (2, zi a2), (3, zi a3), (4, zi a4), (5, zi (0 : Int32))] rfl ?_
      exact c_M_laysSea_131 C hret hk64 hk108 (fun z0 z1 z2 z3 zS zh => ih z0 z1 z2 z3 zS zh) fu  a1 a2 a3 a4 (0 : Int32) S h
set_option maxRecDepth 100000 in
set_option maxHeartbeats 4000000 in
theorem c_M_laysSea_108 {p : Program} {l : Launch} {e : Env} {s : State} {m : MethodId} {args : Array Value} {below : List Frame} {meth : Method} {c : Code} {G : zG} (C : zC p s m args meth c G b_M_laysSea 6 y_M_laysSea.cls) (hret : meth.sig.returnType = none) {fu : Nat} {S1 : zSt} {k64 : Int32 → Int32 → zSt → Option zSt} (hk64 : ∀ (a1 : Int32) (a2 : Int32) (S : zSt) , k64 a1 a2 S = some S1 → zJ p l e rm_M_laysSea s m args below meth c G true 6 0 0 (zQm below G args s rm_M_laysSea true none S1) S 64 [(0, zr (some 72)), (1, zi a1), (2, zi a2)] []) : ∀ (n : Nat) (a1 : Int32) (a2 : Int32) (a3 : Int32) (S : zSt) , f_M_laysSea_108 fu k64 n a1 a2 a3 S = some S1 → zJ p l e rm_M_laysSea s m args below meth c G true 6 0 0 (zQm below G args s rm_M_laysSea true none S1) S 108 [(0, zr (some 72)), (1, zi a1), (2, zi a2), (3, zi a3)] [] := by
  intro n
  induction n with
  | zero =>
    intro a1 a2 a3 S h
    cases h
  | succ n ih =>
    intro a1 a2 a3 S h
    rw [f_M_laysSea_108] at h
    refine z_iload_n C 3 rfl d_M_laysSea_108 rfl ?_
    refine z_aload_n C 0 rfl d_M_laysSea_109 rfl ?_
    obtain ⟨r2, h1, h⟩ := zb1_some h
    refine z_cV C 11 (by decide) (m_M_springMany l h1) mf_M_springMany lk_11_118 in_M_springMany se_M_springMany rfl zo_72 zk_72 ⟨rfl, rfl⟩ ⟨by decide, by decide⟩ ⟨Nat.zero_le _, Nat.zero_le _⟩ rfl _ [zi a3] rfl (Nat.le_of_ble_eq_true rfl) d_M_laysSea_110 ?_
    rcases zite h with ⟨c3, h⟩ | ⟨c3, h⟩
    · refine z_icmp_get C 189 c3 d_M_laysSea_113 (by decide) ?_
      refine z_iinc C 2 (a2 + (1 : Int32)) [(2, zi (a2 + (1 : Int32))), (0, zr (some 72)), (1, zi a1), (3, zi a3)] rfl d_M_laysSea_189 (by first | rfl | decide) (by decide) rfl ?_
      refine z_goto C 64 d_M_laysSea_192 (by decide) ?_
      refine zq_lsub [1, 2, 0] [(0, zr (some 72)), (1, zi a1), (2, zi (a2 + (1 : Int32)))] rfl ?_
      exact hk64 a1 (a2 + (1 : Int32)) S h
    · refine z_icmp_gef C 189 c3 d_M_laysSea_113 (by decide) ?_
      refine z_iconst C (1 : Int32) (by decide) d_M_laysSea_116 ?_
      refine z_istore C [(4, zi (1 : Int32)), (0, zr (some 72)), (1, zi a1), (2, zi a2), (3, zi a3)] d_M_laysSea_117 (by decide) rfl ?_
      refine zq_lsub [1, 2, 3, 4, 0] [(0, zr (some 72)), (1, zi a1), (2, zi a2), (3, zi a3), (4, zi (1 : Int32))] rfl ?_
      exact c_M_laysSea_119 C hret hk64 (fun z0 z1 z2 zS zh => ih z0 z1 z2 zS zh) fu  a1 a2 a3 (1 : Int32) S h
set_option maxRecDepth 100000 in
set_option maxHeartbeats 4000000 in
theorem c_M_laysSea_71 {p : Program} {l : Launch} {e : Env} {s : State} {m : MethodId} {args : Array Value} {below : List Frame} {meth : Method} {c : Code} {G : zG} (C : zC p s m args meth c G b_M_laysSea 6 y_M_laysSea.cls) (hret : meth.sig.returnType = none) {fu : Nat} {S1 : zSt} {k64 : Int32 → Int32 → zSt → Option zSt} (hk64 : ∀ (a1 : Int32) (a2 : Int32) (S : zSt) , k64 a1 a2 S = some S1 → zJ p l e rm_M_laysSea s m args below meth c G true 6 0 0 (zQm below G args s rm_M_laysSea true none S1) S 64 [(0, zr (some 72)), (1, zi a1), (2, zi a2)] []) : ∀ (n : Nat) (a1 : Int32) (a2 : Int32) (a3 : Int32) (S : zSt) , f_M_laysSea_71 fu k64 n a1 a2 a3 S = some S1 → zJ p l e rm_M_laysSea s m args below meth c G true 6 0 0 (zQm below G args s rm_M_laysSea true none S1) S 71 [(0, zr (some 72)), (1, zi a1), (2, zi a2), (3, zi a3)] [] := by
  intro n
  induction n with
  | zero =>
    intro a1 a2 a3 S h
    cases h
  | succ n ih =>
    intro a1 a2 a3 S h
    rw [f_M_laysSea_71] at h
    refine z_iload_n C 3 rfl d_M_laysSea_71 rfl ?_
    refine z_aload_n C 0 rfl d_M_laysSea_72 rfl ?_
    obtain ⟨r2, h1, h⟩ := zb1_some h
    refine z_cV C 11 (by decide) (m_M_springMany l h1) mf_M_springMany lk_11_118 in_M_springMany se_M_springMany rfl zo_72 zk_72 ⟨rfl, rfl⟩ ⟨by decide, by decide⟩ ⟨Nat.zero_le _, Nat.zero_le _⟩ rfl _ [zi a3] rfl (Nat.le_of_ble_eq_true rfl) d_M_laysSea_73 ?_
    rcases zite h with ⟨c3, h⟩ | ⟨c3, h⟩
    · refine z_icmp_get C 106 c3 d_M_laysSea_76 (by decide) ?_
      refine z_iconst C (1 : Int32) (by decide) d_M_laysSea_106 ?_
      refine z_istore_n C [(3, zi (1 : Int32)), (0, zr (some 72)), (1, zi a1), (2, zi a2)] d_M_laysSea_107 rfl (by decide) rfl ?_
      refine zq_lsub [1, 2, 3, 0] [(0, zr (some 72)), (1, zi a1), (2, zi a2), (3, zi (1 : Int32))] rfl ?_
      exact c_M_laysSea_108 C hret hk64 fu  a1 a2 (1 : Int32) S h
    · refine z_icmp_gef C 106 c3 d_M_laysSea_76 (by decide) ?_
      refine z_aload_n C 0 rfl d_M_laysSea_79 rfl ?_
      refine z_getF2 C 11 (by decide) 39 (by decide) rfl 22 90 rfl (94) rfl zp_72 zk_72 zfl_11_89 d_M_laysSea_80 ?_
      refine z_bipush C (9 : Int32) (by decide) d_M_laysSea_83 ?_
      refine z_iload_n C 2 rfl d_M_laysSea_85 rfl ?_
      refine z_imul C d_M_laysSea_86 ?_
      refine z_iload_n C 3 rfl d_M_laysSea_87 rfl ?_
      refine z_iadd C d_M_laysSea_88 ?_
      refine z_iload_n C 3 rfl d_M_laysSea_89 rfl ?_
      rcases zite h with ⟨c4, h⟩ | ⟨c4, h⟩
      · refine z_if_nef C 97 c4 d_M_laysSea_90 (by decide) ?_
        refine z_iconst C (0 : Int32) (by decide) d_M_laysSea_93 ?_
        refine z_goto C 99 d_M_laysSea_94 (by decide) ?_
        refine z_fact (fun hSR => ?_)
        obtain ⟨g6, h⟩ := zgd_some h
        refine z_iastoreS C zo_94 zk_94 (za_94 hSR) g6 d_M_laysSea_99 ?_
        refine z_iinc C 3 (a3 + (1 : Int32)) [(3, zi (a3 + (1 : Int32))), (0, zr (some 72)), (1, zi a1), (2, zi a2)] rfl d_M_laysSea_100 (by first | rfl | decide) (by decide) rfl ?_
        refine z_goto C 71 d_M_laysSea_103 (by decide) ?_
        refine zq_lsub [1, 2, 3, 0] [(0, zr (some 72)), (1, zi a1), (2, zi a2), (3, zi (a3 + (1 : Int32)))] rfl ?_
        exact ih a1 a2 (a3 + (1 : Int32)) (zwI S 94 (((9 : Int32) * a2) + a3).toNatClampNeg (0 : Int32)) h
      · refine z_if_net C 97 c4 d_M_laysSea_90 (by decide) ?_
        refine z_ldc C zc_11_177 d_M_laysSea_97 ?_
        refine z_fact (fun hSR => ?_)
        obtain ⟨g5, h⟩ := zgd_some h
        refine z_iastoreS C zo_94 zk_94 (za_94 hSR) g5 d_M_laysSea_99 ?_
        refine z_iinc C 3 (a3 + (1 : Int32)) [(3, zi (a3 + (1 : Int32))), (0, zr (some 72)), (1, zi a1), (2, zi a2)] rfl d_M_laysSea_100 (by first | rfl | decide) (by decide) rfl ?_
        refine z_goto C 71 d_M_laysSea_103 (by decide) ?_
        refine zq_lsub [1, 2, 3, 0] [(0, zr (some 72)), (1, zi a1), (2, zi a2), (3, zi (a3 + (1 : Int32)))] rfl ?_
        exact ih a1 a2 (a3 + (1 : Int32)) (zwI S 94 (((9 : Int32) * a2) + a3).toNatClampNeg (1000000 : Int32)) h
set_option maxRecDepth 100000 in
set_option maxHeartbeats 4000000 in
theorem c_M_laysSea_64 {p : Program} {l : Launch} {e : Env} {s : State} {m : MethodId} {args : Array Value} {below : List Frame} {meth : Method} {c : Code} {G : zG} (C : zC p s m args meth c G b_M_laysSea 6 y_M_laysSea.cls) (hret : meth.sig.returnType = none) {fu : Nat} {S1 : zSt} : ∀ (n : Nat) (a1 : Int32) (a2 : Int32) (S : zSt) , f_M_laysSea_64 fu n a1 a2 S = some S1 → zJ p l e rm_M_laysSea s m args below meth c G true 6 0 0 (zQm below G args s rm_M_laysSea true none S1) S 64 [(0, zr (some 72)), (1, zi a1), (2, zi a2)] [] := by
  intro n
  induction n with
  | zero =>
    intro a1 a2 S h
    cases h
  | succ n ih =>
    intro a1 a2 S h
    rw [f_M_laysSea_64] at h
    refine z_iload_n C 2 rfl d_M_laysSea_64 rfl ?_
    refine z_iload_n C 1 rfl d_M_laysSea_65 rfl ?_
    rcases zite h with ⟨c1, h⟩ | ⟨c1, h⟩
    · refine z_icmp_gtt C 195 c1 d_M_laysSea_66 (by decide) ?_
      cases h
      exact z_vret C hret ⟨Nat.zero_le _, Nat.zero_le _⟩ d_M_laysSea_195
    · refine z_icmp_gtf C 195 c1 d_M_laysSea_66 (by decide) ?_
      refine z_iconst C (0 : Int32) (by decide) d_M_laysSea_69 ?_
      refine z_istore_n C [(3, zi (0 : Int32)), (0, zr (some 72)), (1, zi a1), (2, zi a2)] d_M_laysSea_70 rfl (by decide) rfl ?_
      refine zq_lsub [1, 2, 3, 0] [(0, zr (some 72)), (1, zi a1), (2, zi a2), (3, zi (0 : Int32))] rfl ?_
      exact c_M_laysSea_71 C hret (fun z0 z1 zS zh => ih z0 z1 zS zh) fu  a1 a2 (0 : Int32) S h
set_option maxRecDepth 100000 in
set_option maxHeartbeats 4000000 in
theorem c_M_laysSea_2 {p : Program} {l : Launch} {e : Env} {s : State} {m : MethodId} {args : Array Value} {below : List Frame} {meth : Method} {c : Code} {G : zG} (C : zC p s m args meth c G b_M_laysSea 6 y_M_laysSea.cls) (hret : meth.sig.returnType = none) {fu : Nat} {S1 : zSt} : ∀ (n : Nat) (a1 : Int32) (a2 : Int32) (S : zSt) , f_M_laysSea_2 fu n a1 a2 S = some S1 → zJ p l e rm_M_laysSea s m args below meth c G true 6 0 0 (zQm below G args s rm_M_laysSea true none S1) S 2 [(0, zr (some 72)), (1, zi a1), (2, zi a2)] [] := by
  intro n
  induction n with
  | zero =>
    intro a1 a2 S h
    cases h
  | succ n ih =>
    intro a1 a2 S h
    rw [f_M_laysSea_2] at h
    refine z_iload_n C 2 rfl d_M_laysSea_2 rfl ?_
    refine z_aload_n C 0 rfl d_M_laysSea_3 rfl ?_
    obtain ⟨r2, h1, h⟩ := zb1_some h
    refine z_cV C 11 (by decide) (m_M_springMany l h1) mf_M_springMany lk_11_118 in_M_springMany se_M_springMany rfl zo_72 zk_72 ⟨rfl, rfl⟩ ⟨by decide, by decide⟩ ⟨Nat.zero_le _, Nat.zero_le _⟩ rfl _ [zi a2] rfl (Nat.le_of_ble_eq_true rfl) d_M_laysSea_4 ?_
    rcases zite h with ⟨c3, h⟩ | ⟨c3, h⟩
    · refine z_icmp_get C 62 c3 d_M_laysSea_7 (by decide) ?_
      refine z_iconst C (0 : Int32) (by decide) d_M_laysSea_62 ?_
      refine z_istore_n C [(2, zi (0 : Int32)), (0, zr (some 72)), (1, zi a1)] d_M_laysSea_63 rfl (by decide) rfl ?_
      refine zq_lsub [1, 2, 0] [(0, zr (some 72)), (1, zi a1), (2, zi (0 : Int32))] rfl ?_
      exact c_M_laysSea_64 C hret fu  a1 (0 : Int32) S h
    · refine z_icmp_gef C 62 c3 d_M_laysSea_7 (by decide) ?_
      refine z_iconst C (0 : Int32) (by decide) d_M_laysSea_10 ?_
      refine z_istore_n C [(3, zi (0 : Int32)), (0, zr (some 72)), (1, zi a1), (2, zi a2)] d_M_laysSea_11 rfl (by decide) rfl ?_
      refine zq_lsub [1, 2, 3, 0] [(0, zr (some 72)), (1, zi a1), (2, zi a2), (3, zi (0 : Int32))] rfl ?_
      exact c_M_laysSea_12 C hret (fun z0 z1 zS zh => ih z0 z1 zS zh) fu  a1 a2 (0 : Int32) S h
set_option maxRecDepth 100000 in
set_option maxHeartbeats 4000000 in
theorem m_M_laysSea (l : Launch) {fu : Nat} {a1 : Int32} {S : zSt} {S1 : zSt} (h : f_M_laysSea fu a1 S = some S1) : zPM l y_M_laysSea b_M_laysSea 6 none rm_M_laysSea true true [zr (some 72), zi a1] S none S1 := by
  refine zPM_of (by decide) (Nat.le_of_ble_eq_true rfl) (fun p e s m args below meth c G C hret hname => ?_)
  unfold f_M_laysSea at h
  refine (?_ : zJ p l e rm_M_laysSea s m args below meth c G true 6 0 0 (zQm below G args s rm_M_laysSea true none S1) S 0 [(0, zr (some 72)), (1, zi a1)] [])
  refine z_iconst C (0 : Int32) (by decide) d_M_laysSea_0 ?_
  refine z_istore_n C [(2, zi (0 : Int32)), (0, zr (some 72)), (1, zi a1)] d_M_laysSea_1 rfl (by decide) rfl ?_
  refine zq_lsub [1, 2, 0] [(0, zr (some 72)), (1, zi a1), (2, zi (0 : Int32))] rfl ?_
  exact c_M_laysSea_2 C hret fu  a1 (0 : Int32) S h
def f_M_sea_56 (fu : Nat) (a3 : Int32) (a4 : Int32) (S : zSt) : Option (Int32 × zSt) := zb1 (f_M_seaAt a4 a3 S) (fun r2 => if r2 < (1000000 : Int32) then zb1 (f_M_seaAt a4 a3 S) (fun r5 => some (r5, S)) else some ((-1 : Int32), S))
def f_M_sea_123 (fu : Nat) (k83 : Int32 → Int32 → Int32 → Int32 → zSt → Option (Int32 × zSt)) (a2 : Int32) (a3 : Int32) (a4 : Int32) (a5 : Int32) (a6 : Int32) (S : zSt) : Option (Int32 × zSt) := zb1 (f_M_isShut a3 a6 S) (fun r2 => if r2 = 0 then k83 a2 a6 (a4 - (0 : Int32)) (a5 + (1 : Int32)) S else k83 a2 a6 (a4 - (1 : Int32)) (a5 + (1 : Int32)) S)
def f_M_sea_98 (fu : Nat) (k83 : Int32 → Int32 → Int32 → Int32 → zSt → Option (Int32 × zSt)) : Nat → Int32 → Int32 → Int32 → Int32 → Int32 → zSt → Option (Int32 × zSt)
  | 0, _, _, _, _, _, _ => none
  | n + 1, a2, a3, a4, a5, a6, S => zb1 (f_M_seaBy a4 a3 a6 S) (fun r2 => zb1 (f_M_seaAt a4 a3 S) (fun r4 => if r2 = r4 then f_M_sea_123 fu k83 a2 a3 a4 a5 a6 S else f_M_sea_98 fu k83 n a2 a3 a4 a5 (a6 + (1 : Int32)) S))
def f_M_sea_83 (fu : Nat) : Nat → Int32 → Int32 → Int32 → Int32 → zSt → Option (Int32 × zSt)
  | 0, _, _, _, _, _ => none
  | n + 1, a2, a3, a4, a5, S => if a2 ≤ a5 then some (a3, S) else if a3 = 0 then some ((-1 : Int32), S) else f_M_sea_98 fu (f_M_sea_83 fu n) fu a2 a3 a4 a5 (0 : Int32) S
def f_M_sea (fu : Nat) (a1 : Int32) (a2 : Int32) (S : zSt) : Option (Int32 × zSt) := zb1 (f_M_springMany S) (fun r2 => if r2 = 0 then some ((-1 : Int32), S) else zb1 (f_M_lies a1 (0 : Int32) (9 : Int32)) (fun r5 => if r5 = 0 then some ((-1 : Int32), S) else if (-1 : Int32) ≤ a2 then zb1 (f_M_laysSea fu a1 S) (fun S9 => zb1 (f_M_seaAt a1 (zI S9 74 (0 : Int32).toNatClampNeg) S9) (fun r11 => if (1000000 : Int32) ≤ r11 then f_M_sea_56 fu (zI S9 74 (0 : Int32).toNatClampNeg) a1 S9 else if a2 = (-1 : Int32) then f_M_sea_56 fu (zI S9 74 (0 : Int32).toNatClampNeg) a1 S9 else f_M_sea_83 fu fu a2 (zI S9 74 (0 : Int32).toNatClampNeg) a1 (0 : Int32) S9)) else some ((-1 : Int32), S)))
set_option maxRecDepth 100000 in
set_option maxHeartbeats 4000000 in
theorem c_M_sea_56 {p : Program} {l : Launch} {e : Env} {s : State} {m : MethodId} {args : Array Value} {below : List Frame} {meth : Method} {c : Code} {G : zG} (C : zC p s m args meth c G b_M_sea 7 y_M_sea.cls) (hret : meth.sig.returnType = (some .int)) {fu : Nat} {r : Int32} {S1 : zSt} : ∀ (a3 : Int32) (a4 : Int32) (S : zSt) , f_M_sea_56 fu a3 a4 S = some (r, S1) → zJ p l e rm_M_sea s m args below meth c G true 7 0 0 (zQm below G args s rm_M_sea true (some (zi r)) S1) S 56 [(0, zr (some 72)), (3, zi a3), (4, zi a4)] [] := by
  intro a3 a4 S h
  unfold f_M_sea_56 at h
  refine z_aload_n C 0 rfl d_M_sea_56 rfl ?_
  refine z_iload C 2 rfl d_M_sea_57 ?_
  refine z_iload_n C 1 rfl d_M_sea_59 rfl ?_
  obtain ⟨r2, h1, h⟩ := zb1_some h
  refine z_cV C 11 (by decide) (m_M_seaAt l h1) mf_M_seaAt lk_11_409 in_M_seaAt se_M_seaAt rfl zo_72 zk_72 ⟨rfl, rfl⟩ ⟨by decide, by decide⟩ ⟨Nat.zero_le _, Nat.zero_le _⟩ rfl _ [] rfl (Nat.le_of_ble_eq_true rfl) d_M_sea_60 ?_
  refine z_ldc C zc_11_177 d_M_sea_63 ?_
  rcases zite h with ⟨c3, h⟩ | ⟨c3, h⟩
  · refine z_icmp_ltt C 72 c3 d_M_sea_65 (by decide) ?_
    refine z_aload_n C 0 rfl d_M_sea_72 rfl ?_
    refine z_iload C 2 rfl d_M_sea_73 ?_
    refine z_iload_n C 1 rfl d_M_sea_75 rfl ?_
    obtain ⟨r5, h4, h⟩ := zb1_some h
    refine z_cV C 11 (by decide) (m_M_seaAt l h4) mf_M_seaAt lk_11_409 in_M_seaAt se_M_seaAt rfl zo_72 zk_72 ⟨rfl, rfl⟩ ⟨by decide, by decide⟩ ⟨Nat.zero_le _, Nat.zero_le _⟩ rfl _ [] rfl (Nat.le_of_ble_eq_true rfl) d_M_sea_76 ?_
    cases h
    exact z_iret C .int hret rfl ⟨Nat.zero_le _, Nat.zero_le _⟩ d_M_sea_79
  · refine z_icmp_ltf C 72 c3 d_M_sea_65 (by decide) ?_
    refine z_iconst C (-1 : Int32) (by decide) d_M_sea_68 ?_
    refine z_goto C 79 d_M_sea_69 (by decide) ?_
    cases h
    exact z_iret C .int hret rfl ⟨Nat.zero_le _, Nat.zero_le _⟩ d_M_sea_79
set_option maxRecDepth 100000 in
set_option maxHeartbeats 4000000 in
theorem c_M_sea_123 {p : Program} {l : Launch} {e : Env} {s : State} {m : MethodId} {args : Array Value} {below : List Frame} {meth : Method} {c : Code} {G : zG} (C : zC p s m args meth c G b_M_sea 7 y_M_sea.cls) (hret : meth.sig.returnType = (some .int)) {fu : Nat} {r : Int32} {S1 : zSt} {k83 : Int32 → Int32 → Int32 → Int32 → zSt → Option (Int32 × zSt)} (hk83 : ∀ (a2 : Int32) (a3 : Int32) (a4 : Int32) (a5 : Int32) (S : zSt) , k83 a2 a3 a4 a5 S = some (r, S1) → zJ p l e rm_M_sea s m args below meth c G true 7 0 0 (zQm below G args s rm_M_sea true (some (zi r)) S1) S 83 [(0, zr (some 72)), (2, zi a2), (3, zi a3), (4, zi a4), (5, zi a5)] []) : ∀ (a2 : Int32) (a3 : Int32) (a4 : Int32) (a5 : Int32) (a6 : Int32) (S : zSt) , f_M_sea_123 fu k83 a2 a3 a4 a5 a6 S = some (r, S1) → zJ p l e rm_M_sea s m args below meth c G true 7 0 0 (zQm below G args s rm_M_sea true (some (zi r)) S1) S 123 [(0, zr (some 72)), (2, zi a2), (3, zi a3), (4, zi a4), (5, zi a5), (6, zi a6)] [] := by
  intro a2 a3 a4 a5 a6 S h
  unfold f_M_sea_123 at h
  refine z_iload C 3 rfl d_M_sea_123 ?_
  refine z_aload_n C 0 rfl d_M_sea_125 rfl ?_
  refine z_iload_n C 2 rfl d_M_sea_126 rfl ?_
  refine z_iload C 5 rfl d_M_sea_127 ?_
  obtain ⟨r2, h1, h⟩ := zb1_some h
  refine z_cV C 11 (by decide) (m_M_isShut l h1) mf_M_isShut lk_11_338 in_M_isShut se_M_isShut rfl zo_72 zk_72 ⟨rfl, rfl⟩ ⟨by decide, by decide⟩ ⟨Nat.zero_le _, Nat.zero_le _⟩ rfl _ [zi a4] rfl (Nat.le_of_ble_eq_true rfl) d_M_sea_129 ?_
  rcases zite h with ⟨c3, h⟩ | ⟨c3, h⟩
  · refine z_if_eqt C 139 c3 d_M_sea_132 (by decide) ?_
    refine z_iconst C (0 : Int32) (by decide) d_M_sea_139 ?_
    refine z_isub C d_M_sea_140 ?_
    refine z_istore C [(4, zi (a4 - (0 : Int32))), (0, zr (some 72)), (2, zi a2), (3, zi a3), (5, zi a5), (6, zi a6)] d_M_sea_141 (by decide) rfl ?_
    refine z_iload C 5 rfl d_M_sea_143 ?_
    refine z_istore_n C [(3, zi a6), (4, zi (a4 - (0 : Int32))), (0, zr (some 72)), (2, zi a2), (5, zi a5), (6, zi a6)] d_M_sea_145 rfl (by decide) rfl ?_
    refine z_iinc C 4 (a5 + (1 : Int32)) [(5, zi (a5 + (1 : Int32))), (3, zi a6), (4, zi (a4 - (0 : Int32))), (0, zr (some 72)), (2, zi a2), (6, zi a6)] rfl d_M_sea_146 (by first | rfl | decide) (by decide) rfl ?_
    refine z_goto C 83 d_M_sea_149 (by decide) ?_
    refine zq_lsub [3, 4, 1, 2, 0] [(0, zr (some 72)), (2, zi a2), (3, zi a6), (4, zi (a4 - (0 : Int32))), (5, zi (a5 + (1 : Int32)))] rfl ?_
    exact hk83 a2 a6 (a4 - (0 : Int32)) (a5 + (1 : Int32)) S h
  · refine z_if_eqf C 139 c3 d_M_sea_132 (by decide) ?_
    refine z_iconst C (1 : Int32) (by decide) d_M_sea_135 ?_
    refine z_goto C 140 d_M_sea_136 (by decide) ?_
    refine z_isub C d_M_sea_140 ?_
    refine z_istore C [(4, zi (a4 - (1 : Int32))), (0, zr (some 72)), (2, zi a2), (3, zi a3), (5, zi a5), (6, zi a6)] d_M_sea_141 (by decide) rfl ?_
    refine z_iload C 5 rfl d_M_sea_143 ?_
    refine z_istore_n C [(3, zi a6), (4, zi (a4 - (1 : Int32))), (0, zr (some 72)), (2, zi a2), (5, zi a5), (6, zi a6)] d_M_sea_145 rfl (by decide) rfl ?_
    refine z_iinc C 4 (a5 + (1 : Int32)) [(5, zi (a5 + (1 : Int32))), (3, zi a6), (4, zi (a4 - (1 : Int32))), (0, zr (some 72)), (2, zi a2), (6, zi a6)] rfl d_M_sea_146 (by first | rfl | decide) (by decide) rfl ?_
    refine z_goto C 83 d_M_sea_149 (by decide) ?_
    refine zq_lsub [3, 4, 1, 2, 0] [(0, zr (some 72)), (2, zi a2), (3, zi a6), (4, zi (a4 - (1 : Int32))), (5, zi (a5 + (1 : Int32)))] rfl ?_
    exact hk83 a2 a6 (a4 - (1 : Int32)) (a5 + (1 : Int32)) S h
set_option maxRecDepth 100000 in
set_option maxHeartbeats 4000000 in
theorem c_M_sea_98 {p : Program} {l : Launch} {e : Env} {s : State} {m : MethodId} {args : Array Value} {below : List Frame} {meth : Method} {c : Code} {G : zG} (C : zC p s m args meth c G b_M_sea 7 y_M_sea.cls) (hret : meth.sig.returnType = (some .int)) {fu : Nat} {r : Int32} {S1 : zSt} {k83 : Int32 → Int32 → Int32 → Int32 → zSt → Option (Int32 × zSt)} (hk83 : ∀ (a2 : Int32) (a3 : Int32) (a4 : Int32) (a5 : Int32) (S : zSt) , k83 a2 a3 a4 a5 S = some (r, S1) → zJ p l e rm_M_sea s m args below meth c G true 7 0 0 (zQm below G args s rm_M_sea true (some (zi r)) S1) S 83 [(0, zr (some 72)), (2, zi a2), (3, zi a3), (4, zi a4), (5, zi a5)] []) : ∀ (n : Nat) (a2 : Int32) (a3 : Int32) (a4 : Int32) (a5 : Int32) (a6 : Int32) (S : zSt) , f_M_sea_98 fu k83 n a2 a3 a4 a5 a6 S = some (r, S1) → zJ p l e rm_M_sea s m args below meth c G true 7 0 0 (zQm below G args s rm_M_sea true (some (zi r)) S1) S 98 [(0, zr (some 72)), (2, zi a2), (3, zi a3), (4, zi a4), (5, zi a5), (6, zi a6)] [] := by
  intro n
  induction n with
  | zero =>
    intro a2 a3 a4 a5 a6 S h
    cases h
  | succ n ih =>
    intro a2 a3 a4 a5 a6 S h
    rw [f_M_sea_98] at h
    refine z_aload_n C 0 rfl d_M_sea_98 rfl ?_
    refine z_iload C 3 rfl d_M_sea_99 ?_
    refine z_iload_n C 2 rfl d_M_sea_101 rfl ?_
    refine z_iload C 5 rfl d_M_sea_102 ?_
    obtain ⟨r2, h1, h⟩ := zb1_some h
    refine z_cV C 11 (by decide) (m_M_seaBy l h1) mf_M_seaBy lk_11_412 in_M_seaBy se_M_seaBy rfl zo_72 zk_72 ⟨rfl, rfl⟩ ⟨by decide, by decide⟩ ⟨Nat.zero_le _, Nat.zero_le _⟩ rfl _ [] rfl (Nat.le_of_ble_eq_true rfl) d_M_sea_104 ?_
    refine z_aload_n C 0 rfl d_M_sea_107 rfl ?_
    refine z_iload C 3 rfl d_M_sea_108 ?_
    refine z_iload_n C 2 rfl d_M_sea_110 rfl ?_
    obtain ⟨r4, h3, h⟩ := zb1_some h
    refine z_cV C 11 (by decide) (m_M_seaAt l h3) mf_M_seaAt lk_11_409 in_M_seaAt se_M_seaAt rfl zo_72 zk_72 ⟨rfl, rfl⟩ ⟨by decide, by decide⟩ ⟨Nat.zero_le _, Nat.zero_le _⟩ rfl _ [zi r2] rfl (Nat.le_of_ble_eq_true rfl) d_M_sea_111 ?_
    rcases zite h with ⟨c5, h⟩ | ⟨c5, h⟩
    · refine z_icmp_eqt C 123 c5 d_M_sea_114 (by decide) ?_
      refine zq_lsub [0, 1, 2, 3, 4, 5] [(0, zr (some 72)), (2, zi a2), (3, zi a3), (4, zi a4), (5, zi a5), (6, zi a6)] rfl ?_
      exact c_M_sea_123 C hret hk83  a2 a3 a4 a5 a6 S h
    · refine z_icmp_eqf C 123 c5 d_M_sea_114 (by decide) ?_
      refine z_iinc C 5 (a6 + (1 : Int32)) [(6, zi (a6 + (1 : Int32))), (0, zr (some 72)), (2, zi a2), (3, zi a3), (4, zi a4), (5, zi a5)] rfl d_M_sea_117 (by first | rfl | decide) (by decide) rfl ?_
      refine z_goto C 98 d_M_sea_120 (by decide) ?_
      refine zq_lsub [1, 2, 3, 4, 5, 0] [(0, zr (some 72)), (2, zi a2), (3, zi a3), (4, zi a4), (5, zi a5), (6, zi (a6 + (1 : Int32)))] rfl ?_
      exact ih a2 a3 a4 a5 (a6 + (1 : Int32)) S h
set_option maxRecDepth 100000 in
set_option maxHeartbeats 4000000 in
theorem c_M_sea_83 {p : Program} {l : Launch} {e : Env} {s : State} {m : MethodId} {args : Array Value} {below : List Frame} {meth : Method} {c : Code} {G : zG} (C : zC p s m args meth c G b_M_sea 7 y_M_sea.cls) (hret : meth.sig.returnType = (some .int)) {fu : Nat} {r : Int32} {S1 : zSt} : ∀ (n : Nat) (a2 : Int32) (a3 : Int32) (a4 : Int32) (a5 : Int32) (S : zSt) , f_M_sea_83 fu n a2 a3 a4 a5 S = some (r, S1) → zJ p l e rm_M_sea s m args below meth c G true 7 0 0 (zQm below G args s rm_M_sea true (some (zi r)) S1) S 83 [(0, zr (some 72)), (2, zi a2), (3, zi a3), (4, zi a4), (5, zi a5)] [] := by
  intro n
  induction n with
  | zero =>
    intro a2 a3 a4 a5 S h
    cases h
  | succ n ih =>
    intro a2 a3 a4 a5 S h
    rw [f_M_sea_83] at h
    refine z_iload C 4 rfl d_M_sea_83 ?_
    refine z_iload_n C 1 rfl d_M_sea_85 rfl ?_
    rcases zite h with ⟨c1, h⟩ | ⟨c1, h⟩
    · refine z_icmp_get C 152 c1 d_M_sea_86 (by decide) ?_
      refine z_iload_n C 2 rfl d_M_sea_152 rfl ?_
      cases h
      exact z_iret C .int hret rfl ⟨Nat.zero_le _, Nat.zero_le _⟩ d_M_sea_153
    · refine z_icmp_gef C 152 c1 d_M_sea_86 (by decide) ?_
      refine z_iload_n C 2 rfl d_M_sea_89 rfl ?_
      rcases zite h with ⟨c2, h⟩ | ⟨c2, h⟩
      · refine z_if_nef C 95 c2 d_M_sea_90 (by decide) ?_
        refine z_iconst C (-1 : Int32) (by decide) d_M_sea_93 ?_
        cases h
        exact z_iret C .int hret rfl ⟨Nat.zero_le _, Nat.zero_le _⟩ d_M_sea_94
      · refine z_if_net C 95 c2 d_M_sea_90 (by decide) ?_
        refine z_iconst C (0 : Int32) (by decide) d_M_sea_95 ?_
        refine z_istore C [(6, zi (0 : Int32)), (0, zr (some 72)), (2, zi a2), (3, zi a3), (4, zi a4), (5, zi a5)] d_M_sea_96 (by decide) rfl ?_
        refine zq_lsub [1, 2, 3, 4, 5, 0] [(0, zr (some 72)), (2, zi a2), (3, zi a3), (4, zi a4), (5, zi a5), (6, zi (0 : Int32))] rfl ?_
        exact c_M_sea_98 C hret (fun z0 z1 z2 z3 zS zh => ih z0 z1 z2 z3 zS zh) fu  a2 a3 a4 a5 (0 : Int32) S h
set_option maxRecDepth 100000 in
set_option maxHeartbeats 4000000 in
theorem m_M_sea (l : Launch) {fu : Nat} {a1 : Int32} {a2 : Int32} {S : zSt} {r : Int32} {S1 : zSt} (h : f_M_sea fu a1 a2 S = some (r, S1)) : zPM l y_M_sea b_M_sea 7 (some .int) rm_M_sea true true [zr (some 72), zi a1, zi a2] S (some (zi r)) S1 := by
  refine zPM_of (by decide) (Nat.le_of_ble_eq_true rfl) (fun p e s m args below meth c G C hret hname => ?_)
  unfold f_M_sea at h
  refine (?_ : zJ p l e rm_M_sea s m args below meth c G true 7 0 0 (zQm below G args s rm_M_sea true (some (zi r)) S1) S 0 [(0, zr (some 72)), (1, zi a1), (2, zi a2)] [])
  refine z_aload_n C 0 rfl d_M_sea_0 rfl ?_
  obtain ⟨r2, h1, h⟩ := zb1_some h
  refine z_cV C 11 (by decide) (m_M_springMany l h1) mf_M_springMany lk_11_118 in_M_springMany se_M_springMany rfl zo_72 zk_72 ⟨rfl, rfl⟩ ⟨by decide, by decide⟩ ⟨Nat.zero_le _, Nat.zero_le _⟩ rfl _ [] rfl (Nat.le_of_ble_eq_true rfl) d_M_sea_1 ?_
  rcases zite h with ⟨c3, h⟩ | ⟨c3, h⟩
  · refine z_if_eqt C 22 c3 d_M_sea_4 (by decide) ?_
    refine z_iconst C (-1 : Int32) (by decide) d_M_sea_22 ?_
    cases h
    exact z_iret C .int hret rfl ⟨Nat.zero_le _, Nat.zero_le _⟩ d_M_sea_23
  · refine z_if_eqf C 22 c3 d_M_sea_4 (by decide) ?_
    refine z_iload_n C 1 rfl d_M_sea_7 rfl ?_
    refine z_iconst C (0 : Int32) (by decide) d_M_sea_8 ?_
    refine z_bipush C (9 : Int32) (by decide) d_M_sea_9 ?_
    obtain ⟨r5, h4, h⟩ := zb1_some h
    refine z_cS C (m_M_lies l h4) mf_M_lies lk_11_108 st_M_lies ⟨rfl, rfl⟩ ⟨by decide, by decide⟩ ⟨Nat.zero_le _, Nat.zero_le _⟩ rfl _ [] rfl (Nat.le_of_ble_eq_true rfl) d_M_sea_11 ?_
    rcases zite h with ⟨c6, h⟩ | ⟨c6, h⟩
    · refine z_if_eqt C 22 c6 d_M_sea_14 (by decide) ?_
      refine z_iconst C (-1 : Int32) (by decide) d_M_sea_22 ?_
      cases h
      exact z_iret C .int hret rfl ⟨Nat.zero_le _, Nat.zero_le _⟩ d_M_sea_23
    · refine z_if_eqf C 22 c6 d_M_sea_14 (by decide) ?_
      refine z_iload_n C 2 rfl d_M_sea_17 rfl ?_
      refine z_iconst C (-1 : Int32) (by decide) d_M_sea_18 ?_
      rcases zite h with ⟨c7, h⟩ | ⟨c7, h⟩
      · refine z_icmp_get C 24 c7 d_M_sea_19 (by decide) ?_
        refine z_aload_n C 0 rfl d_M_sea_24 rfl ?_
        refine z_iload_n C 1 rfl d_M_sea_25 rfl ?_
        obtain ⟨S9, h8, h⟩ := zb1_some h
        refine z_cV C 11 (by decide) (m_M_laysSea l h8) mf_M_laysSea lk_11_415 in_M_laysSea se_M_laysSea rfl zo_72 zk_72 ⟨rfl, rfl⟩ ⟨by decide, by decide⟩ ⟨Nat.zero_le _, Nat.zero_le _⟩ rfl _ [] rfl (Nat.le_of_ble_eq_true rfl) d_M_sea_26 ?_
        refine z_aload_n C 0 rfl d_M_sea_29 rfl ?_
        refine z_getF2 C 11 (by decide) 2 (by decide) rfl 2 5807 rfl (74) rfl zp_72 zk_72 zfl_11_24 d_M_sea_30 ?_
        refine z_iconst C (0 : Int32) (by decide) d_M_sea_33 ?_
        refine z_fact (fun hSR => ?_)
        refine z_ialoadS C zo_74 zk_74 (za_74 hSR) (by decide) d_M_sea_34 ?_
        refine z_istore_n C [(3, zi (zI S9 74 (0 : Int32).toNatClampNeg)), (0, zr (some 72)), (1, zi a1), (2, zi a2)] d_M_sea_35 rfl (by decide) rfl ?_
        refine z_iload_n C 2 rfl d_M_sea_36 rfl ?_
        refine z_istore C [(4, zi a1), (3, zi (zI S9 74 (0 : Int32).toNatClampNeg)), (0, zr (some 72)), (1, zi a1), (2, zi a2)] d_M_sea_37 (by decide) rfl ?_
        refine z_aload_n C 2 rfl d_M_sea_39 rfl ?_
        refine z_iload C 0 rfl d_M_sea_40 ?_
        refine z_iload_n C 1 rfl d_M_sea_42 rfl ?_
        obtain ⟨r11, h10, h⟩ := zb1_some h
        refine z_cV C 11 (by decide) (m_M_seaAt l h10) mf_M_seaAt lk_11_409 in_M_seaAt se_M_seaAt rfl zo_72 zk_72 ⟨rfl, rfl⟩ ⟨by decide, by decide⟩ ⟨Nat.zero_le _, Nat.zero_le _⟩ rfl _ [] rfl (Nat.le_of_ble_eq_true rfl) d_M_sea_43 ?_
        refine z_ldc C zc_11_177 d_M_sea_46 ?_
        rcases zite h with ⟨c12, h⟩ | ⟨c12, h⟩
        · refine z_icmp_get C 56 c12 d_M_sea_48 (by decide) ?_
          refine zq_lsub [2, 1, 0] [(0, zr (some 72)), (3, zi (zI S9 74 (0 : Int32).toNatClampNeg)), (4, zi a1)] rfl ?_
          exact c_M_sea_56 C hret  (zI S9 74 (0 : Int32).toNatClampNeg) a1 S9 h
        · refine z_icmp_gef C 56 c12 d_M_sea_48 (by decide) ?_
          refine z_iload_n C 4 rfl d_M_sea_51 rfl ?_
          refine z_iconst C (-1 : Int32) (by decide) d_M_sea_52 ?_
          rcases zite h with ⟨c13, h⟩ | ⟨c13, h⟩
          · refine z_icmp_nef C 80 c13 d_M_sea_53 (by decide) ?_
            refine zq_lsub [2, 1, 0] [(0, zr (some 72)), (3, zi (zI S9 74 (0 : Int32).toNatClampNeg)), (4, zi a1)] rfl ?_
            exact c_M_sea_56 C hret  (zI S9 74 (0 : Int32).toNatClampNeg) a1 S9 h
          · refine z_icmp_net C 80 c13 d_M_sea_53 (by decide) ?_
            refine z_iconst C (0 : Int32) (by decide) d_M_sea_80 ?_
            refine z_istore C [(5, zi (0 : Int32)), (4, zi a1), (3, zi (zI S9 74 (0 : Int32).toNatClampNeg)), (0, zr (some 72)), (1, zi a1), (2, zi a2)] d_M_sea_81 (by decide) rfl ?_
            refine zq_lsub [3, 5, 2, 1, 0] [(0, zr (some 72)), (2, zi a2), (3, zi (zI S9 74 (0 : Int32).toNatClampNeg)), (4, zi a1), (5, zi (0 : Int32))] rfl ?_
            exact c_M_sea_83 C hret fu  a2 (zI S9 74 (0 : Int32).toNatClampNeg) a1 (0 : Int32) S9 h
      · refine z_icmp_gef C 24 c7 d_M_sea_19 (by decide) ?_
        refine z_iconst C (-1 : Int32) (by decide) d_M_sea_22 ?_
        cases h
        exact z_iret C .int hret rfl ⟨Nat.zero_le _, Nat.zero_le _⟩ d_M_sea_23
def f_M_heard (a1 : Int32) (a2 : Int32) (S : zSt) : Option (Int32 × zSt) := zb1 (f_M_lies a2 (0 : Int32) (999 : Int32)) (fun r2 => if r2 = 0 then zb2 (f_M_refuses (-1 : Int32) S) (fun r20 S21 => some (r20, S21)) else zb1 (f_M_isSpring a1 S) (fun r5 => if r5 = 0 then zb2 (f_M_refuses (-2 : Int32) S) (fun r17 S18 => some (r17, S18)) else if (zI S 74 (197 : Int32).toNatClampNeg) = (6 : Int32) then zb2 (f_M_refuses (-5 : Int32) S) (fun r14 S15 => some (r14, S15)) else zgd (0 ≤ ((182 : Int32) + ((2 : Int32) * (zI S 74 (197 : Int32).toNatClampNeg))) ∧ ((182 : Int32) + ((2 : Int32) * (zI S 74 (197 : Int32).toNatClampNeg))).toNatClampNeg < 5807) (zgd (0 ≤ (((182 : Int32) + ((2 : Int32) * (zI S 74 (197 : Int32).toNatClampNeg))) + (1 : Int32)) ∧ (((182 : Int32) + ((2 : Int32) * (zI S 74 (197 : Int32).toNatClampNeg))) + (1 : Int32)).toNatClampNeg < 5807) (zb2 (f_M_good (zI (zwI (zwI (zwI S 74 ((182 : Int32) + ((2 : Int32) * (zI S 74 (197 : Int32).toNatClampNeg))).toNatClampNeg a1) 74 (((182 : Int32) + ((2 : Int32) * (zI S 74 (197 : Int32).toNatClampNeg))) + (1 : Int32)).toNatClampNeg a2) 74 (197 : Int32).toNatClampNeg ((zI (zwI (zwI S 74 ((182 : Int32) + ((2 : Int32) * (zI S 74 (197 : Int32).toNatClampNeg))).toNatClampNeg a1) 74 (((182 : Int32) + ((2 : Int32) * (zI S 74 (197 : Int32).toNatClampNeg))) + (1 : Int32)).toNatClampNeg a2) 74 (197 : Int32).toNatClampNeg) + (1 : Int32))) 74 (197 : Int32).toNatClampNeg) (zwI (zwI (zwI S 74 ((182 : Int32) + ((2 : Int32) * (zI S 74 (197 : Int32).toNatClampNeg))).toNatClampNeg a1) 74 (((182 : Int32) + ((2 : Int32) * (zI S 74 (197 : Int32).toNatClampNeg))) + (1 : Int32)).toNatClampNeg a2) 74 (197 : Int32).toNatClampNeg ((zI (zwI (zwI S 74 ((182 : Int32) + ((2 : Int32) * (zI S 74 (197 : Int32).toNatClampNeg))).toNatClampNeg a1) 74 (((182 : Int32) + ((2 : Int32) * (zI S 74 (197 : Int32).toNatClampNeg))) + (1 : Int32)).toNatClampNeg a2) 74 (197 : Int32).toNatClampNeg) + (1 : Int32)))) (fun r11 S12 => some (r11, S12))))))
set_option maxRecDepth 100000 in
set_option maxHeartbeats 4000000 in
theorem m_M_heard (l : Launch) {a1 : Int32} {a2 : Int32} {S : zSt} {r : Int32} {S1 : zSt} (h : f_M_heard a1 a2 S = some (r, S1)) : zPM l y_M_heard b_M_heard 4 (some .int) rm_M_heard true true [zr (some 72), zi a1, zi a2] S (some (zi r)) S1 := by
  refine zPM_of (by decide) (Nat.le_of_ble_eq_true rfl) (fun p e s m args below meth c G C hret hname => ?_)
  unfold f_M_heard at h
  refine (?_ : zJ p l e rm_M_heard s m args below meth c G true 4 0 0 (zQm below G args s rm_M_heard true (some (zi r)) S1) S 0 [(0, zr (some 72)), (1, zi a1), (2, zi a2)] [])
  refine z_iload_n C 2 rfl d_M_heard_0 rfl ?_
  refine z_iconst C (0 : Int32) (by decide) d_M_heard_1 ?_
  refine z_sipush C (999 : Int32) (by decide) d_M_heard_2 ?_
  obtain ⟨r2, h1, h⟩ := zb1_some h
  refine z_cS C (m_M_lies l h1) mf_M_lies lk_11_108 st_M_lies ⟨rfl, rfl⟩ ⟨by decide, by decide⟩ ⟨Nat.zero_le _, Nat.zero_le _⟩ rfl _ [] rfl (Nat.le_of_ble_eq_true rfl) d_M_heard_5 ?_
  rcases zite h with ⟨c3, h⟩ | ⟨c3, h⟩
  · refine z_if_nef C 17 c3 d_M_heard_8 (by decide) ?_
    refine z_aload_n C 0 rfl d_M_heard_11 rfl ?_
    refine z_iconst C (-1 : Int32) (by decide) d_M_heard_12 ?_
    obtain ⟨r20, S21, h19, h⟩ := zb2_some h
    refine z_cV C 11 (by decide) (m_M_refuses l h19) mf_M_refuses lk_11_112 in_M_refuses se_M_refuses rfl zo_72 zk_72 ⟨rfl, rfl⟩ ⟨by decide, by decide⟩ ⟨Nat.zero_le _, Nat.zero_le _⟩ rfl _ [] rfl (Nat.le_of_ble_eq_true rfl) d_M_heard_13 ?_
    cases h
    exact z_iret C .int hret rfl ⟨Nat.zero_le _, Nat.zero_le _⟩ d_M_heard_16
  · refine z_if_net C 17 c3 d_M_heard_8 (by decide) ?_
    refine z_aload_n C 0 rfl d_M_heard_17 rfl ?_
    refine z_iload_n C 1 rfl d_M_heard_18 rfl ?_
    obtain ⟨r5, h4, h⟩ := zb1_some h
    refine z_cV C 11 (by decide) (m_M_isSpring l h4) mf_M_isSpring lk_11_122 in_M_isSpring se_M_isSpring rfl zo_72 zk_72 ⟨rfl, rfl⟩ ⟨by decide, by decide⟩ ⟨Nat.zero_le _, Nat.zero_le _⟩ rfl _ [] rfl (Nat.le_of_ble_eq_true rfl) d_M_heard_19 ?_
    rcases zite h with ⟨c6, h⟩ | ⟨c6, h⟩
    · refine z_if_nef C 32 c6 d_M_heard_22 (by decide) ?_
      refine z_aload_n C 0 rfl d_M_heard_25 rfl ?_
      refine z_bipush C (-2 : Int32) (by decide) d_M_heard_26 ?_
      obtain ⟨r17, S18, h16, h⟩ := zb2_some h
      refine z_cV C 11 (by decide) (m_M_refuses l h16) mf_M_refuses lk_11_112 in_M_refuses se_M_refuses rfl zo_72 zk_72 ⟨rfl, rfl⟩ ⟨by decide, by decide⟩ ⟨Nat.zero_le _, Nat.zero_le _⟩ rfl _ [] rfl (Nat.le_of_ble_eq_true rfl) d_M_heard_28 ?_
      cases h
      exact z_iret C .int hret rfl ⟨Nat.zero_le _, Nat.zero_le _⟩ d_M_heard_31
    · refine z_if_net C 32 c6 d_M_heard_22 (by decide) ?_
      refine z_sipush C (182 : Int32) (by decide) d_M_heard_32 ?_
      refine z_iconst C (2 : Int32) (by decide) d_M_heard_35 ?_
      refine z_aload_n C 0 rfl d_M_heard_36 rfl ?_
      refine z_getF2 C 11 (by decide) 2 (by decide) rfl 2 5807 rfl (74) rfl zp_72 zk_72 zfl_11_24 d_M_heard_37 ?_
      refine z_sipush C (197 : Int32) (by decide) d_M_heard_40 ?_
      refine z_fact (fun hSR => ?_)
      refine z_ialoadS C zo_74 zk_74 (za_74 hSR) (by decide) d_M_heard_43 ?_
      refine z_imul C d_M_heard_44 ?_
      refine z_iadd C d_M_heard_45 ?_
      refine z_istore_n C [(3, zi ((182 : Int32) + ((2 : Int32) * (zI S 74 (197 : Int32).toNatClampNeg)))), (0, zr (some 72)), (1, zi a1), (2, zi a2)] d_M_heard_46 rfl (by decide) rfl ?_
      refine z_aload_n C 1 rfl d_M_heard_47 rfl ?_
      refine z_getF2 C 11 (by decide) 2 (by decide) rfl 2 5807 rfl (74) rfl zp_72 zk_72 zfl_11_24 d_M_heard_48 ?_
      refine z_sipush C (197 : Int32) (by decide) d_M_heard_51 ?_
      refine z_fact (fun hSR => ?_)
      refine z_ialoadS C zo_74 zk_74 (za_74 hSR) (by decide) d_M_heard_54 ?_
      refine z_bipush C (6 : Int32) (by decide) d_M_heard_55 ?_
      rcases zite h with ⟨c7, h⟩ | ⟨c7, h⟩
      · refine z_icmp_nef C 67 c7 d_M_heard_57 (by decide) ?_
        refine z_aload_n C 1 rfl d_M_heard_60 rfl ?_
        refine z_bipush C (-5 : Int32) (by decide) d_M_heard_61 ?_
        obtain ⟨r14, S15, h13, h⟩ := zb2_some h
        refine z_cV C 11 (by decide) (m_M_refuses l h13) mf_M_refuses lk_11_112 in_M_refuses se_M_refuses rfl zo_72 zk_72 ⟨rfl, rfl⟩ ⟨by decide, by decide⟩ ⟨Nat.zero_le _, Nat.zero_le _⟩ rfl _ [] rfl (Nat.le_of_ble_eq_true rfl) d_M_heard_63 ?_
        cases h
        exact z_iret C .int hret rfl ⟨Nat.zero_le _, Nat.zero_le _⟩ d_M_heard_66
      · refine z_icmp_net C 67 c7 d_M_heard_57 (by decide) ?_
        refine z_aload_n C 1 rfl d_M_heard_67 rfl ?_
        refine z_getF2 C 11 (by decide) 2 (by decide) rfl 2 5807 rfl (74) rfl zp_72 zk_72 zfl_11_24 d_M_heard_68 ?_
        refine z_iload_n C 0 rfl d_M_heard_71 rfl ?_
        refine z_iload_n C 2 rfl d_M_heard_72 rfl ?_
        refine z_fact (fun hSR => ?_)
        obtain ⟨g8, h⟩ := zgd_some h
        refine z_iastoreS C zo_74 zk_74 (za_74 hSR) g8 d_M_heard_73 ?_
        refine z_aload_n C 1 rfl d_M_heard_74 rfl ?_
        refine z_getF2 C 11 (by decide) 2 (by decide) rfl 2 5807 rfl (74) rfl zp_72 zk_72 zfl_11_24 d_M_heard_75 ?_
        refine z_iload_n C 0 rfl d_M_heard_78 rfl ?_
        refine z_iconst C (1 : Int32) (by decide) d_M_heard_79 ?_
        refine z_iadd C d_M_heard_80 ?_
        refine z_iload_n C 3 rfl d_M_heard_81 rfl ?_
        refine z_fact (fun hSR => ?_)
        obtain ⟨g9, h⟩ := zgd_some h
        refine z_iastoreS C zo_74 zk_74 (za_74 hSR) g9 d_M_heard_82 ?_
        refine z_aload_n C 1 rfl d_M_heard_83 rfl ?_
        refine z_getF2 C 11 (by decide) 2 (by decide) rfl 2 5807 rfl (74) rfl zp_72 zk_72 zfl_11_24 d_M_heard_84 ?_
        refine z_sipush C (197 : Int32) (by decide) d_M_heard_87 ?_
        refine z_dup2 C rfl rfl d_M_heard_90 ?_
        refine z_fact (fun hSR => ?_)
        refine z_ialoadS C zo_74 zk_74 (za_74 hSR) (by decide) d_M_heard_91 ?_
        refine z_iconst C (1 : Int32) (by decide) d_M_heard_92 ?_
        refine z_iadd C d_M_heard_93 ?_
        refine z_fact (fun hSR => ?_)
        refine z_iastoreS C zo_74 zk_74 (za_74 hSR) (by decide) d_M_heard_94 ?_
        refine z_aload_n C 1 rfl d_M_heard_95 rfl ?_
        refine z_aload_n C 1 rfl d_M_heard_96 rfl ?_
        refine z_getF2 C 11 (by decide) 2 (by decide) rfl 2 5807 rfl (74) rfl zp_72 zk_72 zfl_11_24 d_M_heard_97 ?_
        refine z_sipush C (197 : Int32) (by decide) d_M_heard_100 ?_
        refine z_fact (fun hSR => ?_)
        refine z_ialoadS C zo_74 zk_74 (za_74 hSR) (by decide) d_M_heard_103 ?_
        obtain ⟨r11, S12, h10, h⟩ := zb2_some h
        refine z_cV C 11 (by decide) (m_M_good l h10) mf_M_good lk_11_14 in_M_good se_M_good rfl zo_72 zk_72 ⟨rfl, rfl⟩ ⟨by decide, by decide⟩ ⟨Nat.zero_le _, Nat.zero_le _⟩ rfl _ [] rfl (Nat.le_of_ble_eq_true rfl) d_M_heard_104 ?_
        cases h
        exact z_iret C .int hret rfl ⟨Nat.zero_le _, Nat.zero_le _⟩ d_M_heard_107
def f_M_forget (S : zSt) : Option (Int32 × zSt) := some (zI S 74 (197 : Int32).toNatClampNeg, zwI S 74 (197 : Int32).toNatClampNeg (0 : Int32))
set_option maxRecDepth 100000 in
set_option maxHeartbeats 4000000 in
theorem m_M_forget (l : Launch) {S : zSt} {r : Int32} {S1 : zSt} (h : f_M_forget  S = some (r, S1)) : zPM l y_M_forget b_M_forget 2 (some .int) rm_M_forget true true [zr (some 72)] S (some (zi r)) S1 := by
  refine zPM_of (by decide) (Nat.le_of_ble_eq_true rfl) (fun p e s m args below meth c G C hret hname => ?_)
  unfold f_M_forget at h
  refine (?_ : zJ p l e rm_M_forget s m args below meth c G true 2 0 0 (zQm below G args s rm_M_forget true (some (zi r)) S1) S 0 [(0, zr (some 72))] [])
  refine z_aload_n C 0 rfl d_M_forget_0 rfl ?_
  refine z_getF2 C 11 (by decide) 2 (by decide) rfl 2 5807 rfl (74) rfl zp_72 zk_72 zfl_11_24 d_M_forget_1 ?_
  refine z_sipush C (197 : Int32) (by decide) d_M_forget_4 ?_
  refine z_fact (fun hSR => ?_)
  refine z_ialoadS C zo_74 zk_74 (za_74 hSR) (by decide) d_M_forget_7 ?_
  refine z_istore_n C [(1, zi (zI S 74 (197 : Int32).toNatClampNeg)), (0, zr (some 72))] d_M_forget_8 rfl (by decide) rfl ?_
  refine z_aload_n C 1 rfl d_M_forget_9 rfl ?_
  refine z_getF2 C 11 (by decide) 2 (by decide) rfl 2 5807 rfl (74) rfl zp_72 zk_72 zfl_11_24 d_M_forget_10 ?_
  refine z_sipush C (197 : Int32) (by decide) d_M_forget_13 ?_
  refine z_iconst C (0 : Int32) (by decide) d_M_forget_16 ?_
  refine z_fact (fun hSR => ?_)
  refine z_iastoreS C zo_74 zk_74 (za_74 hSR) (by decide) d_M_forget_17 ?_
  refine z_iload_n C 0 rfl d_M_forget_18 rfl ?_
  cases h
  exact z_iret C .int hret rfl ⟨Nat.zero_le _, Nat.zero_le _⟩ d_M_forget_19
def f_M_beginsAt_80 (fu : Nat) (a2 : Int32) (S : zSt) : Option Int32 := if (zI S 74 (197 : Int32).toNatClampNeg) = 0 then some (0 : Int32) else some a2
def f_M_beginsAt_4 (fu : Nat) : Nat → Int32 → Int32 → Int32 → zSt → Option Int32
  | 0, _, _, _, _ => none
  | n + 1, a1, a2, a3, S => if (zI S 74 (197 : Int32).toNatClampNeg) ≤ a3 then f_M_beginsAt_80 fu a2 S else zgd (0 ≤ (((182 : Int32) + ((2 : Int32) * a3)) + (1 : Int32)) ∧ (((182 : Int32) + ((2 : Int32) * a3)) + (1 : Int32)).toNatClampNeg < 5807) (zgd (0 ≤ ((182 : Int32) + ((2 : Int32) * a3)) ∧ ((182 : Int32) + ((2 : Int32) * a3)).toNatClampNeg < 5807) (zb1 (f_M_pairAt a1 (zI S 74 ((182 : Int32) + ((2 : Int32) * a3)).toNatClampNeg)) (fun r5 => zgd (0 ≤ r5 ∧ r5.toNatClampNeg < 81) (if ((zI S 74 (((182 : Int32) + ((2 : Int32) * a3)) + (1 : Int32)).toNatClampNeg) - (zI S 90 r5.toNatClampNeg)) < 0 then some (-1 : Int32) else if a3 ≤ 0 then f_M_beginsAt_4 fu n a1 ((zI S 74 (((182 : Int32) + ((2 : Int32) * a3)) + (1 : Int32)).toNatClampNeg) - (zI S 90 r5.toNatClampNeg)) (a3 + (1 : Int32)) S else if ((zI S 74 (((182 : Int32) + ((2 : Int32) * a3)) + (1 : Int32)).toNatClampNeg) - (zI S 90 r5.toNatClampNeg)) = a2 then f_M_beginsAt_4 fu n a1 ((zI S 74 (((182 : Int32) + ((2 : Int32) * a3)) + (1 : Int32)).toNatClampNeg) - (zI S 90 r5.toNatClampNeg)) (a3 + (1 : Int32)) S else some (-1 : Int32)))))
def f_M_beginsAt (fu : Nat) (a1 : Int32) (S : zSt) : Option Int32 := f_M_beginsAt_4 fu fu a1 (-1 : Int32) (0 : Int32) S
set_option maxRecDepth 100000 in
set_option maxHeartbeats 4000000 in
theorem c_M_beginsAt_80 {p : Program} {l : Launch} {e : Env} {s : State} {m : MethodId} {args : Array Value} {below : List Frame} {meth : Method} {c : Code} {G : zG} (C : zC p s m args meth c G b_M_beginsAt 5 y_M_beginsAt.cls) (hret : meth.sig.returnType = (some .int)) {fu : Nat} {r : Int32} : ∀ (a2 : Int32) (S : zSt) , f_M_beginsAt_80 fu a2 S = some r → zJ p l e rm_M_beginsAt s m args below meth c G true 5 0 0 (zQm below G args s rm_M_beginsAt true (some (zi r)) S) S 80 [(0, zr (some 72)), (2, zi a2)] [] := by
  intro a2 S h
  unfold f_M_beginsAt_80 at h
  refine z_aload_n C 0 rfl d_M_beginsAt_80 rfl ?_
  refine z_getF2 C 11 (by decide) 2 (by decide) rfl 2 5807 rfl (74) rfl zp_72 zk_72 zfl_11_24 d_M_beginsAt_81 ?_
  refine z_sipush C (197 : Int32) (by decide) d_M_beginsAt_84 ?_
  refine z_fact (fun hSR => ?_)
  refine z_ialoadS C zo_74 zk_74 (za_74 hSR) (by decide) d_M_beginsAt_87 ?_
  rcases zite h with ⟨c1, h⟩ | ⟨c1, h⟩
  · refine z_if_nef C 95 c1 d_M_beginsAt_88 (by decide) ?_
    refine z_iconst C (0 : Int32) (by decide) d_M_beginsAt_91 ?_
    refine z_goto C 96 d_M_beginsAt_92 (by decide) ?_
    cases h
    exact z_iret C .int hret rfl ⟨Nat.zero_le _, Nat.zero_le _⟩ d_M_beginsAt_96
  · refine z_if_net C 95 c1 d_M_beginsAt_88 (by decide) ?_
    refine z_iload_n C 1 rfl d_M_beginsAt_95 rfl ?_
    cases h
    exact z_iret C .int hret rfl ⟨Nat.zero_le _, Nat.zero_le _⟩ d_M_beginsAt_96
set_option maxRecDepth 100000 in
set_option maxHeartbeats 4000000 in
theorem c_M_beginsAt_4 {p : Program} {l : Launch} {e : Env} {s : State} {m : MethodId} {args : Array Value} {below : List Frame} {meth : Method} {c : Code} {G : zG} (C : zC p s m args meth c G b_M_beginsAt 5 y_M_beginsAt.cls) (hret : meth.sig.returnType = (some .int)) {fu : Nat} {r : Int32} : ∀ (n : Nat) (a1 : Int32) (a2 : Int32) (a3 : Int32) (S : zSt) , f_M_beginsAt_4 fu n a1 a2 a3 S = some r → zJ p l e rm_M_beginsAt s m args below meth c G true 5 0 0 (zQm below G args s rm_M_beginsAt true (some (zi r)) S) S 4 [(0, zr (some 72)), (1, zi a1), (2, zi a2), (3, zi a3)] [] := by
  intro n
  induction n with
  | zero =>
    intro a1 a2 a3 S h
    cases h
  | succ n ih =>
    intro a1 a2 a3 S h
    rw [f_M_beginsAt_4] at h
    refine z_iload_n C 3 rfl d_M_beginsAt_4 rfl ?_
    refine z_aload_n C 0 rfl d_M_beginsAt_5 rfl ?_
    refine z_getF2 C 11 (by decide) 2 (by decide) rfl 2 5807 rfl (74) rfl zp_72 zk_72 zfl_11_24 d_M_beginsAt_6 ?_
    refine z_sipush C (197 : Int32) (by decide) d_M_beginsAt_9 ?_
    refine z_fact (fun hSR => ?_)
    refine z_ialoadS C zo_74 zk_74 (za_74 hSR) (by decide) d_M_beginsAt_12 ?_
    rcases zite h with ⟨c1, h⟩ | ⟨c1, h⟩
    · refine z_icmp_get C 80 c1 d_M_beginsAt_13 (by decide) ?_
      refine zq_lsub [0, 2] [(0, zr (some 72)), (2, zi a2)] rfl ?_
      exact c_M_beginsAt_80 C hret  a2 S h
    · refine z_icmp_gef C 80 c1 d_M_beginsAt_13 (by decide) ?_
      refine z_aload_n C 0 rfl d_M_beginsAt_16 rfl ?_
      refine z_getF2 C 11 (by decide) 2 (by decide) rfl 2 5807 rfl (74) rfl zp_72 zk_72 zfl_11_24 d_M_beginsAt_17 ?_
      refine z_sipush C (182 : Int32) (by decide) d_M_beginsAt_20 ?_
      refine z_iconst C (2 : Int32) (by decide) d_M_beginsAt_23 ?_
      refine z_iload_n C 3 rfl d_M_beginsAt_24 rfl ?_
      refine z_imul C d_M_beginsAt_25 ?_
      refine z_iadd C d_M_beginsAt_26 ?_
      refine z_iconst C (1 : Int32) (by decide) d_M_beginsAt_27 ?_
      refine z_iadd C d_M_beginsAt_28 ?_
      refine z_fact (fun hSR => ?_)
      obtain ⟨g2, h⟩ := zgd_some h
      refine z_ialoadS C zo_74 zk_74 (za_74 hSR) g2 d_M_beginsAt_29 ?_
      refine z_aload_n C 0 rfl d_M_beginsAt_30 rfl ?_
      refine z_getF2 C 11 (by decide) 35 (by decide) rfl 18 81 rfl (90) rfl zp_72 zk_72 zfl_11_77 d_M_beginsAt_31 ?_
      refine z_iload_n C 1 rfl d_M_beginsAt_34 rfl ?_
      refine z_aload_n C 0 rfl d_M_beginsAt_35 rfl ?_
      refine z_getF2 C 11 (by decide) 2 (by decide) rfl 2 5807 rfl (74) rfl zp_72 zk_72 zfl_11_24 d_M_beginsAt_36 ?_
      refine z_sipush C (182 : Int32) (by decide) d_M_beginsAt_39 ?_
      refine z_iconst C (2 : Int32) (by decide) d_M_beginsAt_42 ?_
      refine z_iload_n C 3 rfl d_M_beginsAt_43 rfl ?_
      refine z_imul C d_M_beginsAt_44 ?_
      refine z_iadd C d_M_beginsAt_45 ?_
      refine z_fact (fun hSR => ?_)
      obtain ⟨g3, h⟩ := zgd_some h
      refine z_ialoadS C zo_74 zk_74 (za_74 hSR) g3 d_M_beginsAt_46 ?_
      obtain ⟨r5, h4, h⟩ := zb1_some h
      refine z_cS C (m_M_pairAt l h4) mf_M_pairAt lk_11_126 st_M_pairAt ⟨rfl, rfl⟩ ⟨by decide, by decide⟩ ⟨Nat.zero_le _, Nat.zero_le _⟩ rfl _ [zr (some 90), zi (zI S 74 (((182 : Int32) + ((2 : Int32) * a3)) + (1 : Int32)).toNatClampNeg)] rfl (Nat.le_of_ble_eq_true rfl) d_M_beginsAt_47 ?_
      refine z_fact (fun hSR => ?_)
      obtain ⟨g6, h⟩ := zgd_some h
      refine z_ialoadS C zo_90 zk_90 (za_90 hSR) g6 d_M_beginsAt_50 ?_
      refine z_isub C d_M_beginsAt_51 ?_
      refine z_istore C [(4, zi ((zI S 74 (((182 : Int32) + ((2 : Int32) * a3)) + (1 : Int32)).toNatClampNeg) - (zI S 90 r5.toNatClampNeg))), (0, zr (some 72)), (1, zi a1), (2, zi a2), (3, zi a3)] d_M_beginsAt_52 (by decide) rfl ?_
      refine z_iload C 0 rfl d_M_beginsAt_54 ?_
      rcases zite h with ⟨c7, h⟩ | ⟨c7, h⟩
      · refine z_if_ltt C 69 c7 d_M_beginsAt_56 (by decide) ?_
        refine z_iconst C (-1 : Int32) (by decide) d_M_beginsAt_69 ?_
        cases h
        exact z_iret C .int hret rfl ⟨Nat.zero_le _, Nat.zero_le _⟩ d_M_beginsAt_70
      · refine z_if_ltf C 69 c7 d_M_beginsAt_56 (by decide) ?_
        refine z_iload_n C 4 rfl d_M_beginsAt_59 rfl ?_
        rcases zite h with ⟨c8, h⟩ | ⟨c8, h⟩
        · refine z_if_let C 71 c8 d_M_beginsAt_60 (by decide) ?_
          refine z_iload C 0 rfl d_M_beginsAt_71 ?_
          refine z_istore_n C [(2, zi ((zI S 74 (((182 : Int32) + ((2 : Int32) * a3)) + (1 : Int32)).toNatClampNeg) - (zI S 90 r5.toNatClampNeg))), (4, zi ((zI S 74 (((182 : Int32) + ((2 : Int32) * a3)) + (1 : Int32)).toNatClampNeg) - (zI S 90 r5.toNatClampNeg))), (0, zr (some 72)), (1, zi a1), (3, zi a3)] d_M_beginsAt_73 rfl (by decide) rfl ?_
          refine z_iinc C 4 (a3 + (1 : Int32)) [(3, zi (a3 + (1 : Int32))), (2, zi ((zI S 74 (((182 : Int32) + ((2 : Int32) * a3)) + (1 : Int32)).toNatClampNeg) - (zI S 90 r5.toNatClampNeg))), (4, zi ((zI S 74 (((182 : Int32) + ((2 : Int32) * a3)) + (1 : Int32)).toNatClampNeg) - (zI S 90 r5.toNatClampNeg))), (0, zr (some 72)), (1, zi a1)] rfl d_M_beginsAt_74 (by first | rfl | decide) (by decide) rfl ?_
          refine z_goto C 4 d_M_beginsAt_77 (by decide) ?_
          refine zq_lsub [3, 4, 1, 0] [(0, zr (some 72)), (1, zi a1), (2, zi ((zI S 74 (((182 : Int32) + ((2 : Int32) * a3)) + (1 : Int32)).toNatClampNeg) - (zI S 90 r5.toNatClampNeg))), (3, zi (a3 + (1 : Int32)))] rfl ?_
          exact ih a1 ((zI S 74 (((182 : Int32) + ((2 : Int32) * a3)) + (1 : Int32)).toNatClampNeg) - (zI S 90 r5.toNatClampNeg)) (a3 + (1 : Int32)) S h
        · refine z_if_lef C 71 c8 d_M_beginsAt_60 (by decide) ?_
          refine z_iload C 0 rfl d_M_beginsAt_63 ?_
          refine z_iload_n C 3 rfl d_M_beginsAt_65 rfl ?_
          rcases zite h with ⟨c9, h⟩ | ⟨c9, h⟩
          · refine z_icmp_eqt C 71 c9 d_M_beginsAt_66 (by decide) ?_
            refine z_iload C 0 rfl d_M_beginsAt_71 ?_
            refine z_istore_n C [(2, zi ((zI S 74 (((182 : Int32) + ((2 : Int32) * a3)) + (1 : Int32)).toNatClampNeg) - (zI S 90 r5.toNatClampNeg))), (4, zi ((zI S 74 (((182 : Int32) + ((2 : Int32) * a3)) + (1 : Int32)).toNatClampNeg) - (zI S 90 r5.toNatClampNeg))), (0, zr (some 72)), (1, zi a1), (3, zi a3)] d_M_beginsAt_73 rfl (by decide) rfl ?_
            refine z_iinc C 4 (a3 + (1 : Int32)) [(3, zi (a3 + (1 : Int32))), (2, zi ((zI S 74 (((182 : Int32) + ((2 : Int32) * a3)) + (1 : Int32)).toNatClampNeg) - (zI S 90 r5.toNatClampNeg))), (4, zi ((zI S 74 (((182 : Int32) + ((2 : Int32) * a3)) + (1 : Int32)).toNatClampNeg) - (zI S 90 r5.toNatClampNeg))), (0, zr (some 72)), (1, zi a1)] rfl d_M_beginsAt_74 (by first | rfl | decide) (by decide) rfl ?_
            refine z_goto C 4 d_M_beginsAt_77 (by decide) ?_
            refine zq_lsub [3, 4, 1, 0] [(0, zr (some 72)), (1, zi a1), (2, zi ((zI S 74 (((182 : Int32) + ((2 : Int32) * a3)) + (1 : Int32)).toNatClampNeg) - (zI S 90 r5.toNatClampNeg))), (3, zi (a3 + (1 : Int32)))] rfl ?_
            exact ih a1 ((zI S 74 (((182 : Int32) + ((2 : Int32) * a3)) + (1 : Int32)).toNatClampNeg) - (zI S 90 r5.toNatClampNeg)) (a3 + (1 : Int32)) S h
          · refine z_icmp_eqf C 71 c9 d_M_beginsAt_66 (by decide) ?_
            refine z_iconst C (-1 : Int32) (by decide) d_M_beginsAt_69 ?_
            cases h
            exact z_iret C .int hret rfl ⟨Nat.zero_le _, Nat.zero_le _⟩ d_M_beginsAt_70
set_option maxRecDepth 100000 in
set_option maxHeartbeats 4000000 in
theorem m_M_beginsAt (l : Launch) {fu : Nat} {a1 : Int32} {S : zSt} {r : Int32} (h : f_M_beginsAt fu a1 S = some r) : zPM l y_M_beginsAt b_M_beginsAt 5 (some .int) rm_M_beginsAt true true [zr (some 72), zi a1] S (some (zi r)) S := by
  refine zPM_of (by decide) (Nat.le_of_ble_eq_true rfl) (fun p e s m args below meth c G C hret hname => ?_)
  unfold f_M_beginsAt at h
  refine (?_ : zJ p l e rm_M_beginsAt s m args below meth c G true 5 0 0 (zQm below G args s rm_M_beginsAt true (some (zi r)) S) S 0 [(0, zr (some 72)), (1, zi a1)] [])
  refine z_iconst C (-1 : Int32) (by decide) d_M_beginsAt_0 ?_
  refine z_istore_n C [(2, zi (-1 : Int32)), (0, zr (some 72)), (1, zi a1)] d_M_beginsAt_1 rfl (by decide) rfl ?_
  refine z_iconst C (0 : Int32) (by decide) d_M_beginsAt_2 ?_
  refine z_istore_n C [(3, zi (0 : Int32)), (2, zi (-1 : Int32)), (0, zr (some 72)), (1, zi a1)] d_M_beginsAt_3 rfl (by decide) rfl ?_
  refine zq_lsub [2, 3, 1, 0] [(0, zr (some 72)), (1, zi a1), (2, zi (-1 : Int32)), (3, zi (0 : Int32))] rfl ?_
  exact c_M_beginsAt_4 C hret fu  a1 (-1 : Int32) (0 : Int32) S h
def f_M_canBeNow_8 (fu : Nat) : Nat → Int32 → Int32 → zSt → Option (Int32 × zSt)
  | 0, _, _, _ => none
  | n + 1, a1, a2, S => zb1 (f_M_springMany S) (fun r2 => if r2 ≤ a2 then some (a1, S) else zb1 (f_M_beginsAt fu a2 S) (fun r5 => if r5 = (-1 : Int32) then f_M_canBeNow_8 fu n (a1 ||| (0 : Int32)) (a2 + (1 : Int32)) S else f_M_canBeNow_8 fu n (a1 ||| ((1 : Int32) <<< (a2 &&& 31))) (a2 + (1 : Int32)) S))
def f_M_canBeNow (fu : Nat) (S : zSt) : Option (Int32 × zSt) := zb1 (f_M_laysSoon fu S) (fun S2 => f_M_canBeNow_8 fu fu (0 : Int32) (0 : Int32) S2)
set_option maxRecDepth 100000 in
set_option maxHeartbeats 4000000 in
theorem c_M_canBeNow_8 {p : Program} {l : Launch} {e : Env} {s : State} {m : MethodId} {args : Array Value} {below : List Frame} {meth : Method} {c : Code} {G : zG} (C : zC p s m args meth c G b_M_canBeNow 3 y_M_canBeNow.cls) (hret : meth.sig.returnType = (some .int)) {fu : Nat} {r : Int32} {S1 : zSt} : ∀ (n : Nat) (a1 : Int32) (a2 : Int32) (S : zSt) , f_M_canBeNow_8 fu n a1 a2 S = some (r, S1) → zJ p l e rm_M_canBeNow s m args below meth c G true 3 0 0 (zQm below G args s rm_M_canBeNow true (some (zi r)) S1) S 8 [(0, zr (some 72)), (1, zi a1), (2, zi a2)] [] := by
  intro n
  induction n with
  | zero =>
    intro a1 a2 S h
    cases h
  | succ n ih =>
    intro a1 a2 S h
    rw [f_M_canBeNow_8] at h
    refine z_iload_n C 2 rfl d_M_canBeNow_8 rfl ?_
    refine z_aload_n C 0 rfl d_M_canBeNow_9 rfl ?_
    obtain ⟨r2, h1, h⟩ := zb1_some h
    refine z_cV C 11 (by decide) (m_M_springMany l h1) mf_M_springMany lk_11_118 in_M_springMany se_M_springMany rfl zo_72 zk_72 ⟨rfl, rfl⟩ ⟨by decide, by decide⟩ ⟨Nat.zero_le _, Nat.zero_le _⟩ rfl _ [zi a2] rfl (Nat.le_of_ble_eq_true rfl) d_M_canBeNow_10 ?_
    rcases zite h with ⟨c3, h⟩ | ⟨c3, h⟩
    · refine z_icmp_get C 41 c3 d_M_canBeNow_13 (by decide) ?_
      refine z_iload_n C 1 rfl d_M_canBeNow_41 rfl ?_
      cases h
      exact z_iret C .int hret rfl ⟨Nat.zero_le _, Nat.zero_le _⟩ d_M_canBeNow_42
    · refine z_icmp_gef C 41 c3 d_M_canBeNow_13 (by decide) ?_
      refine z_iload_n C 1 rfl d_M_canBeNow_16 rfl ?_
      refine z_aload_n C 0 rfl d_M_canBeNow_17 rfl ?_
      refine z_iload_n C 2 rfl d_M_canBeNow_18 rfl ?_
      obtain ⟨r5, h4, h⟩ := zb1_some h
      refine z_cV C 11 (by decide) (m_M_beginsAt l h4) mf_M_beginsAt lk_11_418 in_M_beginsAt se_M_beginsAt rfl zo_72 zk_72 ⟨rfl, rfl⟩ ⟨by decide, by decide⟩ ⟨Nat.zero_le _, Nat.zero_le _⟩ rfl _ [zi a1] rfl (Nat.le_of_ble_eq_true rfl) d_M_canBeNow_19 ?_
      refine z_iconst C (-1 : Int32) (by decide) d_M_canBeNow_22 ?_
      rcases zite h with ⟨c6, h⟩ | ⟨c6, h⟩
      · refine z_icmp_nef C 30 c6 d_M_canBeNow_23 (by decide) ?_
        refine z_iconst C (0 : Int32) (by decide) d_M_canBeNow_26 ?_
        refine z_goto C 33 d_M_canBeNow_27 (by decide) ?_
        refine z_ior C d_M_canBeNow_33 ?_
        refine z_istore_n C [(1, zi (a1 ||| (0 : Int32))), (0, zr (some 72)), (2, zi a2)] d_M_canBeNow_34 rfl (by decide) rfl ?_
        refine z_iinc C 2 (a2 + (1 : Int32)) [(2, zi (a2 + (1 : Int32))), (1, zi (a1 ||| (0 : Int32))), (0, zr (some 72))] rfl d_M_canBeNow_35 (by first | rfl | decide) (by decide) rfl ?_
        refine z_goto C 8 d_M_canBeNow_38 (by decide) ?_
        refine zq_lsub [2, 1, 0] [(0, zr (some 72)), (1, zi (a1 ||| (0 : Int32))), (2, zi (a2 + (1 : Int32)))] rfl ?_
        exact ih (a1 ||| (0 : Int32)) (a2 + (1 : Int32)) S h
      · refine z_icmp_net C 30 c6 d_M_canBeNow_23 (by decide) ?_
        refine z_iconst C (1 : Int32) (by decide) d_M_canBeNow_30 ?_
        refine z_iload_n C 2 rfl d_M_canBeNow_31 rfl ?_
        refine z_ishl C d_M_canBeNow_32 ?_
        refine z_ior C d_M_canBeNow_33 ?_
        refine z_istore_n C [(1, zi (a1 ||| ((1 : Int32) <<< (a2 &&& 31)))), (0, zr (some 72)), (2, zi a2)] d_M_canBeNow_34 rfl (by decide) rfl ?_
        refine z_iinc C 2 (a2 + (1 : Int32)) [(2, zi (a2 + (1 : Int32))), (1, zi (a1 ||| ((1 : Int32) <<< (a2 &&& 31)))), (0, zr (some 72))] rfl d_M_canBeNow_35 (by first | rfl | decide) (by decide) rfl ?_
        refine z_goto C 8 d_M_canBeNow_38 (by decide) ?_
        refine zq_lsub [2, 1, 0] [(0, zr (some 72)), (1, zi (a1 ||| ((1 : Int32) <<< (a2 &&& 31)))), (2, zi (a2 + (1 : Int32)))] rfl ?_
        exact ih (a1 ||| ((1 : Int32) <<< (a2 &&& 31))) (a2 + (1 : Int32)) S h
set_option maxRecDepth 100000 in
set_option maxHeartbeats 4000000 in
theorem m_M_canBeNow (l : Launch) {fu : Nat} {S : zSt} {r : Int32} {S1 : zSt} (h : f_M_canBeNow fu  S = some (r, S1)) : zPM l y_M_canBeNow b_M_canBeNow 3 (some .int) rm_M_canBeNow true true [zr (some 72)] S (some (zi r)) S1 := by
  refine zPM_of (by decide) (Nat.le_of_ble_eq_true rfl) (fun p e s m args below meth c G C hret hname => ?_)
  unfold f_M_canBeNow at h
  refine (?_ : zJ p l e rm_M_canBeNow s m args below meth c G true 3 0 0 (zQm below G args s rm_M_canBeNow true (some (zi r)) S1) S 0 [(0, zr (some 72))] [])
  refine z_aload_n C 0 rfl d_M_canBeNow_0 rfl ?_
  obtain ⟨S2, h1, h⟩ := zb1_some h
  refine z_cV C 11 (by decide) (m_M_laysSoon l h1) mf_M_laysSoon lk_11_375 in_M_laysSoon se_M_laysSoon rfl zo_72 zk_72 ⟨rfl, rfl⟩ ⟨by decide, by decide⟩ ⟨Nat.zero_le _, Nat.zero_le _⟩ rfl _ [] rfl (Nat.le_of_ble_eq_true rfl) d_M_canBeNow_1 ?_
  refine z_iconst C (0 : Int32) (by decide) d_M_canBeNow_4 ?_
  refine z_istore_n C [(1, zi (0 : Int32)), (0, zr (some 72))] d_M_canBeNow_5 rfl (by decide) rfl ?_
  refine z_iconst C (0 : Int32) (by decide) d_M_canBeNow_6 ?_
  refine z_istore_n C [(2, zi (0 : Int32)), (1, zi (0 : Int32)), (0, zr (some 72))] d_M_canBeNow_7 rfl (by decide) rfl ?_
  refine zq_lsub [2, 1, 0] [(0, zr (some 72)), (1, zi (0 : Int32)), (2, zi (0 : Int32))] rfl ?_
  exact c_M_canBeNow_8 C hret fu  (0 : Int32) (0 : Int32) S2 h
def f_M_canBe (fu : Nat) (S : zSt) : Option (Int32 × zSt) := zb2 (f_M_canBeNow fu S) (fun r2 S3 => some (r2, S3))
set_option maxRecDepth 100000 in
set_option maxHeartbeats 4000000 in
theorem m_M_canBe (l : Launch) {fu : Nat} {S : zSt} {r : Int32} {S1 : zSt} (h : f_M_canBe fu  S = some (r, S1)) : zPM l y_M_canBe b_M_canBe 1 (some .int) rm_M_canBe true true [zr (some 72)] S (some (zi r)) S1 := by
  refine zPM_of (by decide) (Nat.le_of_ble_eq_true rfl) (fun p e s m args below meth c G C hret hname => ?_)
  unfold f_M_canBe at h
  refine (?_ : zJ p l e rm_M_canBe s m args below meth c G true 1 0 0 (zQm below G args s rm_M_canBe true (some (zi r)) S1) S 0 [(0, zr (some 72))] [])
  refine z_aload_n C 0 rfl d_M_canBe_0 rfl ?_
  obtain ⟨r2, S3, h1, h⟩ := zb2_some h
  refine z_cV C 11 (by decide) (m_M_canBeNow l h1) mf_M_canBeNow lk_11_421 in_M_canBeNow se_M_canBeNow rfl zo_72 zk_72 ⟨rfl, rfl⟩ ⟨by decide, by decide⟩ ⟨Nat.zero_le _, Nat.zero_le _⟩ rfl _ [] rfl (Nat.le_of_ble_eq_true rfl) d_M_canBe_1 ?_
  cases h
  exact z_iret C .int hret rfl ⟨Nat.zero_le _, Nat.zero_le _⟩ d_M_canBe_4
def f_M_since (fu : Nat) (a1 : Int32) (S : zSt) : Option (Int32 × zSt) := zb1 (f_M_isSpring a1 S) (fun r2 => if r2 = 0 then some ((-1 : Int32), S) else if (zI S 74 (197 : Int32).toNatClampNeg) = 0 then some ((-1 : Int32), S) else zb1 (f_M_laysSoon fu S) (fun S6 => zb1 (f_M_beginsAt fu a1 S6) (fun r8 => some (r8, S6))))
set_option maxRecDepth 100000 in
set_option maxHeartbeats 4000000 in
theorem m_M_since (l : Launch) {fu : Nat} {a1 : Int32} {S : zSt} {r : Int32} {S1 : zSt} (h : f_M_since fu a1 S = some (r, S1)) : zPM l y_M_since b_M_since 2 (some .int) rm_M_since true true [zr (some 72), zi a1] S (some (zi r)) S1 := by
  refine zPM_of (by decide) (Nat.le_of_ble_eq_true rfl) (fun p e s m args below meth c G C hret hname => ?_)
  unfold f_M_since at h
  refine (?_ : zJ p l e rm_M_since s m args below meth c G true 2 0 0 (zQm below G args s rm_M_since true (some (zi r)) S1) S 0 [(0, zr (some 72)), (1, zi a1)] [])
  refine z_aload_n C 0 rfl d_M_since_0 rfl ?_
  refine z_iload_n C 1 rfl d_M_since_1 rfl ?_
  obtain ⟨r2, h1, h⟩ := zb1_some h
  refine z_cV C 11 (by decide) (m_M_isSpring l h1) mf_M_isSpring lk_11_122 in_M_isSpring se_M_isSpring rfl zo_72 zk_72 ⟨rfl, rfl⟩ ⟨by decide, by decide⟩ ⟨Nat.zero_le _, Nat.zero_le _⟩ rfl _ [] rfl (Nat.le_of_ble_eq_true rfl) d_M_since_2 ?_
  rcases zite h with ⟨c3, h⟩ | ⟨c3, h⟩
  · refine z_if_eqt C 19 c3 d_M_since_5 (by decide) ?_
    refine z_iconst C (-1 : Int32) (by decide) d_M_since_19 ?_
    cases h
    exact z_iret C .int hret rfl ⟨Nat.zero_le _, Nat.zero_le _⟩ d_M_since_20
  · refine z_if_eqf C 19 c3 d_M_since_5 (by decide) ?_
    refine z_aload_n C 0 rfl d_M_since_8 rfl ?_
    refine z_getF2 C 11 (by decide) 2 (by decide) rfl 2 5807 rfl (74) rfl zp_72 zk_72 zfl_11_24 d_M_since_9 ?_
    refine z_sipush C (197 : Int32) (by decide) d_M_since_12 ?_
    refine z_fact (fun hSR => ?_)
    refine z_ialoadS C zo_74 zk_74 (za_74 hSR) (by decide) d_M_since_15 ?_
    rcases zite h with ⟨c4, h⟩ | ⟨c4, h⟩
    · refine z_if_nef C 21 c4 d_M_since_16 (by decide) ?_
      refine z_iconst C (-1 : Int32) (by decide) d_M_since_19 ?_
      cases h
      exact z_iret C .int hret rfl ⟨Nat.zero_le _, Nat.zero_le _⟩ d_M_since_20
    · refine z_if_net C 21 c4 d_M_since_16 (by decide) ?_
      refine z_aload_n C 0 rfl d_M_since_21 rfl ?_
      obtain ⟨S6, h5, h⟩ := zb1_some h
      refine z_cV C 11 (by decide) (m_M_laysSoon l h5) mf_M_laysSoon lk_11_375 in_M_laysSoon se_M_laysSoon rfl zo_72 zk_72 ⟨rfl, rfl⟩ ⟨by decide, by decide⟩ ⟨Nat.zero_le _, Nat.zero_le _⟩ rfl _ [] rfl (Nat.le_of_ble_eq_true rfl) d_M_since_22 ?_
      refine z_aload_n C 0 rfl d_M_since_25 rfl ?_
      refine z_iload_n C 1 rfl d_M_since_26 rfl ?_
      obtain ⟨r8, h7, h⟩ := zb1_some h
      refine z_cV C 11 (by decide) (m_M_beginsAt l h7) mf_M_beginsAt lk_11_418 in_M_beginsAt se_M_beginsAt rfl zo_72 zk_72 ⟨rfl, rfl⟩ ⟨by decide, by decide⟩ ⟨Nat.zero_le _, Nat.zero_le _⟩ rfl _ [] rfl (Nat.le_of_ble_eq_true rfl) d_M_since_27 ?_
      cases h
      exact z_iret C .int hret rfl ⟨Nat.zero_le _, Nat.zero_le _⟩ d_M_since_30
def f_M_dayAt (fu : Nat) (a1 : Int32) (a2 : Int32) (S : zSt) : Option Int32 := zb1 (f_M_soonOr a1 a2 S) (fun r2 => if r2 = (-1 : Int32) then some (-1 : Int32) else zb1 (f_M_beginsAt fu a1 S) (fun r5 => zb1 (f_M_soonOr a1 a2 S) (fun r7 => some (r5 + r7))))
set_option maxRecDepth 100000 in
set_option maxHeartbeats 4000000 in
theorem m_M_dayAt (l : Launch) {fu : Nat} {a1 : Int32} {a2 : Int32} {S : zSt} {r : Int32} (h : f_M_dayAt fu a1 a2 S = some r) : zPM l y_M_dayAt b_M_dayAt 3 (some .int) rm_M_dayAt true true [zr (some 72), zi a1, zi a2] S (some (zi r)) S := by
  refine zPM_of (by decide) (Nat.le_of_ble_eq_true rfl) (fun p e s m args below meth c G C hret hname => ?_)
  unfold f_M_dayAt at h
  refine (?_ : zJ p l e rm_M_dayAt s m args below meth c G true 3 0 0 (zQm below G args s rm_M_dayAt true (some (zi r)) S) S 0 [(0, zr (some 72)), (1, zi a1), (2, zi a2)] [])
  refine z_aload_n C 0 rfl d_M_dayAt_0 rfl ?_
  refine z_iload_n C 1 rfl d_M_dayAt_1 rfl ?_
  refine z_iload_n C 2 rfl d_M_dayAt_2 rfl ?_
  obtain ⟨r2, h1, h⟩ := zb1_some h
  refine z_cV C 11 (by decide) (m_M_soonOr l h1) mf_M_soonOr lk_11_378 in_M_soonOr se_M_soonOr rfl zo_72 zk_72 ⟨rfl, rfl⟩ ⟨by decide, by decide⟩ ⟨Nat.zero_le _, Nat.zero_le _⟩ rfl _ [] rfl (Nat.le_of_ble_eq_true rfl) d_M_dayAt_3 ?_
  refine z_iconst C (-1 : Int32) (by decide) d_M_dayAt_6 ?_
  rcases zite h with ⟨c3, h⟩ | ⟨c3, h⟩
  · refine z_icmp_nef C 14 c3 d_M_dayAt_7 (by decide) ?_
    refine z_iconst C (-1 : Int32) (by decide) d_M_dayAt_10 ?_
    refine z_goto C 26 d_M_dayAt_11 (by decide) ?_
    cases h
    exact z_iret C .int hret rfl ⟨Nat.zero_le _, Nat.zero_le _⟩ d_M_dayAt_26
  · refine z_icmp_net C 14 c3 d_M_dayAt_7 (by decide) ?_
    refine z_aload_n C 0 rfl d_M_dayAt_14 rfl ?_
    refine z_iload_n C 1 rfl d_M_dayAt_15 rfl ?_
    obtain ⟨r5, h4, h⟩ := zb1_some h
    refine z_cV C 11 (by decide) (m_M_beginsAt l h4) mf_M_beginsAt lk_11_418 in_M_beginsAt se_M_beginsAt rfl zo_72 zk_72 ⟨rfl, rfl⟩ ⟨by decide, by decide⟩ ⟨Nat.zero_le _, Nat.zero_le _⟩ rfl _ [] rfl (Nat.le_of_ble_eq_true rfl) d_M_dayAt_16 ?_
    refine z_aload_n C 0 rfl d_M_dayAt_19 rfl ?_
    refine z_iload_n C 1 rfl d_M_dayAt_20 rfl ?_
    refine z_iload_n C 2 rfl d_M_dayAt_21 rfl ?_
    obtain ⟨r7, h6, h⟩ := zb1_some h
    refine z_cV C 11 (by decide) (m_M_soonOr l h6) mf_M_soonOr lk_11_378 in_M_soonOr se_M_soonOr rfl zo_72 zk_72 ⟨rfl, rfl⟩ ⟨by decide, by decide⟩ ⟨Nat.zero_le _, Nat.zero_le _⟩ rfl _ [zi r5] rfl (Nat.le_of_ble_eq_true rfl) d_M_dayAt_22 ?_
    refine z_iadd C d_M_dayAt_25 ?_
    cases h
    exact z_iret C .int hret rfl ⟨Nat.zero_le _, Nat.zero_le _⟩ d_M_dayAt_26
def f_M_mostAlike_80 (fu : Nat) (k5 : Int32 → Int32 → Int32 → Int32 → zSt → Option Int32) (a1 : Int32) (a2 : Int32) (a3 : Int32) (a4 : Int32) (a5 : Int32) (S : zSt) : Option Int32 := zb1 (f_M_greater a3 a5) (fun r2 => k5 a1 a2 r2 (a4 + (1 : Int32)) S)
def f_M_mostAlike_20 (fu : Nat) (k5 : Int32 → Int32 → Int32 → Int32 → zSt → Option Int32) : Nat → Int32 → Int32 → Int32 → Int32 → Int32 → Int32 → zSt → Option Int32
  | 0, _, _, _, _, _, _, _ => none
  | n + 1, a1, a2, a3, a4, a5, a6, S => zb1 (f_M_springMany S) (fun r2 => if r2 ≤ a6 then f_M_mostAlike_80 fu k5 a1 a2 a3 a4 a5 S else zb1 (f_M_isIn a1 a6) (fun r5 => if r5 = 0 then f_M_mostAlike_20 fu k5 n a1 a2 a3 a4 (a5 + (0 : Int32)) (a6 + (1 : Int32)) S else zb1 (f_M_isIn a1 a4) (fun r8 => if r8 = 0 then f_M_mostAlike_20 fu k5 n a1 a2 a3 a4 (a5 + (0 : Int32)) (a6 + (1 : Int32)) S else zb1 (f_M_dayAt fu a4 a2 S) (fun r11 => zb1 (f_M_dayAt fu a6 a2 S) (fun r13 => if r11 = r13 then f_M_mostAlike_20 fu k5 n a1 a2 a3 a4 (a5 + (1 : Int32)) (a6 + (1 : Int32)) S else f_M_mostAlike_20 fu k5 n a1 a2 a3 a4 (a5 + (0 : Int32)) (a6 + (1 : Int32)) S)))))
def f_M_mostAlike_5 (fu : Nat) : Nat → Int32 → Int32 → Int32 → Int32 → zSt → Option Int32
  | 0, _, _, _, _, _ => none
  | n + 1, a1, a2, a3, a4, S => zb1 (f_M_springMany S) (fun r2 => if r2 ≤ a4 then some a3 else f_M_mostAlike_20 fu (f_M_mostAlike_5 fu n) fu a1 a2 a3 a4 (0 : Int32) (0 : Int32) S)
def f_M_mostAlike (fu : Nat) (a1 : Int32) (a2 : Int32) (S : zSt) : Option Int32 := f_M_mostAlike_5 fu fu a1 a2 (0 : Int32) (0 : Int32) S
set_option maxRecDepth 100000 in
set_option maxHeartbeats 4000000 in
theorem c_M_mostAlike_80 {p : Program} {l : Launch} {e : Env} {s : State} {m : MethodId} {args : Array Value} {below : List Frame} {meth : Method} {c : Code} {G : zG} (C : zC p s m args meth c G b_M_mostAlike 7 y_M_mostAlike.cls) (hret : meth.sig.returnType = (some .int)) {fu : Nat} {r : Int32} {k5 : Int32 → Int32 → Int32 → Int32 → zSt → Option Int32} (hk5 : ∀ (a1 : Int32) (a2 : Int32) (a3 : Int32) (a4 : Int32) (S : zSt) , k5 a1 a2 a3 a4 S = some r → zJ p l e rm_M_mostAlike s m args below meth c G true 7 0 0 (zQm below G args s rm_M_mostAlike true (some (zi r)) S) S 5 [(0, zr (some 72)), (1, zi a1), (2, zi a2), (3, zi a3), (4, zi a4)] []) : ∀ (a1 : Int32) (a2 : Int32) (a3 : Int32) (a4 : Int32) (a5 : Int32) (S : zSt) , f_M_mostAlike_80 fu k5 a1 a2 a3 a4 a5 S = some r → zJ p l e rm_M_mostAlike s m args below meth c G true 7 0 0 (zQm below G args s rm_M_mostAlike true (some (zi r)) S) S 80 [(0, zr (some 72)), (1, zi a1), (2, zi a2), (3, zi a3), (4, zi a4), (5, zi a5)] [] := by
  intro a1 a2 a3 a4 a5 S h
  unfold f_M_mostAlike_80 at h
  refine z_iload_n C 3 rfl d_M_mostAlike_80 rfl ?_
  refine z_iload C 5 rfl d_M_mostAlike_81 ?_
  obtain ⟨r2, h1, h⟩ := zb1_some h
  refine z_cS C (m_M_greater l h1) mf_M_greater lk_11_384 st_M_greater ⟨rfl, rfl⟩ ⟨by decide, by decide⟩ ⟨Nat.zero_le _, Nat.zero_le _⟩ rfl _ [] rfl (Nat.le_of_ble_eq_true rfl) d_M_mostAlike_83 ?_
  refine z_istore_n C [(3, zi r2), (0, zr (some 72)), (1, zi a1), (2, zi a2), (4, zi a4), (5, zi a5)] d_M_mostAlike_86 rfl (by decide) rfl ?_
  refine z_iinc C 4 (a4 + (1 : Int32)) [(4, zi (a4 + (1 : Int32))), (3, zi r2), (0, zr (some 72)), (1, zi a1), (2, zi a2), (5, zi a5)] rfl d_M_mostAlike_87 (by first | rfl | decide) (by decide) rfl ?_
  refine z_goto C 5 d_M_mostAlike_90 (by decide) ?_
  refine zq_lsub [2, 3, 4, 1, 0] [(0, zr (some 72)), (1, zi a1), (2, zi a2), (3, zi r2), (4, zi (a4 + (1 : Int32)))] rfl ?_
  exact hk5 a1 a2 r2 (a4 + (1 : Int32)) S h
set_option maxRecDepth 100000 in
set_option maxHeartbeats 4000000 in
theorem c_M_mostAlike_20 {p : Program} {l : Launch} {e : Env} {s : State} {m : MethodId} {args : Array Value} {below : List Frame} {meth : Method} {c : Code} {G : zG} (C : zC p s m args meth c G b_M_mostAlike 7 y_M_mostAlike.cls) (hret : meth.sig.returnType = (some .int)) {fu : Nat} {r : Int32} {k5 : Int32 → Int32 → Int32 → Int32 → zSt → Option Int32} (hk5 : ∀ (a1 : Int32) (a2 : Int32) (a3 : Int32) (a4 : Int32) (S : zSt) , k5 a1 a2 a3 a4 S = some r → zJ p l e rm_M_mostAlike s m args below meth c G true 7 0 0 (zQm below G args s rm_M_mostAlike true (some (zi r)) S) S 5 [(0, zr (some 72)), (1, zi a1), (2, zi a2), (3, zi a3), (4, zi a4)] []) : ∀ (n : Nat) (a1 : Int32) (a2 : Int32) (a3 : Int32) (a4 : Int32) (a5 : Int32) (a6 : Int32) (S : zSt) , f_M_mostAlike_20 fu k5 n a1 a2 a3 a4 a5 a6 S = some r → zJ p l e rm_M_mostAlike s m args below meth c G true 7 0 0 (zQm below G args s rm_M_mostAlike true (some (zi r)) S) S 20 [(0, zr (some 72)), (1, zi a1), (2, zi a2), (3, zi a3), (4, zi a4), (5, zi a5), (6, zi a6)] [] := by
  intro n
  induction n with
  | zero =>
    intro a1 a2 a3 a4 a5 a6 S h
    cases h
  | succ n ih =>
    intro a1 a2 a3 a4 a5 a6 S h
    rw [f_M_mostAlike_20] at h
    refine z_iload C 6 rfl d_M_mostAlike_20 ?_
    refine z_aload_n C 0 rfl d_M_mostAlike_22 rfl ?_
    obtain ⟨r2, h1, h⟩ := zb1_some h
    refine z_cV C 11 (by decide) (m_M_springMany l h1) mf_M_springMany lk_11_118 in_M_springMany se_M_springMany rfl zo_72 zk_72 ⟨rfl, rfl⟩ ⟨by decide, by decide⟩ ⟨Nat.zero_le _, Nat.zero_le _⟩ rfl _ [zi a6] rfl (Nat.le_of_ble_eq_true rfl) d_M_mostAlike_23 ?_
    rcases zite h with ⟨c3, h⟩ | ⟨c3, h⟩
    · refine z_icmp_get C 80 c3 d_M_mostAlike_26 (by decide) ?_
      refine zq_lsub [0, 1, 2, 3, 4, 5] [(0, zr (some 72)), (1, zi a1), (2, zi a2), (3, zi a3), (4, zi a4), (5, zi a5)] rfl ?_
      exact c_M_mostAlike_80 C hret hk5  a1 a2 a3 a4 a5 S h
    · refine z_icmp_gef C 80 c3 d_M_mostAlike_26 (by decide) ?_
      refine z_iload C 5 rfl d_M_mostAlike_29 ?_
      refine z_iload_n C 1 rfl d_M_mostAlike_31 rfl ?_
      refine z_iload C 6 rfl d_M_mostAlike_32 ?_
      obtain ⟨r5, h4, h⟩ := zb1_some h
      refine z_cS C (m_M_isIn l h4) mf_M_isIn lk_11_390 st_M_isIn ⟨rfl, rfl⟩ ⟨by decide, by decide⟩ ⟨Nat.zero_le _, Nat.zero_le _⟩ rfl _ [zi a5] rfl (Nat.le_of_ble_eq_true rfl) d_M_mostAlike_34 ?_
      rcases zite h with ⟨c6, h⟩ | ⟨c6, h⟩
      · refine z_if_eqt C 70 c6 d_M_mostAlike_37 (by decide) ?_
        refine z_iconst C (0 : Int32) (by decide) d_M_mostAlike_70 ?_
        refine z_iadd C d_M_mostAlike_71 ?_
        refine z_istore C [(5, zi (a5 + (0 : Int32))), (0, zr (some 72)), (1, zi a1), (2, zi a2), (3, zi a3), (4, zi a4), (6, zi a6)] d_M_mostAlike_72 (by decide) rfl ?_
        refine z_iinc C 6 (a6 + (1 : Int32)) [(6, zi (a6 + (1 : Int32))), (5, zi (a5 + (0 : Int32))), (0, zr (some 72)), (1, zi a1), (2, zi a2), (3, zi a3), (4, zi a4)] rfl d_M_mostAlike_74 (by first | rfl | decide) (by decide) rfl ?_
        refine z_goto C 20 d_M_mostAlike_77 (by decide) ?_
        refine zq_lsub [2, 3, 4, 5, 6, 1, 0] [(0, zr (some 72)), (1, zi a1), (2, zi a2), (3, zi a3), (4, zi a4), (5, zi (a5 + (0 : Int32))), (6, zi (a6 + (1 : Int32)))] rfl ?_
        exact ih a1 a2 a3 a4 (a5 + (0 : Int32)) (a6 + (1 : Int32)) S h
      · refine z_if_eqf C 70 c6 d_M_mostAlike_37 (by decide) ?_
        refine z_iload_n C 1 rfl d_M_mostAlike_40 rfl ?_
        refine z_iload C 4 rfl d_M_mostAlike_41 ?_
        obtain ⟨r8, h7, h⟩ := zb1_some h
        refine z_cS C (m_M_isIn l h7) mf_M_isIn lk_11_390 st_M_isIn ⟨rfl, rfl⟩ ⟨by decide, by decide⟩ ⟨Nat.zero_le _, Nat.zero_le _⟩ rfl _ [zi a5] rfl (Nat.le_of_ble_eq_true rfl) d_M_mostAlike_43 ?_
        rcases zite h with ⟨c9, h⟩ | ⟨c9, h⟩
        · refine z_if_eqt C 70 c9 d_M_mostAlike_46 (by decide) ?_
          refine z_iconst C (0 : Int32) (by decide) d_M_mostAlike_70 ?_
          refine z_iadd C d_M_mostAlike_71 ?_
          refine z_istore C [(5, zi (a5 + (0 : Int32))), (0, zr (some 72)), (1, zi a1), (2, zi a2), (3, zi a3), (4, zi a4), (6, zi a6)] d_M_mostAlike_72 (by decide) rfl ?_
          refine z_iinc C 6 (a6 + (1 : Int32)) [(6, zi (a6 + (1 : Int32))), (5, zi (a5 + (0 : Int32))), (0, zr (some 72)), (1, zi a1), (2, zi a2), (3, zi a3), (4, zi a4)] rfl d_M_mostAlike_74 (by first | rfl | decide) (by decide) rfl ?_
          refine z_goto C 20 d_M_mostAlike_77 (by decide) ?_
          refine zq_lsub [2, 3, 4, 5, 6, 1, 0] [(0, zr (some 72)), (1, zi a1), (2, zi a2), (3, zi a3), (4, zi a4), (5, zi (a5 + (0 : Int32))), (6, zi (a6 + (1 : Int32)))] rfl ?_
          exact ih a1 a2 a3 a4 (a5 + (0 : Int32)) (a6 + (1 : Int32)) S h
        · refine z_if_eqf C 70 c9 d_M_mostAlike_46 (by decide) ?_
          refine z_aload_n C 0 rfl d_M_mostAlike_49 rfl ?_
          refine z_iload C 4 rfl d_M_mostAlike_50 ?_
          refine z_iload_n C 2 rfl d_M_mostAlike_52 rfl ?_
          obtain ⟨r11, h10, h⟩ := zb1_some h
          refine z_cV C 11 (by decide) (m_M_dayAt l h10) mf_M_dayAt lk_11_424 in_M_dayAt se_M_dayAt rfl zo_72 zk_72 ⟨rfl, rfl⟩ ⟨by decide, by decide⟩ ⟨Nat.zero_le _, Nat.zero_le _⟩ rfl _ [zi a5] rfl (Nat.le_of_ble_eq_true rfl) d_M_mostAlike_53 ?_
          refine z_aload_n C 0 rfl d_M_mostAlike_56 rfl ?_
          refine z_iload C 6 rfl d_M_mostAlike_57 ?_
          refine z_iload_n C 2 rfl d_M_mostAlike_59 rfl ?_
          obtain ⟨r13, h12, h⟩ := zb1_some h
          refine z_cV C 11 (by decide) (m_M_dayAt l h12) mf_M_dayAt lk_11_424 in_M_dayAt se_M_dayAt rfl zo_72 zk_72 ⟨rfl, rfl⟩ ⟨by decide, by decide⟩ ⟨Nat.zero_le _, Nat.zero_le _⟩ rfl _ [zi r11, zi a5] rfl (Nat.le_of_ble_eq_true rfl) d_M_mostAlike_60 ?_
          rcases zite h with ⟨c14, h⟩ | ⟨c14, h⟩
          · refine z_icmp_nef C 70 c14 d_M_mostAlike_63 (by decide) ?_
            refine z_iconst C (1 : Int32) (by decide) d_M_mostAlike_66 ?_
            refine z_goto C 71 d_M_mostAlike_67 (by decide) ?_
            refine z_iadd C d_M_mostAlike_71 ?_
            refine z_istore C [(5, zi (a5 + (1 : Int32))), (0, zr (some 72)), (1, zi a1), (2, zi a2), (3, zi a3), (4, zi a4), (6, zi a6)] d_M_mostAlike_72 (by decide) rfl ?_
            refine z_iinc C 6 (a6 + (1 : Int32)) [(6, zi (a6 + (1 : Int32))), (5, zi (a5 + (1 : Int32))), (0, zr (some 72)), (1, zi a1), (2, zi a2), (3, zi a3), (4, zi a4)] rfl d_M_mostAlike_74 (by first | rfl | decide) (by decide) rfl ?_
            refine z_goto C 20 d_M_mostAlike_77 (by decide) ?_
            refine zq_lsub [2, 3, 4, 5, 6, 1, 0] [(0, zr (some 72)), (1, zi a1), (2, zi a2), (3, zi a3), (4, zi a4), (5, zi (a5 + (1 : Int32))), (6, zi (a6 + (1 : Int32)))] rfl ?_
            exact ih a1 a2 a3 a4 (a5 + (1 : Int32)) (a6 + (1 : Int32)) S h
          · refine z_icmp_net C 70 c14 d_M_mostAlike_63 (by decide) ?_
            refine z_iconst C (0 : Int32) (by decide) d_M_mostAlike_70 ?_
            refine z_iadd C d_M_mostAlike_71 ?_
            refine z_istore C [(5, zi (a5 + (0 : Int32))), (0, zr (some 72)), (1, zi a1), (2, zi a2), (3, zi a3), (4, zi a4), (6, zi a6)] d_M_mostAlike_72 (by decide) rfl ?_
            refine z_iinc C 6 (a6 + (1 : Int32)) [(6, zi (a6 + (1 : Int32))), (5, zi (a5 + (0 : Int32))), (0, zr (some 72)), (1, zi a1), (2, zi a2), (3, zi a3), (4, zi a4)] rfl d_M_mostAlike_74 (by first | rfl | decide) (by decide) rfl ?_
            refine z_goto C 20 d_M_mostAlike_77 (by decide) ?_
            refine zq_lsub [2, 3, 4, 5, 6, 1, 0] [(0, zr (some 72)), (1, zi a1), (2, zi a2), (3, zi a3), (4, zi a4), (5, zi (a5 + (0 : Int32))), (6, zi (a6 + (1 : Int32)))] rfl ?_
            exact ih a1 a2 a3 a4 (a5 + (0 : Int32)) (a6 + (1 : Int32)) S h
set_option maxRecDepth 100000 in
set_option maxHeartbeats 4000000 in
theorem c_M_mostAlike_5 {p : Program} {l : Launch} {e : Env} {s : State} {m : MethodId} {args : Array Value} {below : List Frame} {meth : Method} {c : Code} {G : zG} (C : zC p s m args meth c G b_M_mostAlike 7 y_M_mostAlike.cls) (hret : meth.sig.returnType = (some .int)) {fu : Nat} {r : Int32} : ∀ (n : Nat) (a1 : Int32) (a2 : Int32) (a3 : Int32) (a4 : Int32) (S : zSt) , f_M_mostAlike_5 fu n a1 a2 a3 a4 S = some r → zJ p l e rm_M_mostAlike s m args below meth c G true 7 0 0 (zQm below G args s rm_M_mostAlike true (some (zi r)) S) S 5 [(0, zr (some 72)), (1, zi a1), (2, zi a2), (3, zi a3), (4, zi a4)] [] := by
  intro n
  induction n with
  | zero =>
    intro a1 a2 a3 a4 S h
    cases h
  | succ n ih =>
    intro a1 a2 a3 a4 S h
    rw [f_M_mostAlike_5] at h
    refine z_iload C 4 rfl d_M_mostAlike_5 ?_
    refine z_aload_n C 0 rfl d_M_mostAlike_7 rfl ?_
    obtain ⟨r2, h1, h⟩ := zb1_some h
    refine z_cV C 11 (by decide) (m_M_springMany l h1) mf_M_springMany lk_11_118 in_M_springMany se_M_springMany rfl zo_72 zk_72 ⟨rfl, rfl⟩ ⟨by decide, by decide⟩ ⟨Nat.zero_le _, Nat.zero_le _⟩ rfl _ [zi a4] rfl (Nat.le_of_ble_eq_true rfl) d_M_mostAlike_8 ?_
    rcases zite h with ⟨c3, h⟩ | ⟨c3, h⟩
    · refine z_icmp_get C 93 c3 d_M_mostAlike_11 (by decide) ?_
      refine z_iload_n C 3 rfl d_M_mostAlike_93 rfl ?_
      cases h
      exact z_iret C .int hret rfl ⟨Nat.zero_le _, Nat.zero_le _⟩ d_M_mostAlike_94
    · refine z_icmp_gef C 93 c3 d_M_mostAlike_11 (by decide) ?_
      refine z_iconst C (0 : Int32) (by decide) d_M_mostAlike_14 ?_
      refine z_istore C [(5, zi (0 : Int32)), (0, zr (some 72)), (1, zi a1), (2, zi a2), (3, zi a3), (4, zi a4)] d_M_mostAlike_15 (by decide) rfl ?_
      refine z_iconst C (0 : Int32) (by decide) d_M_mostAlike_17 ?_
      refine z_istore C [(6, zi (0 : Int32)), (5, zi (0 : Int32)), (0, zr (some 72)), (1, zi a1), (2, zi a2), (3, zi a3), (4, zi a4)] d_M_mostAlike_18 (by decide) rfl ?_
      refine zq_lsub [2, 3, 4, 5, 6, 1, 0] [(0, zr (some 72)), (1, zi a1), (2, zi a2), (3, zi a3), (4, zi a4), (5, zi (0 : Int32)), (6, zi (0 : Int32))] rfl ?_
      exact c_M_mostAlike_20 C hret (fun z0 z1 z2 z3 zS zh => ih z0 z1 z2 z3 zS zh) fu  a1 a2 a3 a4 (0 : Int32) (0 : Int32) S h
set_option maxRecDepth 100000 in
set_option maxHeartbeats 4000000 in
theorem m_M_mostAlike (l : Launch) {fu : Nat} {a1 : Int32} {a2 : Int32} {S : zSt} {r : Int32} (h : f_M_mostAlike fu a1 a2 S = some r) : zPM l y_M_mostAlike b_M_mostAlike 7 (some .int) rm_M_mostAlike true true [zr (some 72), zi a1, zi a2] S (some (zi r)) S := by
  refine zPM_of (by decide) (Nat.le_of_ble_eq_true rfl) (fun p e s m args below meth c G C hret hname => ?_)
  unfold f_M_mostAlike at h
  refine (?_ : zJ p l e rm_M_mostAlike s m args below meth c G true 7 0 0 (zQm below G args s rm_M_mostAlike true (some (zi r)) S) S 0 [(0, zr (some 72)), (1, zi a1), (2, zi a2)] [])
  refine z_iconst C (0 : Int32) (by decide) d_M_mostAlike_0 ?_
  refine z_istore_n C [(3, zi (0 : Int32)), (0, zr (some 72)), (1, zi a1), (2, zi a2)] d_M_mostAlike_1 rfl (by decide) rfl ?_
  refine z_iconst C (0 : Int32) (by decide) d_M_mostAlike_2 ?_
  refine z_istore C [(4, zi (0 : Int32)), (3, zi (0 : Int32)), (0, zr (some 72)), (1, zi a1), (2, zi a2)] d_M_mostAlike_3 (by decide) rfl ?_
  refine zq_lsub [2, 3, 4, 1, 0] [(0, zr (some 72)), (1, zi a1), (2, zi a2), (3, zi (0 : Int32)), (4, zi (0 : Int32))] rfl ?_
  exact c_M_mostAlike_5 C hret fu  a1 a2 (0 : Int32) (0 : Int32) S h
def f_M_listen_70 (fu : Nat) (a1 : Int32) (a3 : Int32) (a4 : Int32) (S : zSt) : Option (Int32 × zSt) := if a3 = (-1 : Int32) then some (a3, S) else if a1 = 0 then some (a3, S) else some (a4, S)
def f_M_listen_25 (fu : Nat) : Nat → Int32 → Int32 → Int32 → Int32 → Int32 → zSt → Option (Int32 × zSt)
  | 0, _, _, _, _, _, _ => none
  | n + 1, a1, a2, a3, a4, a5, S => zb1 (f_M_springMany S) (fun r2 => if r2 ≤ a5 then f_M_listen_70 fu a1 a3 a4 S else if a2 = 0 then f_M_listen_70 fu a1 a3 a4 S else zb1 (f_M_mostAlike fu a2 a5 S) (fun r6 => if r6 < a4 then f_M_listen_25 fu n a1 a2 a5 r6 (a5 + (1 : Int32)) S else f_M_listen_25 fu n a1 a2 a3 a4 (a5 + (1 : Int32)) S))
def f_M_listen (fu : Nat) (a1 : Int32) (S : zSt) : Option (Int32 × zSt) := zb1 (f_M_lies a1 (0 : Int32) (1 : Int32)) (fun r2 => if r2 = 0 then some ((-1 : Int32), S) else zb2 (f_M_canBeNow fu S) (fun r5 S6 => f_M_listen_25 fu fu a1 r5 (-1 : Int32) (1000000 : Int32) (0 : Int32) S6))
set_option maxRecDepth 100000 in
set_option maxHeartbeats 4000000 in
theorem c_M_listen_70 {p : Program} {l : Launch} {e : Env} {s : State} {m : MethodId} {args : Array Value} {below : List Frame} {meth : Method} {c : Code} {G : zG} (C : zC p s m args meth c G b_M_listen 7 y_M_listen.cls) (hret : meth.sig.returnType = (some .int)) {fu : Nat} {r : Int32} {S1 : zSt} : ∀ (a1 : Int32) (a3 : Int32) (a4 : Int32) (S : zSt) , f_M_listen_70 fu a1 a3 a4 S = some (r, S1) → zJ p l e rm_M_listen s m args below meth c G true 7 0 0 (zQm below G args s rm_M_listen true (some (zi r)) S1) S 70 [(1, zi a1), (3, zi a3), (4, zi a4)] [] := by
  intro a1 a3 a4 S h
  unfold f_M_listen_70 at h
  refine z_iload_n C 1 rfl d_M_listen_70 rfl ?_
  refine z_iconst C (-1 : Int32) (by decide) d_M_listen_71 ?_
  rcases zite h with ⟨c1, h⟩ | ⟨c1, h⟩
  · refine z_icmp_eqt C 79 c1 d_M_listen_72 (by decide) ?_
    refine z_iload_n C 1 rfl d_M_listen_79 rfl ?_
    refine z_goto C 85 d_M_listen_80 (by decide) ?_
    cases h
    exact z_iret C .int hret rfl ⟨Nat.zero_le _, Nat.zero_le _⟩ d_M_listen_85
  · refine z_icmp_eqf C 79 c1 d_M_listen_72 (by decide) ?_
    refine z_iload_n C 0 rfl d_M_listen_75 rfl ?_
    rcases zite h with ⟨c2, h⟩ | ⟨c2, h⟩
    · refine z_if_nef C 83 c2 d_M_listen_76 (by decide) ?_
      refine z_iload_n C 1 rfl d_M_listen_79 rfl ?_
      refine z_goto C 85 d_M_listen_80 (by decide) ?_
      cases h
      exact z_iret C .int hret rfl ⟨Nat.zero_le _, Nat.zero_le _⟩ d_M_listen_85
    · refine z_if_net C 83 c2 d_M_listen_76 (by decide) ?_
      refine z_iload C 2 rfl d_M_listen_83 ?_
      cases h
      exact z_iret C .int hret rfl ⟨Nat.zero_le _, Nat.zero_le _⟩ d_M_listen_85
set_option maxRecDepth 100000 in
set_option maxHeartbeats 4000000 in
theorem c_M_listen_25 {p : Program} {l : Launch} {e : Env} {s : State} {m : MethodId} {args : Array Value} {below : List Frame} {meth : Method} {c : Code} {G : zG} (C : zC p s m args meth c G b_M_listen 7 y_M_listen.cls) (hret : meth.sig.returnType = (some .int)) {fu : Nat} {r : Int32} {S1 : zSt} : ∀ (n : Nat) (a1 : Int32) (a2 : Int32) (a3 : Int32) (a4 : Int32) (a5 : Int32) (S : zSt) , f_M_listen_25 fu n a1 a2 a3 a4 a5 S = some (r, S1) → zJ p l e rm_M_listen s m args below meth c G true 7 0 0 (zQm below G args s rm_M_listen true (some (zi r)) S1) S 25 [(0, zr (some 72)), (1, zi a1), (2, zi a2), (3, zi a3), (4, zi a4), (5, zi a5)] [] := by
  intro n
  induction n with
  | zero =>
    intro a1 a2 a3 a4 a5 S h
    cases h
  | succ n ih =>
    intro a1 a2 a3 a4 a5 S h
    rw [f_M_listen_25] at h
    refine z_iload C 5 rfl d_M_listen_25 ?_
    refine z_aload_n C 0 rfl d_M_listen_27 rfl ?_
    obtain ⟨r2, h1, h⟩ := zb1_some h
    refine z_cV C 11 (by decide) (m_M_springMany l h1) mf_M_springMany lk_11_118 in_M_springMany se_M_springMany rfl zo_72 zk_72 ⟨rfl, rfl⟩ ⟨by decide, by decide⟩ ⟨Nat.zero_le _, Nat.zero_le _⟩ rfl _ [zi a5] rfl (Nat.le_of_ble_eq_true rfl) d_M_listen_28 ?_
    rcases zite h with ⟨c3, h⟩ | ⟨c3, h⟩
    · refine z_icmp_get C 70 c3 d_M_listen_31 (by decide) ?_
      refine zq_lsub [1, 3, 4] [(1, zi a1), (3, zi a3), (4, zi a4)] rfl ?_
      exact c_M_listen_70 C hret  a1 a3 a4 S h
    · refine z_icmp_gef C 70 c3 d_M_listen_31 (by decide) ?_
      refine z_iload_n C 2 rfl d_M_listen_34 rfl ?_
      rcases zite h with ⟨c4, h⟩ | ⟨c4, h⟩
      · refine z_if_eqt C 70 c4 d_M_listen_35 (by decide) ?_
        refine zq_lsub [1, 3, 4] [(1, zi a1), (3, zi a3), (4, zi a4)] rfl ?_
        exact c_M_listen_70 C hret  a1 a3 a4 S h
      · refine z_if_eqf C 70 c4 d_M_listen_35 (by decide) ?_
        refine z_aload_n C 0 rfl d_M_listen_38 rfl ?_
        refine z_iload_n C 2 rfl d_M_listen_39 rfl ?_
        refine z_iload C 5 rfl d_M_listen_40 ?_
        obtain ⟨r6, h5, h⟩ := zb1_some h
        refine z_cV C 11 (by decide) (m_M_mostAlike l h5) mf_M_mostAlike lk_11_427 in_M_mostAlike se_M_mostAlike rfl zo_72 zk_72 ⟨rfl, rfl⟩ ⟨by decide, by decide⟩ ⟨Nat.zero_le _, Nat.zero_le _⟩ rfl _ [] rfl (Nat.le_of_ble_eq_true rfl) d_M_listen_42 ?_
        refine z_istore C [(6, zi r6), (0, zr (some 72)), (1, zi a1), (2, zi a2), (3, zi a3), (4, zi a4), (5, zi a5)] d_M_listen_45 (by decide) rfl ?_
        refine z_iload C 0 rfl d_M_listen_47 ?_
        refine z_iload C 5 rfl d_M_listen_49 ?_
        rcases zite h with ⟨c7, h⟩ | ⟨c7, h⟩
        · refine z_icmp_ltt C 57 c7 d_M_listen_51 (by decide) ?_
          refine z_iload C 0 rfl d_M_listen_57 ?_
          refine z_istore C [(4, zi r6), (6, zi r6), (0, zr (some 72)), (1, zi a1), (2, zi a2), (3, zi a3), (5, zi a5)] d_M_listen_59 (by decide) rfl ?_
          refine z_iload C 6 rfl d_M_listen_61 ?_
          refine z_istore_n C [(3, zi a5), (4, zi r6), (6, zi r6), (0, zr (some 72)), (1, zi a1), (2, zi a2), (5, zi a5)] d_M_listen_63 rfl (by decide) rfl ?_
          refine z_iinc C 6 (a5 + (1 : Int32)) [(5, zi (a5 + (1 : Int32))), (3, zi a5), (4, zi r6), (6, zi r6), (0, zr (some 72)), (1, zi a1), (2, zi a2)] rfl d_M_listen_64 (by first | rfl | decide) (by decide) rfl ?_
          refine z_goto C 25 d_M_listen_67 (by decide) ?_
          refine zq_lsub [4, 5, 6, 1, 2, 0] [(0, zr (some 72)), (1, zi a1), (2, zi a2), (3, zi a5), (4, zi r6), (5, zi (a5 + (1 : Int32)))] rfl ?_
          exact ih a1 a2 a5 r6 (a5 + (1 : Int32)) S h
        · refine z_icmp_ltf C 57 c7 d_M_listen_51 (by decide) ?_
          refine z_goto C 64 d_M_listen_54 (by decide) ?_
          refine z_iinc C 6 (a5 + (1 : Int32)) [(5, zi (a5 + (1 : Int32))), (6, zi r6), (0, zr (some 72)), (1, zi a1), (2, zi a2), (3, zi a3), (4, zi a4)] rfl d_M_listen_64 (by first | rfl | decide) (by decide) rfl ?_
          refine z_goto C 25 d_M_listen_67 (by decide) ?_
          refine zq_lsub [2, 3, 4, 5, 6, 0] [(0, zr (some 72)), (1, zi a1), (2, zi a2), (3, zi a3), (4, zi a4), (5, zi (a5 + (1 : Int32)))] rfl ?_
          exact ih a1 a2 a3 a4 (a5 + (1 : Int32)) S h
set_option maxRecDepth 100000 in
set_option maxHeartbeats 4000000 in
theorem m_M_listen (l : Launch) {fu : Nat} {a1 : Int32} {S : zSt} {r : Int32} {S1 : zSt} (h : f_M_listen fu a1 S = some (r, S1)) : zPM l y_M_listen b_M_listen 7 (some .int) rm_M_listen true true [zr (some 72), zi a1] S (some (zi r)) S1 := by
  refine zPM_of (by decide) (Nat.le_of_ble_eq_true rfl) (fun p e s m args below meth c G C hret hname => ?_)
  unfold f_M_listen at h
  refine (?_ : zJ p l e rm_M_listen s m args below meth c G true 7 0 0 (zQm below G args s rm_M_listen true (some (zi r)) S1) S 0 [(0, zr (some 72)), (1, zi a1)] [])
  refine z_iload_n C 1 rfl d_M_listen_0 rfl ?_
  refine z_iconst C (0 : Int32) (by decide) d_M_listen_1 ?_
  refine z_iconst C (1 : Int32) (by decide) d_M_listen_2 ?_
  obtain ⟨r2, h1, h⟩ := zb1_some h
  refine z_cS C (m_M_lies l h1) mf_M_lies lk_11_108 st_M_lies ⟨rfl, rfl⟩ ⟨by decide, by decide⟩ ⟨Nat.zero_le _, Nat.zero_le _⟩ rfl _ [] rfl (Nat.le_of_ble_eq_true rfl) d_M_listen_3 ?_
  rcases zite h with ⟨c3, h⟩ | ⟨c3, h⟩
  · refine z_if_nef C 11 c3 d_M_listen_6 (by decide) ?_
    refine z_iconst C (-1 : Int32) (by decide) d_M_listen_9 ?_
    cases h
    exact z_iret C .int hret rfl ⟨Nat.zero_le _, Nat.zero_le _⟩ d_M_listen_10
  · refine z_if_net C 11 c3 d_M_listen_6 (by decide) ?_
    refine z_aload_n C 0 rfl d_M_listen_11 rfl ?_
    obtain ⟨r5, S6, h4, h⟩ := zb2_some h
    refine z_cV C 11 (by decide) (m_M_canBeNow l h4) mf_M_canBeNow lk_11_421 in_M_canBeNow se_M_canBeNow rfl zo_72 zk_72 ⟨rfl, rfl⟩ ⟨by decide, by decide⟩ ⟨Nat.zero_le _, Nat.zero_le _⟩ rfl _ [] rfl (Nat.le_of_ble_eq_true rfl) d_M_listen_12 ?_
    refine z_istore_n C [(2, zi r5), (0, zr (some 72)), (1, zi a1)] d_M_listen_15 rfl (by decide) rfl ?_
    refine z_iconst C (-1 : Int32) (by decide) d_M_listen_16 ?_
    refine z_istore_n C [(3, zi (-1 : Int32)), (2, zi r5), (0, zr (some 72)), (1, zi a1)] d_M_listen_17 rfl (by decide) rfl ?_
    refine z_ldc C zc_11_177 d_M_listen_18 ?_
    refine z_istore C [(4, zi (1000000 : Int32)), (3, zi (-1 : Int32)), (2, zi r5), (0, zr (some 72)), (1, zi a1)] d_M_listen_20 (by decide) rfl ?_
    refine z_iconst C (0 : Int32) (by decide) d_M_listen_22 ?_
    refine z_istore C [(5, zi (0 : Int32)), (4, zi (1000000 : Int32)), (3, zi (-1 : Int32)), (2, zi r5), (0, zr (some 72)), (1, zi a1)] d_M_listen_23 (by decide) rfl ?_
    refine zq_lsub [4, 5, 3, 2, 1, 0] [(0, zr (some 72)), (1, zi a1), (2, zi r5), (3, zi (-1 : Int32)), (4, zi (1000000 : Int32)), (5, zi (0 : Int32))] rfl ?_
    exact c_M_listen_25 C hret fu  a1 r5 (-1 : Int32) (1000000 : Int32) (0 : Int32) S6 h
def f_M_few_67 (fu : Nat) (k57 : Int32 → Int32 → Int32 → zSt → Option (Int64 × zSt)) : Nat → Int32 → Int32 → Int32 → Int32 → zSt → Option (Int64 × zSt)
  | 0, _, _, _, _, _ => none
  | n + 1, a1, a2, a3, a4, S => if a4 < 0 then k57 a1 a2 (a3 + (1 : Int32)) S else zgd (0 ≤ (a4 + (1 : Int32)) ∧ (a4 + (1 : Int32)).toNatClampNeg < 21) (zgd (0 ≤ a4 ∧ a4.toNatClampNeg < 21) (zgd (0 ≤ (a4 + (1 : Int32)) ∧ (a4 + (1 : Int32)).toNatClampNeg < 21) (zgd (0 ≤ a4 ∧ a4.toNatClampNeg < 21) (zgd (0 ≤ a4 ∧ a4.toNatClampNeg < 21) (f_M_few_67 fu k57 n a1 a2 a3 (a4 + (-1 : Int32)) (zwL (zwL S 95 (a4 + (1 : Int32)).toNatClampNeg ((zL S 95 (a4 + (1 : Int32)).toNatClampNeg) + (((zL S 95 a4.toNatClampNeg) * ((zI S 74 (194 : Int32).toNatClampNeg).toInt64)) / (10 : Int64)))) 95 a4.toNatClampNeg (((zL (zwL S 95 (a4 + (1 : Int32)).toNatClampNeg ((zL S 95 (a4 + (1 : Int32)).toNatClampNeg) + (((zL S 95 a4.toNatClampNeg) * ((zI S 74 (194 : Int32).toNatClampNeg).toInt64)) / (10 : Int64)))) 95 a4.toNatClampNeg) * (((10 : Int32) - (zI (zwL S 95 (a4 + (1 : Int32)).toNatClampNeg ((zL S 95 (a4 + (1 : Int32)).toNatClampNeg) + (((zL S 95 a4.toNatClampNeg) * ((zI S 74 (194 : Int32).toNatClampNeg).toInt64)) / (10 : Int64)))) 74 (194 : Int32).toNatClampNeg)).toInt64)) / (10 : Int64))))))))
def f_M_few_153 (fu : Nat) : Nat → Int32 → Int64 → Int32 → zSt → Option (Int64 × zSt)
  | 0, _, _, _, _ => none
  | n + 1, a1, a3, a5, S => if a1 ≤ a5 then some (a3, S) else zgd (0 ≤ a5 ∧ a5.toNatClampNeg < 21) (f_M_few_153 fu n a1 (a3 + (zL S 95 a5.toNatClampNeg)) (a5 + (1 : Int32)) S)
def f_M_few_148 (fu : Nat) (a1 : Int32) (S : zSt) : Option (Int64 × zSt) := f_M_few_153 fu fu a1 (0 : Int64) (0 : Int32) S
def f_M_few_57 (fu : Nat) : Nat → Int32 → Int32 → Int32 → zSt → Option (Int64 × zSt)
  | 0, _, _, _, _ => none
  | n + 1, a1, a2, a3, S => if a2 ≤ a3 then f_M_few_148 fu a1 S else f_M_few_67 fu (f_M_few_57 fu n) fu a1 a2 a3 (a1 - (1 : Int32)) S
def f_M_few_26 (fu : Nat) : Nat → Int32 → Int32 → Int32 → zSt → Option (Int64 × zSt)
  | 0, _, _, _, _ => none
  | n + 1, a1, a2, a3, S => if (20 : Int32) < a3 then f_M_few_57 fu fu a1 a2 (0 : Int32) S else if a3 = 0 then zgd (0 ≤ a3 ∧ a3.toNatClampNeg < 21) (f_M_few_26 fu n a1 a2 (a3 + (1 : Int32)) (zwL S 95 a3.toNatClampNeg (1000000000000 : Int64))) else zgd (0 ≤ a3 ∧ a3.toNatClampNeg < 21) (f_M_few_26 fu n a1 a2 (a3 + (1 : Int32)) (zwL S 95 a3.toNatClampNeg (0 : Int64)))
def f_M_few (fu : Nat) (a1 : Int32) (a2 : Int32) (S : zSt) : Option (Int64 × zSt) := zb1 (f_M_lies a1 (1 : Int32) (20 : Int32)) (fun r2 => if r2 = 0 then some ((-1 : Int64), S) else zb1 (f_M_lies a2 (0 : Int32) (99 : Int32)) (fun r5 => if r5 = 0 then some ((-1 : Int64), S) else f_M_few_26 fu fu a1 a2 (0 : Int32) S))
set_option maxRecDepth 100000 in
set_option maxHeartbeats 4000000 in
theorem c_M_few_67 {p : Program} {l : Launch} {e : Env} {s : State} {m : MethodId} {args : Array Value} {below : List Frame} {meth : Method} {c : Code} {G : zG} (C : zC p s m args meth c G b_M_few 6 y_M_few.cls) (hret : meth.sig.returnType = (some .long)) {fu : Nat} {r : Int64} {S1 : zSt} {k57 : Int32 → Int32 → Int32 → zSt → Option (Int64 × zSt)} (hk57 : ∀ (a1 : Int32) (a2 : Int32) (a3 : Int32) (S : zSt) , k57 a1 a2 a3 S = some (r, S1) → zJ p l e rm_M_few s m args below meth c G true 6 0 0 (zQm below G args s rm_M_few true (some (zl r)) S1) S 57 [(0, zr (some 72)), (1, zi a1), (2, zi a2), (3, zi a3)] []) : ∀ (n : Nat) (a1 : Int32) (a2 : Int32) (a3 : Int32) (a4 : Int32) (S : zSt) , f_M_few_67 fu k57 n a1 a2 a3 a4 S = some (r, S1) → zJ p l e rm_M_few s m args below meth c G true 6 0 0 (zQm below G args s rm_M_few true (some (zl r)) S1) S 67 [(0, zr (some 72)), (1, zi a1), (2, zi a2), (3, zi a3), (4, zi a4)] [] := by
  intro n
  induction n with
  | zero =>
    intro a1 a2 a3 a4 S h
    cases h
  | succ n ih =>
    intro a1 a2 a3 a4 S h
    rw [f_M_few_67] at h
    refine z_iload C 4 rfl d_M_few_67 ?_
    rcases zite h with ⟨c1, h⟩ | ⟨c1, h⟩
    · refine z_if_ltt C 142 c1 d_M_few_69 (by decide) ?_
      refine z_iinc C 3 (a3 + (1 : Int32)) [(3, zi (a3 + (1 : Int32))), (0, zr (some 72)), (1, zi a1), (2, zi a2), (4, zi a4)] rfl d_M_few_142 (by first | rfl | decide) (by decide) rfl ?_
      refine z_goto C 57 d_M_few_145 (by decide) ?_
      refine zq_lsub [1, 2, 3, 0] [(0, zr (some 72)), (1, zi a1), (2, zi a2), (3, zi (a3 + (1 : Int32)))] rfl ?_
      exact hk57 a1 a2 (a3 + (1 : Int32)) S h
    · refine z_if_ltf C 142 c1 d_M_few_69 (by decide) ?_
      refine z_aload_n C 0 rfl d_M_few_72 rfl ?_
      refine z_getF2 C 11 (by decide) 40 (by decide) rfl 23 21 rfl (95) rfl zp_72 zk_72 zfl_11_92 d_M_few_73 ?_
      refine z_iload C 4 rfl d_M_few_76 ?_
      refine z_iconst C (1 : Int32) (by decide) d_M_few_78 ?_
      refine z_iadd C d_M_few_79 ?_
      refine z_dup2 C rfl rfl d_M_few_80 ?_
      refine z_fact (fun hSR => ?_)
      obtain ⟨g2, h⟩ := zgd_some h
      refine z_laloadS C zo_95 zk_95 (za_95 hSR) g2 d_M_few_81 ?_
      refine z_aload_n C 0 rfl d_M_few_82 rfl ?_
      refine z_getF2 C 11 (by decide) 40 (by decide) rfl 23 21 rfl (95) rfl zp_72 zk_72 zfl_11_92 d_M_few_83 ?_
      refine z_iload C 4 rfl d_M_few_86 ?_
      refine z_fact (fun hSR => ?_)
      obtain ⟨g3, h⟩ := zgd_some h
      refine z_laloadS C zo_95 zk_95 (za_95 hSR) g3 d_M_few_88 ?_
      refine z_aload_n C 0 rfl d_M_few_89 rfl ?_
      refine z_getF2 C 11 (by decide) 2 (by decide) rfl 2 5807 rfl (74) rfl zp_72 zk_72 zfl_11_24 d_M_few_90 ?_
      refine z_sipush C (194 : Int32) (by decide) d_M_few_93 ?_
      refine z_fact (fun hSR => ?_)
      refine z_ialoadS C zo_74 zk_74 (za_74 hSR) (by decide) d_M_few_96 ?_
      refine z_i2l C d_M_few_97 ?_
      refine z_lmul C d_M_few_98 ?_
      refine z_ldc2 C zc_11_434 d_M_few_99 ?_
      refine z_ldiv C (by decide) d_M_few_102 ?_
      refine z_ladd C d_M_few_103 ?_
      refine z_fact (fun hSR => ?_)
      obtain ⟨g4, h⟩ := zgd_some h
      refine z_lastoreS C zo_95 zk_95 (za_95 hSR) g4 d_M_few_104 ?_
      refine z_aload_n C 0 rfl d_M_few_105 rfl ?_
      refine z_getF2 C 11 (by decide) 40 (by decide) rfl 23 21 rfl (95) rfl zp_72 zk_72 zfl_11_92 d_M_few_106 ?_
      refine z_iload C 4 rfl d_M_few_109 ?_
      refine z_aload_n C 0 rfl d_M_few_111 rfl ?_
      refine z_getF2 C 11 (by decide) 40 (by decide) rfl 23 21 rfl (95) rfl zp_72 zk_72 zfl_11_92 d_M_few_112 ?_
      refine z_iload C 4 rfl d_M_few_115 ?_
      refine z_fact (fun hSR => ?_)
      obtain ⟨g5, h⟩ := zgd_some h
      refine z_laloadS C zo_95 zk_95 (za_95 hSR) g5 d_M_few_117 ?_
      refine z_bipush C (10 : Int32) (by decide) d_M_few_118 ?_
      refine z_aload_n C 0 rfl d_M_few_120 rfl ?_
      refine z_getF2 C 11 (by decide) 2 (by decide) rfl 2 5807 rfl (74) rfl zp_72 zk_72 zfl_11_24 d_M_few_121 ?_
      refine z_sipush C (194 : Int32) (by decide) d_M_few_124 ?_
      refine z_fact (fun hSR => ?_)
      refine z_ialoadS C zo_74 zk_74 (za_74 hSR) (by decide) d_M_few_127 ?_
      refine z_isub C d_M_few_128 ?_
      refine z_i2l C d_M_few_129 ?_
      refine z_lmul C d_M_few_130 ?_
      refine z_ldc2 C zc_11_434 d_M_few_131 ?_
      refine z_ldiv C (by decide) d_M_few_134 ?_
      refine z_fact (fun hSR => ?_)
      obtain ⟨g6, h⟩ := zgd_some h
      refine z_lastoreS C zo_95 zk_95 (za_95 hSR) g6 d_M_few_135 ?_
      refine z_iinc C 4 (a4 + (-1 : Int32)) [(4, zi (a4 + (-1 : Int32))), (0, zr (some 72)), (1, zi a1), (2, zi a2), (3, zi a3)] rfl d_M_few_136 (by first | rfl | decide) (by decide) rfl ?_
      refine z_goto C 67 d_M_few_139 (by decide) ?_
      refine zq_lsub [1, 2, 3, 4, 0] [(0, zr (some 72)), (1, zi a1), (2, zi a2), (3, zi a3), (4, zi (a4 + (-1 : Int32)))] rfl ?_
      exact ih a1 a2 a3 (a4 + (-1 : Int32)) (zwL (zwL S 95 (a4 + (1 : Int32)).toNatClampNeg ((zL S 95 (a4 + (1 : Int32)).toNatClampNeg) + (((zL S 95 a4.toNatClampNeg) * ((zI S 74 (194 : Int32).toNatClampNeg).toInt64)) / (10 : Int64)))) 95 a4.toNatClampNeg (((zL (zwL S 95 (a4 + (1 : Int32)).toNatClampNeg ((zL S 95 (a4 + (1 : Int32)).toNatClampNeg) + (((zL S 95 a4.toNatClampNeg) * ((zI S 74 (194 : Int32).toNatClampNeg).toInt64)) / (10 : Int64)))) 95 a4.toNatClampNeg) * (((10 : Int32) - (zI (zwL S 95 (a4 + (1 : Int32)).toNatClampNeg ((zL S 95 (a4 + (1 : Int32)).toNatClampNeg) + (((zL S 95 a4.toNatClampNeg) * ((zI S 74 (194 : Int32).toNatClampNeg).toInt64)) / (10 : Int64)))) 74 (194 : Int32).toNatClampNeg)).toInt64)) / (10 : Int64))) h
set_option maxRecDepth 100000 in
set_option maxHeartbeats 4000000 in
theorem c_M_few_153 {p : Program} {l : Launch} {e : Env} {s : State} {m : MethodId} {args : Array Value} {below : List Frame} {meth : Method} {c : Code} {G : zG} (C : zC p s m args meth c G b_M_few 6 y_M_few.cls) (hret : meth.sig.returnType = (some .long)) {fu : Nat} {r : Int64} {S1 : zSt} : ∀ (n : Nat) (a1 : Int32) (a3 : Int64) (a5 : Int32) (S : zSt) , f_M_few_153 fu n a1 a3 a5 S = some (r, S1) → zJ p l e rm_M_few s m args below meth c G true 6 0 0 (zQm below G args s rm_M_few true (some (zl r)) S1) S 153 [(0, zr (some 72)), (1, zi a1), (3, zl a3), (5, zi a5)] [] := by
  intro n
  induction n with
  | zero =>
    intro a1 a3 a5 S h
    cases h
  | succ n ih =>
    intro a1 a3 a5 S h
    rw [f_M_few_153] at h
    refine z_iload C 3 rfl d_M_few_153 ?_
    refine z_iload_n C 1 rfl d_M_few_155 rfl ?_
    rcases zite h with ⟨c1, h⟩ | ⟨c1, h⟩
    · refine z_icmp_get C 175 c1 d_M_few_156 (by decide) ?_
      refine z_lload_n C 2 rfl d_M_few_175 rfl ?_
      cases h
      exact z_lret C hret ⟨Nat.zero_le _, Nat.zero_le _⟩ d_M_few_176
    · refine z_icmp_gef C 175 c1 d_M_few_156 (by decide) ?_
      refine z_lload_n C 2 rfl d_M_few_159 rfl ?_
      refine z_aload_n C 0 rfl d_M_few_160 rfl ?_
      refine z_getF2 C 11 (by decide) 40 (by decide) rfl 23 21 rfl (95) rfl zp_72 zk_72 zfl_11_92 d_M_few_161 ?_
      refine z_iload C 3 rfl d_M_few_164 ?_
      refine z_fact (fun hSR => ?_)
      obtain ⟨g2, h⟩ := zgd_some h
      refine z_laloadS C zo_95 zk_95 (za_95 hSR) g2 d_M_few_166 ?_
      refine z_ladd C d_M_few_167 ?_
      refine z_lstore_n C [(3, zl (a3 + (zL S 95 a5.toNatClampNeg))), (0, zr (some 72)), (1, zi a1), (5, zi a5)] d_M_few_168 rfl (by decide) rfl ?_
      refine z_iinc C 3 (a5 + (1 : Int32)) [(5, zi (a5 + (1 : Int32))), (3, zl (a3 + (zL S 95 a5.toNatClampNeg))), (0, zr (some 72)), (1, zi a1)] rfl d_M_few_169 (by first | rfl | decide) (by decide) rfl ?_
      refine z_goto C 153 d_M_few_172 (by decide) ?_
      refine zq_lsub [2, 3, 1, 0] [(0, zr (some 72)), (1, zi a1), (3, zl (a3 + (zL S 95 a5.toNatClampNeg))), (5, zi (a5 + (1 : Int32)))] rfl ?_
      exact ih a1 (a3 + (zL S 95 a5.toNatClampNeg)) (a5 + (1 : Int32)) S h
set_option maxRecDepth 100000 in
set_option maxHeartbeats 4000000 in
theorem c_M_few_148 {p : Program} {l : Launch} {e : Env} {s : State} {m : MethodId} {args : Array Value} {below : List Frame} {meth : Method} {c : Code} {G : zG} (C : zC p s m args meth c G b_M_few 6 y_M_few.cls) (hret : meth.sig.returnType = (some .long)) {fu : Nat} {r : Int64} {S1 : zSt} : ∀ (a1 : Int32) (S : zSt) , f_M_few_148 fu a1 S = some (r, S1) → zJ p l e rm_M_few s m args below meth c G true 6 0 0 (zQm below G args s rm_M_few true (some (zl r)) S1) S 148 [(0, zr (some 72)), (1, zi a1)] [] := by
  intro a1 S h
  unfold f_M_few_148 at h
  refine z_lconst C (0 : Int64) (by decide) d_M_few_148 ?_
  refine z_lstore_n C [(3, zl (0 : Int64)), (0, zr (some 72)), (1, zi a1)] d_M_few_149 rfl (by decide) rfl ?_
  refine z_iconst C (0 : Int32) (by decide) d_M_few_150 ?_
  refine z_istore C [(5, zi (0 : Int32)), (3, zl (0 : Int64)), (0, zr (some 72)), (1, zi a1)] d_M_few_151 (by decide) rfl ?_
  refine zq_lsub [2, 3, 1, 0] [(0, zr (some 72)), (1, zi a1), (3, zl (0 : Int64)), (5, zi (0 : Int32))] rfl ?_
  exact c_M_few_153 C hret fu  a1 (0 : Int64) (0 : Int32) S h
set_option maxRecDepth 100000 in
set_option maxHeartbeats 4000000 in
theorem c_M_few_57 {p : Program} {l : Launch} {e : Env} {s : State} {m : MethodId} {args : Array Value} {below : List Frame} {meth : Method} {c : Code} {G : zG} (C : zC p s m args meth c G b_M_few 6 y_M_few.cls) (hret : meth.sig.returnType = (some .long)) {fu : Nat} {r : Int64} {S1 : zSt} : ∀ (n : Nat) (a1 : Int32) (a2 : Int32) (a3 : Int32) (S : zSt) , f_M_few_57 fu n a1 a2 a3 S = some (r, S1) → zJ p l e rm_M_few s m args below meth c G true 6 0 0 (zQm below G args s rm_M_few true (some (zl r)) S1) S 57 [(0, zr (some 72)), (1, zi a1), (2, zi a2), (3, zi a3)] [] := by
  intro n
  induction n with
  | zero =>
    intro a1 a2 a3 S h
    cases h
  | succ n ih =>
    intro a1 a2 a3 S h
    rw [f_M_few_57] at h
    refine z_iload_n C 3 rfl d_M_few_57 rfl ?_
    refine z_iload_n C 2 rfl d_M_few_58 rfl ?_
    rcases zite h with ⟨c1, h⟩ | ⟨c1, h⟩
    · refine z_icmp_get C 148 c1 d_M_few_59 (by decide) ?_
      refine zq_lsub [0, 1] [(0, zr (some 72)), (1, zi a1)] rfl ?_
      exact c_M_few_148 C hret  a1 S h
    · refine z_icmp_gef C 148 c1 d_M_few_59 (by decide) ?_
      refine z_iload_n C 1 rfl d_M_few_62 rfl ?_
      refine z_iconst C (1 : Int32) (by decide) d_M_few_63 ?_
      refine z_isub C d_M_few_64 ?_
      refine z_istore C [(4, zi (a1 - (1 : Int32))), (0, zr (some 72)), (1, zi a1), (2, zi a2), (3, zi a3)] d_M_few_65 (by decide) rfl ?_
      refine zq_lsub [1, 2, 3, 4, 0] [(0, zr (some 72)), (1, zi a1), (2, zi a2), (3, zi a3), (4, zi (a1 - (1 : Int32)))] rfl ?_
      exact c_M_few_67 C hret (fun z0 z1 z2 zS zh => ih z0 z1 z2 zS zh) fu  a1 a2 a3 (a1 - (1 : Int32)) S h
set_option maxRecDepth 100000 in
set_option maxHeartbeats 4000000 in
theorem c_M_few_26 {p : Program} {l : Launch} {e : Env} {s : State} {m : MethodId} {args : Array Value} {below : List Frame} {meth : Method} {c : Code} {G : zG} (C : zC p s m args meth c G b_M_few 6 y_M_few.cls) (hret : meth.sig.returnType = (some .long)) {fu : Nat} {r : Int64} {S1 : zSt} : ∀ (n : Nat) (a1 : Int32) (a2 : Int32) (a3 : Int32) (S : zSt) , f_M_few_26 fu n a1 a2 a3 S = some (r, S1) → zJ p l e rm_M_few s m args below meth c G true 6 0 0 (zQm below G args s rm_M_few true (some (zl r)) S1) S 26 [(0, zr (some 72)), (1, zi a1), (2, zi a2), (3, zi a3)] [] := by
  intro n
  induction n with
  | zero =>
    intro a1 a2 a3 S h
    cases h
  | succ n ih =>
    intro a1 a2 a3 S h
    rw [f_M_few_26] at h
    refine z_iload_n C 3 rfl d_M_few_26 rfl ?_
    refine z_bipush C (20 : Int32) (by decide) d_M_few_27 ?_
    rcases zite h with ⟨c1, h⟩ | ⟨c1, h⟩
    · refine z_icmp_gtt C 55 c1 d_M_few_29 (by decide) ?_
      refine z_iconst C (0 : Int32) (by decide) d_M_few_55 ?_
      refine z_istore_n C [(3, zi (0 : Int32)), (0, zr (some 72)), (1, zi a1), (2, zi a2)] d_M_few_56 rfl (by decide) rfl ?_
      refine zq_lsub [1, 2, 3, 0] [(0, zr (some 72)), (1, zi a1), (2, zi a2), (3, zi (0 : Int32))] rfl ?_
      exact c_M_few_57 C hret fu  a1 a2 (0 : Int32) S h
    · refine z_icmp_gtf C 55 c1 d_M_few_29 (by decide) ?_
      refine z_aload_n C 0 rfl d_M_few_32 rfl ?_
      refine z_getF2 C 11 (by decide) 40 (by decide) rfl 23 21 rfl (95) rfl zp_72 zk_72 zfl_11_92 d_M_few_33 ?_
      refine z_iload_n C 3 rfl d_M_few_36 rfl ?_
      refine z_iload_n C 3 rfl d_M_few_37 rfl ?_
      rcases zite h with ⟨c2, h⟩ | ⟨c2, h⟩
      · refine z_if_nef C 47 c2 d_M_few_38 (by decide) ?_
        refine z_ldc2 C zc_11_432 d_M_few_41 ?_
        refine z_goto C 48 d_M_few_44 (by decide) ?_
        refine z_fact (fun hSR => ?_)
        obtain ⟨g4, h⟩ := zgd_some h
        refine z_lastoreS C zo_95 zk_95 (za_95 hSR) g4 d_M_few_48 ?_
        refine z_iinc C 3 (a3 + (1 : Int32)) [(3, zi (a3 + (1 : Int32))), (0, zr (some 72)), (1, zi a1), (2, zi a2)] rfl d_M_few_49 (by first | rfl | decide) (by decide) rfl ?_
        refine z_goto C 26 d_M_few_52 (by decide) ?_
        refine zq_lsub [1, 2, 3, 0] [(0, zr (some 72)), (1, zi a1), (2, zi a2), (3, zi (a3 + (1 : Int32)))] rfl ?_
        exact ih a1 a2 (a3 + (1 : Int32)) (zwL S 95 a3.toNatClampNeg (1000000000000 : Int64)) h
      · refine z_if_net C 47 c2 d_M_few_38 (by decide) ?_
        refine z_lconst C (0 : Int64) (by decide) d_M_few_47 ?_
        refine z_fact (fun hSR => ?_)
        obtain ⟨g3, h⟩ := zgd_some h
        refine z_lastoreS C zo_95 zk_95 (za_95 hSR) g3 d_M_few_48 ?_
        refine z_iinc C 3 (a3 + (1 : Int32)) [(3, zi (a3 + (1 : Int32))), (0, zr (some 72)), (1, zi a1), (2, zi a2)] rfl d_M_few_49 (by first | rfl | decide) (by decide) rfl ?_
        refine z_goto C 26 d_M_few_52 (by decide) ?_
        refine zq_lsub [1, 2, 3, 0] [(0, zr (some 72)), (1, zi a1), (2, zi a2), (3, zi (a3 + (1 : Int32)))] rfl ?_
        exact ih a1 a2 (a3 + (1 : Int32)) (zwL S 95 a3.toNatClampNeg (0 : Int64)) h
set_option maxRecDepth 100000 in
set_option maxHeartbeats 4000000 in
theorem m_M_few (l : Launch) {fu : Nat} {a1 : Int32} {a2 : Int32} {S : zSt} {r : Int64} {S1 : zSt} (h : f_M_few fu a1 a2 S = some (r, S1)) : zPM l y_M_few b_M_few 6 (some .long) rm_M_few true true [zr (some 72), zi a1, zi a2] S (some (zl r)) S1 := by
  refine zPM_of (by decide) (Nat.le_of_ble_eq_true rfl) (fun p e s m args below meth c G C hret hname => ?_)
  unfold f_M_few at h
  refine (?_ : zJ p l e rm_M_few s m args below meth c G true 6 0 0 (zQm below G args s rm_M_few true (some (zl r)) S1) S 0 [(0, zr (some 72)), (1, zi a1), (2, zi a2)] [])
  refine z_iload_n C 1 rfl d_M_few_0 rfl ?_
  refine z_iconst C (1 : Int32) (by decide) d_M_few_1 ?_
  refine z_bipush C (20 : Int32) (by decide) d_M_few_2 ?_
  obtain ⟨r2, h1, h⟩ := zb1_some h
  refine z_cS C (m_M_lies l h1) mf_M_lies lk_11_108 st_M_lies ⟨rfl, rfl⟩ ⟨by decide, by decide⟩ ⟨Nat.zero_le _, Nat.zero_le _⟩ rfl _ [] rfl (Nat.le_of_ble_eq_true rfl) d_M_few_4 ?_
  rcases zite h with ⟨c3, h⟩ | ⟨c3, h⟩
  · refine z_if_eqt C 20 c3 d_M_few_7 (by decide) ?_
    refine z_ldc2 C zc_11_430 d_M_few_20 ?_
    cases h
    exact z_lret C hret ⟨Nat.zero_le _, Nat.zero_le _⟩ d_M_few_23
  · refine z_if_eqf C 20 c3 d_M_few_7 (by decide) ?_
    refine z_iload_n C 2 rfl d_M_few_10 rfl ?_
    refine z_iconst C (0 : Int32) (by decide) d_M_few_11 ?_
    refine z_bipush C (99 : Int32) (by decide) d_M_few_12 ?_
    obtain ⟨r5, h4, h⟩ := zb1_some h
    refine z_cS C (m_M_lies l h4) mf_M_lies lk_11_108 st_M_lies ⟨rfl, rfl⟩ ⟨by decide, by decide⟩ ⟨Nat.zero_le _, Nat.zero_le _⟩ rfl _ [] rfl (Nat.le_of_ble_eq_true rfl) d_M_few_14 ?_
    rcases zite h with ⟨c6, h⟩ | ⟨c6, h⟩
    · refine z_if_nef C 24 c6 d_M_few_17 (by decide) ?_
      refine z_ldc2 C zc_11_430 d_M_few_20 ?_
      cases h
      exact z_lret C hret ⟨Nat.zero_le _, Nat.zero_le _⟩ d_M_few_23
    · refine z_if_net C 24 c6 d_M_few_17 (by decide) ?_
      refine z_iconst C (0 : Int32) (by decide) d_M_few_24 ?_
      refine z_istore_n C [(3, zi (0 : Int32)), (0, zr (some 72)), (1, zi a1), (2, zi a2)] d_M_few_25 rfl (by decide) rfl ?_
      refine zq_lsub [1, 2, 3, 0] [(0, zr (some 72)), (1, zi a1), (2, zi a2), (3, zi (0 : Int32))] rfl ?_
      exact c_M_few_26 C hret fu  a1 a2 (0 : Int32) S h
def f_M_compare (fu : Nat) (a1 : Int32) (a2 : Int32) (a3 : Int32) (S : zSt) : Option (Int32 × zSt) := zb1 (f_M_isLaw a1 S) (fun r2 => if r2 = 0 then some ((-1 : Int32), S) else zb1 (f_M_isSpring a2 S) (fun r5 => if r5 = 0 then some ((-1 : Int32), S) else zb1 (f_M_isSpring a3 S) (fun r8 => if r8 = 0 then some ((-1 : Int32), S) else zb1 (f_M_laysSoon fu (zwI S 74 (199 : Int32).toNatClampNeg a1)) (fun S11 => zb1 (f_M_soonOr a2 a3 (zwI S11 74 (199 : Int32).toNatClampNeg (zI S 74 (199 : Int32).toNatClampNeg))) (fun r13 => some (r13, zwI S11 74 (199 : Int32).toNatClampNeg (zI S 74 (199 : Int32).toNatClampNeg)))))))
set_option maxRecDepth 100000 in
set_option maxHeartbeats 4000000 in
theorem m_M_compare (l : Launch) {fu : Nat} {a1 : Int32} {a2 : Int32} {a3 : Int32} {S : zSt} {r : Int32} {S1 : zSt} (h : f_M_compare fu a1 a2 a3 S = some (r, S1)) : zPM l y_M_compare b_M_compare 5 (some .int) rm_M_compare true true [zr (some 72), zi a1, zi a2, zi a3] S (some (zi r)) S1 := by
  refine zPM_of (by decide) (Nat.le_of_ble_eq_true rfl) (fun p e s m args below meth c G C hret hname => ?_)
  unfold f_M_compare at h
  refine (?_ : zJ p l e rm_M_compare s m args below meth c G true 5 0 0 (zQm below G args s rm_M_compare true (some (zi r)) S1) S 0 [(0, zr (some 72)), (1, zi a1), (2, zi a2), (3, zi a3)] [])
  refine z_aload_n C 0 rfl d_M_compare_0 rfl ?_
  refine z_iload_n C 1 rfl d_M_compare_1 rfl ?_
  obtain ⟨r2, h1, h⟩ := zb1_some h
  refine z_cV C 11 (by decide) (m_M_isLaw l h1) mf_M_isLaw lk_11_262 in_M_isLaw se_M_isLaw rfl zo_72 zk_72 ⟨rfl, rfl⟩ ⟨by decide, by decide⟩ ⟨Nat.zero_le _, Nat.zero_le _⟩ rfl _ [] rfl (Nat.le_of_ble_eq_true rfl) d_M_compare_2 ?_
  rcases zite h with ⟨c3, h⟩ | ⟨c3, h⟩
  · refine z_if_eqt C 24 c3 d_M_compare_5 (by decide) ?_
    refine z_iconst C (-1 : Int32) (by decide) d_M_compare_24 ?_
    cases h
    exact z_iret C .int hret rfl ⟨Nat.zero_le _, Nat.zero_le _⟩ d_M_compare_25
  · refine z_if_eqf C 24 c3 d_M_compare_5 (by decide) ?_
    refine z_aload_n C 0 rfl d_M_compare_8 rfl ?_
    refine z_iload_n C 2 rfl d_M_compare_9 rfl ?_
    obtain ⟨r5, h4, h⟩ := zb1_some h
    refine z_cV C 11 (by decide) (m_M_isSpring l h4) mf_M_isSpring lk_11_122 in_M_isSpring se_M_isSpring rfl zo_72 zk_72 ⟨rfl, rfl⟩ ⟨by decide, by decide⟩ ⟨Nat.zero_le _, Nat.zero_le _⟩ rfl _ [] rfl (Nat.le_of_ble_eq_true rfl) d_M_compare_10 ?_
    rcases zite h with ⟨c6, h⟩ | ⟨c6, h⟩
    · refine z_if_eqt C 24 c6 d_M_compare_13 (by decide) ?_
      refine z_iconst C (-1 : Int32) (by decide) d_M_compare_24 ?_
      cases h
      exact z_iret C .int hret rfl ⟨Nat.zero_le _, Nat.zero_le _⟩ d_M_compare_25
    · refine z_if_eqf C 24 c6 d_M_compare_13 (by decide) ?_
      refine z_aload_n C 0 rfl d_M_compare_16 rfl ?_
      refine z_iload_n C 3 rfl d_M_compare_17 rfl ?_
      obtain ⟨r8, h7, h⟩ := zb1_some h
      refine z_cV C 11 (by decide) (m_M_isSpring l h7) mf_M_isSpring lk_11_122 in_M_isSpring se_M_isSpring rfl zo_72 zk_72 ⟨rfl, rfl⟩ ⟨by decide, by decide⟩ ⟨Nat.zero_le _, Nat.zero_le _⟩ rfl _ [] rfl (Nat.le_of_ble_eq_true rfl) d_M_compare_18 ?_
      rcases zite h with ⟨c9, h⟩ | ⟨c9, h⟩
      · refine z_if_nef C 26 c9 d_M_compare_21 (by decide) ?_
        refine z_iconst C (-1 : Int32) (by decide) d_M_compare_24 ?_
        cases h
        exact z_iret C .int hret rfl ⟨Nat.zero_le _, Nat.zero_le _⟩ d_M_compare_25
      · refine z_if_net C 26 c9 d_M_compare_21 (by decide) ?_
        refine z_aload_n C 0 rfl d_M_compare_26 rfl ?_
        refine z_getF2 C 11 (by decide) 2 (by decide) rfl 2 5807 rfl (74) rfl zp_72 zk_72 zfl_11_24 d_M_compare_27 ?_
        refine z_sipush C (199 : Int32) (by decide) d_M_compare_30 ?_
        refine z_fact (fun hSR => ?_)
        refine z_ialoadS C zo_74 zk_74 (za_74 hSR) (by decide) d_M_compare_33 ?_
        refine z_istore C [(4, zi (zI S 74 (199 : Int32).toNatClampNeg)), (0, zr (some 72)), (1, zi a1), (2, zi a2), (3, zi a3)] d_M_compare_34 (by decide) rfl ?_
        refine z_aload_n C 1 rfl d_M_compare_36 rfl ?_
        refine z_getF2 C 11 (by decide) 2 (by decide) rfl 2 5807 rfl (74) rfl zp_72 zk_72 zfl_11_24 d_M_compare_37 ?_
        refine z_sipush C (199 : Int32) (by decide) d_M_compare_40 ?_
        refine z_iload_n C 2 rfl d_M_compare_43 rfl ?_
        refine z_fact (fun hSR => ?_)
        refine z_iastoreS C zo_74 zk_74 (za_74 hSR) (by decide) d_M_compare_44 ?_
        refine z_aload_n C 1 rfl d_M_compare_45 rfl ?_
        obtain ⟨S11, h10, h⟩ := zb1_some h
        refine z_cV C 11 (by decide) (m_M_laysSoon l h10) mf_M_laysSoon lk_11_375 in_M_laysSoon se_M_laysSoon rfl zo_72 zk_72 ⟨rfl, rfl⟩ ⟨by decide, by decide⟩ ⟨Nat.zero_le _, Nat.zero_le _⟩ rfl _ [] rfl (Nat.le_of_ble_eq_true rfl) d_M_compare_46 ?_
        refine z_aload_n C 1 rfl d_M_compare_49 rfl ?_
        refine z_getF2 C 11 (by decide) 2 (by decide) rfl 2 5807 rfl (74) rfl zp_72 zk_72 zfl_11_24 d_M_compare_50 ?_
        refine z_sipush C (199 : Int32) (by decide) d_M_compare_53 ?_
        refine z_iload C 0 rfl d_M_compare_56 ?_
        refine z_fact (fun hSR => ?_)
        refine z_iastoreS C zo_74 zk_74 (za_74 hSR) (by decide) d_M_compare_58 ?_
        refine z_aload_n C 1 rfl d_M_compare_59 rfl ?_
        refine z_iload_n C 3 rfl d_M_compare_60 rfl ?_
        refine z_iload_n C 4 rfl d_M_compare_61 rfl ?_
        obtain ⟨r13, h12, h⟩ := zb1_some h
        refine z_cV C 11 (by decide) (m_M_soonOr l h12) mf_M_soonOr lk_11_378 in_M_soonOr se_M_soonOr rfl zo_72 zk_72 ⟨rfl, rfl⟩ ⟨by decide, by decide⟩ ⟨Nat.zero_le _, Nat.zero_le _⟩ rfl _ [] rfl (Nat.le_of_ble_eq_true rfl) d_M_compare_62 ?_
        cases h
        exact z_iret C .int hret rfl ⟨Nat.zero_le _, Nat.zero_le _⟩ d_M_compare_65
def f_M_stopped (S : zSt) : Option Int32 := some (zI S 72 41)
set_option maxRecDepth 100000 in
set_option maxHeartbeats 4000000 in
theorem m_M_stopped (l : Launch) {S : zSt} {r : Int32} (h : f_M_stopped  S = some r) : zPM l y_M_stopped b_M_stopped 1 (some .int) rm_M_stopped true true [zr (some 72)] S (some (zi r)) S := by
  refine zPM_of (by decide) (Nat.le_of_ble_eq_true rfl) (fun p e s m args below meth c G C hret hname => ?_)
  unfold f_M_stopped at h
  refine (?_ : zJ p l e rm_M_stopped s m args below meth c G true 1 0 0 (zQm below G args s rm_M_stopped true (some (zi r)) S) S 0 [(0, zr (some 72))] [])
  refine z_aload_n C 0 rfl d_M_stopped_0 rfl ?_
  refine z_getI C 11 (by decide) 41 (by decide) rfl zo_72 zk_72 zfl_11_96 d_M_stopped_1 ?_
  cases h
  exact z_iret C .int hret rfl ⟨Nat.zero_le _, Nat.zero_le _⟩ d_M_stopped_4
def f_M_laysAside_2 (fu : Nat) : Nat → Int32 → Int32 → zSt → Option zSt
  | 0, _, _, _ => none
  | n + 1, a1, a2, S => if (92 : Int32) ≤ a2 then some S else zgd (0 ≤ a2 ∧ a2.toNatClampNeg < 5807) (zgd (0 ≤ (((92 : Int32) * a1) + a2) ∧ (((92 : Int32) * a1) + a2).toNatClampNeg < 184) (f_M_laysAside_2 fu n a1 (a2 + (1 : Int32)) (zwI S 77 (((92 : Int32) * a1) + a2).toNatClampNeg (zI S 74 a2.toNatClampNeg))))
def f_M_laysAside (fu : Nat) (a1 : Int32) (S : zSt) : Option zSt := f_M_laysAside_2 fu fu a1 (0 : Int32) S
set_option maxRecDepth 100000 in
set_option maxHeartbeats 4000000 in
theorem c_M_laysAside_2 {p : Program} {l : Launch} {e : Env} {s : State} {m : MethodId} {args : Array Value} {below : List Frame} {meth : Method} {c : Code} {G : zG} (C : zC p s m args meth c G b_M_laysAside 3 y_M_laysAside.cls) (hret : meth.sig.returnType = none) {fu : Nat} {S1 : zSt} : ∀ (n : Nat) (a1 : Int32) (a2 : Int32) (S : zSt) , f_M_laysAside_2 fu n a1 a2 S = some S1 → zJ p l e rm_M_laysAside s m args below meth c G true 3 0 0 (zQm below G args s rm_M_laysAside true none S1) S 2 [(0, zr (some 72)), (1, zi a1), (2, zi a2)] [] := by
  intro n
  induction n with
  | zero =>
    intro a1 a2 S h
    cases h
  | succ n ih =>
    intro a1 a2 S h
    rw [f_M_laysAside_2] at h
    refine z_iload_n C 2 rfl d_M_laysAside_2 rfl ?_
    refine z_bipush C (92 : Int32) (by decide) d_M_laysAside_3 ?_
    rcases zite h with ⟨c1, h⟩ | ⟨c1, h⟩
    · refine z_icmp_get C 31 c1 d_M_laysAside_5 (by decide) ?_
      cases h
      exact z_vret C hret ⟨Nat.zero_le _, Nat.zero_le _⟩ d_M_laysAside_31
    · refine z_icmp_gef C 31 c1 d_M_laysAside_5 (by decide) ?_
      refine z_aload_n C 0 rfl d_M_laysAside_8 rfl ?_
      refine z_getF2 C 11 (by decide) 5 (by decide) rfl 5 184 rfl (77) rfl zp_72 zk_72 zfl_11_34 d_M_laysAside_9 ?_
      refine z_bipush C (92 : Int32) (by decide) d_M_laysAside_12 ?_
      refine z_iload_n C 1 rfl d_M_laysAside_14 rfl ?_
      refine z_imul C d_M_laysAside_15 ?_
      refine z_iload_n C 2 rfl d_M_laysAside_16 rfl ?_
      refine z_iadd C d_M_laysAside_17 ?_
      refine z_aload_n C 0 rfl d_M_laysAside_18 rfl ?_
      refine z_getF2 C 11 (by decide) 2 (by decide) rfl 2 5807 rfl (74) rfl zp_72 zk_72 zfl_11_24 d_M_laysAside_19 ?_
      refine z_iload_n C 2 rfl d_M_laysAside_22 rfl ?_
      refine z_fact (fun hSR => ?_)
      obtain ⟨g2, h⟩ := zgd_some h
      refine z_ialoadS C zo_74 zk_74 (za_74 hSR) g2 d_M_laysAside_23 ?_
      refine z_fact (fun hSR => ?_)
      obtain ⟨g3, h⟩ := zgd_some h
      refine z_iastoreS C zo_77 zk_77 (za_77 hSR) g3 d_M_laysAside_24 ?_
      refine z_iinc C 2 (a2 + (1 : Int32)) [(2, zi (a2 + (1 : Int32))), (0, zr (some 72)), (1, zi a1)] rfl d_M_laysAside_25 (by first | rfl | decide) (by decide) rfl ?_
      refine z_goto C 2 d_M_laysAside_28 (by decide) ?_
      refine zq_lsub [1, 2, 0] [(0, zr (some 72)), (1, zi a1), (2, zi (a2 + (1 : Int32)))] rfl ?_
      exact ih a1 (a2 + (1 : Int32)) (zwI S 77 (((92 : Int32) * a1) + a2).toNatClampNeg (zI S 74 a2.toNatClampNeg)) h
set_option maxRecDepth 100000 in
set_option maxHeartbeats 4000000 in
theorem m_M_laysAside (l : Launch) {fu : Nat} {a1 : Int32} {S : zSt} {S1 : zSt} (h : f_M_laysAside fu a1 S = some S1) : zPM l y_M_laysAside b_M_laysAside 3 none rm_M_laysAside true true [zr (some 72), zi a1] S none S1 := by
  refine zPM_of (by decide) (Nat.le_of_ble_eq_true rfl) (fun p e s m args below meth c G C hret hname => ?_)
  unfold f_M_laysAside at h
  refine (?_ : zJ p l e rm_M_laysAside s m args below meth c G true 3 0 0 (zQm below G args s rm_M_laysAside true none S1) S 0 [(0, zr (some 72)), (1, zi a1)] [])
  refine z_iconst C (0 : Int32) (by decide) d_M_laysAside_0 ?_
  refine z_istore_n C [(2, zi (0 : Int32)), (0, zr (some 72)), (1, zi a1)] d_M_laysAside_1 rfl (by decide) rfl ?_
  refine zq_lsub [1, 2, 0] [(0, zr (some 72)), (1, zi a1), (2, zi (0 : Int32))] rfl ?_
  exact c_M_laysAside_2 C hret fu  a1 (0 : Int32) S h
def f_M_laysOrderSoon_6 (fu : Nat) : Nat → Int32 → zSt → Option zSt
  | 0, _, _ => none
  | n + 1, a1, S => zb1 (f_M_springMany S) (fun r2 => if r2 ≤ a1 then some S else zb1 (f_M_soonOr (zI S 74 (0 : Int32).toNatClampNeg) a1 S) (fun r5 => zgd (0 ≤ a1 ∧ a1.toNatClampNeg < 9) (f_M_laysOrderSoon_6 fu n (a1 + (1 : Int32)) (zwI S 85 a1.toNatClampNeg r5))))
def f_M_laysOrderSoon (fu : Nat) (S : zSt) : Option zSt := zb1 (f_M_laysSoon fu S) (fun S2 => f_M_laysOrderSoon_6 fu fu (0 : Int32) S2)
set_option maxRecDepth 100000 in
set_option maxHeartbeats 4000000 in
theorem c_M_laysOrderSoon_6 {p : Program} {l : Launch} {e : Env} {s : State} {m : MethodId} {args : Array Value} {below : List Frame} {meth : Method} {c : Code} {G : zG} (C : zC p s m args meth c G b_M_laysOrderSoon 2 y_M_laysOrderSoon.cls) (hret : meth.sig.returnType = none) {fu : Nat} {S1 : zSt} : ∀ (n : Nat) (a1 : Int32) (S : zSt) , f_M_laysOrderSoon_6 fu n a1 S = some S1 → zJ p l e rm_M_laysOrderSoon s m args below meth c G true 2 0 0 (zQm below G args s rm_M_laysOrderSoon true none S1) S 6 [(0, zr (some 72)), (1, zi a1)] [] := by
  intro n
  induction n with
  | zero =>
    intro a1 S h
    cases h
  | succ n ih =>
    intro a1 S h
    rw [f_M_laysOrderSoon_6] at h
    refine z_iload_n C 1 rfl d_M_laysOrderSoon_6 rfl ?_
    refine z_aload_n C 0 rfl d_M_laysOrderSoon_7 rfl ?_
    obtain ⟨r2, h1, h⟩ := zb1_some h
    refine z_cV C 11 (by decide) (m_M_springMany l h1) mf_M_springMany lk_11_118 in_M_springMany se_M_springMany rfl zo_72 zk_72 ⟨rfl, rfl⟩ ⟨by decide, by decide⟩ ⟨Nat.zero_le _, Nat.zero_le _⟩ rfl _ [zi a1] rfl (Nat.le_of_ble_eq_true rfl) d_M_laysOrderSoon_8 ?_
    rcases zite h with ⟨c3, h⟩ | ⟨c3, h⟩
    · refine z_icmp_get C 37 c3 d_M_laysOrderSoon_11 (by decide) ?_
      cases h
      exact z_vret C hret ⟨Nat.zero_le _, Nat.zero_le _⟩ d_M_laysOrderSoon_37
    · refine z_icmp_gef C 37 c3 d_M_laysOrderSoon_11 (by decide) ?_
      refine z_aload_n C 0 rfl d_M_laysOrderSoon_14 rfl ?_
      refine z_getF2 C 11 (by decide) 29 (by decide) rfl 13 9 rfl (85) rfl zp_72 zk_72 zfl_11_62 d_M_laysOrderSoon_15 ?_
      refine z_iload_n C 1 rfl d_M_laysOrderSoon_18 rfl ?_
      refine z_aload_n C 0 rfl d_M_laysOrderSoon_19 rfl ?_
      refine z_aload_n C 0 rfl d_M_laysOrderSoon_20 rfl ?_
      refine z_getF2 C 11 (by decide) 2 (by decide) rfl 2 5807 rfl (74) rfl zp_72 zk_72 zfl_11_24 d_M_laysOrderSoon_21 ?_
      refine z_iconst C (0 : Int32) (by decide) d_M_laysOrderSoon_24 ?_
      refine z_fact (fun hSR => ?_)
      refine z_ialoadS C zo_74 zk_74 (za_74 hSR) (by decide) d_M_laysOrderSoon_25 ?_
      refine z_iload_n C 1 rfl d_M_laysOrderSoon_26 rfl ?_
      obtain ⟨r5, h4, h⟩ := zb1_some h
      refine z_cV C 11 (by decide) (m_M_soonOr l h4) mf_M_soonOr lk_11_378 in_M_soonOr se_M_soonOr rfl zo_72 zk_72 ⟨rfl, rfl⟩ ⟨by decide, by decide⟩ ⟨Nat.zero_le _, Nat.zero_le _⟩ rfl _ [zi a1, zr (some 85)] rfl (Nat.le_of_ble_eq_true rfl) d_M_laysOrderSoon_27 ?_
      refine z_fact (fun hSR => ?_)
      obtain ⟨g6, h⟩ := zgd_some h
      refine z_iastoreS C zo_85 zk_85 (za_85 hSR) g6 d_M_laysOrderSoon_30 ?_
      refine z_iinc C 1 (a1 + (1 : Int32)) [(1, zi (a1 + (1 : Int32))), (0, zr (some 72))] rfl d_M_laysOrderSoon_31 (by first | rfl | decide) (by decide) rfl ?_
      refine z_goto C 6 d_M_laysOrderSoon_34 (by decide) ?_
      refine zq_lsub [1, 0] [(0, zr (some 72)), (1, zi (a1 + (1 : Int32)))] rfl ?_
      exact ih (a1 + (1 : Int32)) (zwI S 85 a1.toNatClampNeg r5) h
set_option maxRecDepth 100000 in
set_option maxHeartbeats 4000000 in
theorem m_M_laysOrderSoon (l : Launch) {fu : Nat} {S : zSt} {S1 : zSt} (h : f_M_laysOrderSoon fu  S = some S1) : zPM l y_M_laysOrderSoon b_M_laysOrderSoon 2 none rm_M_laysOrderSoon true true [zr (some 72)] S none S1 := by
  refine zPM_of (by decide) (Nat.le_of_ble_eq_true rfl) (fun p e s m args below meth c G C hret hname => ?_)
  unfold f_M_laysOrderSoon at h
  refine (?_ : zJ p l e rm_M_laysOrderSoon s m args below meth c G true 2 0 0 (zQm below G args s rm_M_laysOrderSoon true none S1) S 0 [(0, zr (some 72))] [])
  refine z_aload_n C 0 rfl d_M_laysOrderSoon_0 rfl ?_
  obtain ⟨S2, h1, h⟩ := zb1_some h
  refine z_cV C 11 (by decide) (m_M_laysSoon l h1) mf_M_laysSoon lk_11_375 in_M_laysSoon se_M_laysSoon rfl zo_72 zk_72 ⟨rfl, rfl⟩ ⟨by decide, by decide⟩ ⟨Nat.zero_le _, Nat.zero_le _⟩ rfl _ [] rfl (Nat.le_of_ble_eq_true rfl) d_M_laysOrderSoon_1 ?_
  refine z_iconst C (0 : Int32) (by decide) d_M_laysOrderSoon_4 ?_
  refine z_istore_n C [(1, zi (0 : Int32)), (0, zr (some 72))] d_M_laysOrderSoon_5 rfl (by decide) rfl ?_
  refine zq_lsub [1, 0] [(0, zr (some 72)), (1, zi (0 : Int32))] rfl ?_
  exact c_M_laysOrderSoon_6 C hret fu  (0 : Int32) S2 h
def f_M_goesAlong_105 (fu : Nat) (k84 : Int32 → Int32 → Int32 → zSt → Option zSt) (a2 : Int32) (a3 : Int32) (a4 : Int32) (S : zSt) : Option zSt := zb2 (f_M_sumOf fu 64 a2 (zwI S 72 24 (0 : Int32))) (fun r2 S3 => zgd (0 ≤ a4 ∧ a4.toNatClampNeg < 2) (if (zI (zwL S3 96 a4.toNatClampNeg r2) 72 45) = 0 then k84 a2 a3 (a4 + (1 : Int32)) (zwI (zwL S3 96 a4.toNatClampNeg r2) 72 45 (0 : Int32)) else if (zI (zwL S3 96 a4.toNatClampNeg r2) 72 24) = 0 then k84 a2 a3 (a4 + (1 : Int32)) (zwI (zwL S3 96 a4.toNatClampNeg r2) 72 45 (1 : Int32)) else k84 a2 a3 (a4 + (1 : Int32)) (zwI (zwL S3 96 a4.toNatClampNeg r2) 72 45 (0 : Int32))))
def f_M_goesAlong_219 (fu : Nat) (k0 : Int32) (S : zSt) : Option zSt := zgd (k0 = 0 ∨ k0 = 1) (if (zI (zwI S 72 46 k0) 72 46) = 0 then some (zwI (zwI (zwI S 72 46 k0) 72 46 (0 : Int32)) 72 22 ((zI (zwI (zwI S 72 46 k0) 72 46 (0 : Int32)) 72 22) + (1 : Int32))) else if (zI (zwI S 72 46 k0) 72 24) = 0 then some (zwI (zwI (zwI S 72 46 k0) 72 46 (1 : Int32)) 72 22 ((zI (zwI (zwI S 72 46 k0) 72 46 (1 : Int32)) 72 22) + (1 : Int32))) else some (zwI (zwI (zwI S 72 46 k0) 72 46 (0 : Int32)) 72 22 ((zI (zwI (zwI S 72 46 k0) 72 46 (0 : Int32)) 72 22) + (1 : Int32))))
def f_M_goesAlong_192 (fu : Nat) (a2 : Int32) (S : zSt) : Option zSt := zb2 (f_M_passes0 (5 : Int32) (zwI S 72 24 (0 : Int32))) (fun r2 S3 => if r2 = 0 then f_M_goesAlong_219 fu (1 : Int32) S3 else zb2 (f_M_testOf fu 64 a2 S3) (fun r6 S7 => if r6 = 0 then f_M_goesAlong_219 fu (0 : Int32) S7 else f_M_goesAlong_219 fu (1 : Int32) S7))
def f_M_goesAlong_151 (fu : Nat) (a2 : Int32) (S : zSt) : Option zSt := zb2 (f_M_passes0 (25 : Int32) (zwI S 72 43 (1 : Int32))) (fun r2 S3 => if r2 = 0 then f_M_goesAlong_192 fu a2 S3 else zgd (0 ≤ ((3007 : Int32) + (zI S3 72 22)) ∧ ((3007 : Int32) + (zI S3 72 22)).toNatClampNeg < 5807) (f_M_goesAlong_192 fu a2 (zwI (zwI S3 72 43 (zI S3 74 ((3007 : Int32) + (zI S3 72 22)).toNatClampNeg)) 72 22 ((zI (zwI S3 72 43 (zI S3 74 ((3007 : Int32) + (zI S3 72 22)).toNatClampNeg)) 72 22) + (1 : Int32)))))
def f_M_goesAlong_84 (fu : Nat) : Nat → Int32 → Int32 → Int32 → zSt → Option zSt
  | 0, _, _, _, _ => none
  | n + 1, a2, a3, a4, S => if a3 ≤ a4 then f_M_goesAlong_151 fu a2 S else if a4 ≤ 0 then f_M_goesAlong_105 fu (f_M_goesAlong_84 fu n) a2 a3 a4 S else f_M_goesAlong_105 fu (f_M_goesAlong_84 fu n) a2 a3 a4 (zwI S 72 22 ((zI S 72 22) + (1 : Int32)))
def f_M_goesAlong_8 (fu : Nat) (a1 : Int32) (a2 : Int32) (S : zSt) : Option zSt := zb1 (f_M_codeAt (zI (zwI (zwI (zwI S 72 25 (1 : Int32)) 72 23 a1) 72 22 (zI (zwI (zwI S 72 25 (1 : Int32)) 72 23 a1) 72 42)) 72 22) (zwI (zwI (zwI S 72 25 (1 : Int32)) 72 23 a1) 72 22 (zI (zwI (zwI S 72 25 (1 : Int32)) 72 23 a1) 72 42))) (fun r2 => if (zI (zwI (zwI (zwI (zwI (zwI (zwI S 72 25 (1 : Int32)) 72 23 a1) 72 22 (zI (zwI (zwI S 72 25 (1 : Int32)) 72 23 a1) 72 42)) 72 44 r2) 72 22 ((zI (zwI (zwI (zwI (zwI S 72 25 (1 : Int32)) 72 23 a1) 72 22 (zI (zwI (zwI S 72 25 (1 : Int32)) 72 23 a1) 72 42)) 72 44 r2) 72 22) + (1 : Int32))) 72 45 (1 : Int32)) 72 44) = (24 : Int32) then f_M_goesAlong_84 fu fu a2 (0 : Int32) (0 : Int32) (zwI (zwI (zwI (zwI (zwI (zwI S 72 25 (1 : Int32)) 72 23 a1) 72 22 (zI (zwI (zwI S 72 25 (1 : Int32)) 72 23 a1) 72 42)) 72 44 r2) 72 22 ((zI (zwI (zwI (zwI (zwI S 72 25 (1 : Int32)) 72 23 a1) 72 22 (zI (zwI (zwI S 72 25 (1 : Int32)) 72 23 a1) 72 42)) 72 44 r2) 72 22) + (1 : Int32))) 72 45 (1 : Int32)) else if (zI (zwI (zwI (zwI (zwI (zwI (zwI S 72 25 (1 : Int32)) 72 23 a1) 72 22 (zI (zwI (zwI S 72 25 (1 : Int32)) 72 23 a1) 72 42)) 72 44 r2) 72 22 ((zI (zwI (zwI (zwI (zwI S 72 25 (1 : Int32)) 72 23 a1) 72 22 (zI (zwI (zwI S 72 25 (1 : Int32)) 72 23 a1) 72 42)) 72 44 r2) 72 22) + (1 : Int32))) 72 45 (1 : Int32)) 72 44) = (21 : Int32) then f_M_goesAlong_84 fu fu a2 (1 : Int32) (0 : Int32) (zwI (zwI (zwI (zwI (zwI (zwI S 72 25 (1 : Int32)) 72 23 a1) 72 22 (zI (zwI (zwI S 72 25 (1 : Int32)) 72 23 a1) 72 42)) 72 44 r2) 72 22 ((zI (zwI (zwI (zwI (zwI S 72 25 (1 : Int32)) 72 23 a1) 72 22 (zI (zwI (zwI S 72 25 (1 : Int32)) 72 23 a1) 72 42)) 72 44 r2) 72 22) + (1 : Int32))) 72 45 (1 : Int32)) else f_M_goesAlong_84 fu fu a2 (2 : Int32) (0 : Int32) (zwI (zwI (zwI (zwI (zwI (zwI S 72 25 (1 : Int32)) 72 23 a1) 72 22 (zI (zwI (zwI S 72 25 (1 : Int32)) 72 23 a1) 72 42)) 72 44 r2) 72 22 ((zI (zwI (zwI (zwI (zwI S 72 25 (1 : Int32)) 72 23 a1) 72 22 (zI (zwI (zwI S 72 25 (1 : Int32)) 72 23 a1) 72 42)) 72 44 r2) 72 22) + (1 : Int32))) 72 45 (1 : Int32)))
def f_M_goesAlong (fu : Nat) (a1 : Int32) (a2 : Int32) (S : zSt) : Option zSt := if a2 = 0 then f_M_goesAlong_8 fu a1 a2 S else zb1 (f_M_laysOrderSoon fu S) (fun S3 => f_M_goesAlong_8 fu a1 a2 S3)
set_option maxRecDepth 100000 in
set_option maxHeartbeats 4000000 in
theorem c_M_goesAlong_105 {p : Program} {l : Launch} {e : Env} {s : State} {m : MethodId} {args : Array Value} {below : List Frame} {meth : Method} {c : Code} {G : zG} (C : zC p s m args meth c G b_M_goesAlong 5 y_M_goesAlong.cls) (hret : meth.sig.returnType = none) {fu : Nat} {S1 : zSt} {k84 : Int32 → Int32 → Int32 → zSt → Option zSt} (hk84 : ∀ (a2 : Int32) (a3 : Int32) (a4 : Int32) (S : zSt) , k84 a2 a3 a4 S = some S1 → zJ p l e rm_M_goesAlong s m args below meth c G true 5 0 0 (zQm below G args s rm_M_goesAlong true none S1) S 84 [(0, zr (some 72)), (2, zi a2), (3, zi a3), (4, zi a4)] []) : ∀ (a2 : Int32) (a3 : Int32) (a4 : Int32) (S : zSt) , f_M_goesAlong_105 fu k84 a2 a3 a4 S = some S1 → zJ p l e rm_M_goesAlong s m args below meth c G true 5 0 0 (zQm below G args s rm_M_goesAlong true none S1) S 105 [(0, zr (some 72)), (2, zi a2), (3, zi a3), (4, zi a4)] [] := by
  intro a2 a3 a4 S h
  unfold f_M_goesAlong_105 at h
  refine z_aload_n C 0 rfl d_M_goesAlong_105 rfl ?_
  refine z_iconst C (0 : Int32) (by decide) d_M_goesAlong_106 ?_
  refine z_putI C 11 (by decide) 24 (by decide) rfl (Or.inr (Or.inl rfl)) zo_72 zk_72 zfl_11_278 (Or.inl rfl) d_M_goesAlong_107 ?_
  refine z_aload_n C 0 rfl d_M_goesAlong_110 rfl ?_
  refine z_getF2 C 11 (by decide) 47 (by decide) rfl 24 2 rfl (96) rfl zp_72 zk_72 zfl_11_99 d_M_goesAlong_111 ?_
  refine z_iload C 3 rfl d_M_goesAlong_114 ?_
  refine z_aload_n C 0 rfl d_M_goesAlong_116 rfl ?_
  refine z_iload_n C 1 rfl d_M_goesAlong_117 rfl ?_
  obtain ⟨r2, S3, h1, h⟩ := zb2_some h
  refine z_cV C 11 (by decide) (m_M_sumOf l h1) mf_M_sumOf lk_11_295 in_M_sumOf se_M_sumOf rfl zo_72 zk_72 ⟨rfl, rfl⟩ ⟨by decide, by decide⟩ ⟨Nat.zero_le _, Nat.zero_le _⟩ rfl _ [zi a4, zr (some 96)] rfl (Nat.le_of_ble_eq_true rfl) d_M_goesAlong_118 ?_
  refine z_fact (fun hSR => ?_)
  obtain ⟨g4, h⟩ := zgd_some h
  refine z_lastoreS C zo_96 zk_96 (za_96 hSR) g4 d_M_goesAlong_121 ?_
  refine z_aload_n C 0 rfl d_M_goesAlong_122 rfl ?_
  refine z_aload_n C 0 rfl d_M_goesAlong_123 rfl ?_
  refine z_getI C 11 (by decide) 45 (by decide) rfl zo_72 zk_72 zfl_11_454 d_M_goesAlong_124 ?_
  rcases zite h with ⟨c5, h⟩ | ⟨c5, h⟩
  · refine z_if_eqt C 141 c5 d_M_goesAlong_127 (by decide) ?_
    refine z_iconst C (0 : Int32) (by decide) d_M_goesAlong_141 ?_
    refine z_putI C 11 (by decide) 45 (by decide) rfl (Or.inr (Or.inl rfl)) zo_72 zk_72 zfl_11_454 (Or.inl rfl) d_M_goesAlong_142 ?_
    refine z_iinc C 3 (a4 + (1 : Int32)) [(4, zi (a4 + (1 : Int32))), (0, zr (some 72)), (2, zi a2), (3, zi a3)] rfl d_M_goesAlong_145 (by first | rfl | decide) (by decide) rfl ?_
    refine z_goto C 84 d_M_goesAlong_148 (by decide) ?_
    refine zq_lsub [1, 2, 3, 0] [(0, zr (some 72)), (2, zi a2), (3, zi a3), (4, zi (a4 + (1 : Int32)))] rfl ?_
    exact hk84 a2 a3 (a4 + (1 : Int32)) (zwI (zwL S3 96 a4.toNatClampNeg r2) 72 45 (0 : Int32)) h
  · refine z_if_eqf C 141 c5 d_M_goesAlong_127 (by decide) ?_
    refine z_aload_n C 0 rfl d_M_goesAlong_130 rfl ?_
    refine z_getI C 11 (by decide) 24 (by decide) rfl zo_72 zk_72 zfl_11_278 d_M_goesAlong_131 ?_
    rcases zite h with ⟨c6, h⟩ | ⟨c6, h⟩
    · refine z_if_nef C 141 c6 d_M_goesAlong_134 (by decide) ?_
      refine z_iconst C (1 : Int32) (by decide) d_M_goesAlong_137 ?_
      refine z_goto C 142 d_M_goesAlong_138 (by decide) ?_
      refine z_putI C 11 (by decide) 45 (by decide) rfl (Or.inr (Or.inr rfl)) zo_72 zk_72 zfl_11_454 (Or.inl rfl) d_M_goesAlong_142 ?_
      refine z_iinc C 3 (a4 + (1 : Int32)) [(4, zi (a4 + (1 : Int32))), (0, zr (some 72)), (2, zi a2), (3, zi a3)] rfl d_M_goesAlong_145 (by first | rfl | decide) (by decide) rfl ?_
      refine z_goto C 84 d_M_goesAlong_148 (by decide) ?_
      refine zq_lsub [1, 2, 3, 0] [(0, zr (some 72)), (2, zi a2), (3, zi a3), (4, zi (a4 + (1 : Int32)))] rfl ?_
      exact hk84 a2 a3 (a4 + (1 : Int32)) (zwI (zwL S3 96 a4.toNatClampNeg r2) 72 45 (1 : Int32)) h
    · refine z_if_net C 141 c6 d_M_goesAlong_134 (by decide) ?_
      refine z_iconst C (0 : Int32) (by decide) d_M_goesAlong_141 ?_
      refine z_putI C 11 (by decide) 45 (by decide) rfl (Or.inr (Or.inl rfl)) zo_72 zk_72 zfl_11_454 (Or.inl rfl) d_M_goesAlong_142 ?_
      refine z_iinc C 3 (a4 + (1 : Int32)) [(4, zi (a4 + (1 : Int32))), (0, zr (some 72)), (2, zi a2), (3, zi a3)] rfl d_M_goesAlong_145 (by first | rfl | decide) (by decide) rfl ?_
      refine z_goto C 84 d_M_goesAlong_148 (by decide) ?_
      refine zq_lsub [1, 2, 3, 0] [(0, zr (some 72)), (2, zi a2), (3, zi a3), (4, zi (a4 + (1 : Int32)))] rfl ?_
      exact hk84 a2 a3 (a4 + (1 : Int32)) (zwI (zwL S3 96 a4.toNatClampNeg r2) 72 45 (0 : Int32)) h
set_option maxRecDepth 100000 in
set_option maxHeartbeats 4000000 in
theorem c_M_goesAlong_219 {p : Program} {l : Launch} {e : Env} {s : State} {m : MethodId} {args : Array Value} {below : List Frame} {meth : Method} {c : Code} {G : zG} (C : zC p s m args meth c G b_M_goesAlong 5 y_M_goesAlong.cls) (hret : meth.sig.returnType = none) {fu : Nat} {S1 : zSt} : ∀ (k0 : Int32) (S : zSt) , f_M_goesAlong_219 fu k0 S = some S1 → zJ p l e rm_M_goesAlong s m args below meth c G true 5 0 0 (zQm below G args s rm_M_goesAlong true none S1) S 219 [(0, zr (some 72))] [zi k0, zr (some 72)] := by
  intro k0 S h
  unfold f_M_goesAlong_219 at h
  obtain ⟨g1, h⟩ := zgd_some h
  refine z_putI C 11 (by decide) 46 (by decide) rfl (Or.inr g1) zo_72 zk_72 zfl_11_460 (Or.inl rfl) d_M_goesAlong_219 ?_
  refine z_aload_n C 0 rfl d_M_goesAlong_222 rfl ?_
  refine z_aload_n C 0 rfl d_M_goesAlong_223 rfl ?_
  refine z_getI C 11 (by decide) 46 (by decide) rfl zo_72 zk_72 zfl_11_460 d_M_goesAlong_224 ?_
  rcases zite h with ⟨c2, h⟩ | ⟨c2, h⟩
  · refine z_if_eqt C 241 c2 d_M_goesAlong_227 (by decide) ?_
    refine z_iconst C (0 : Int32) (by decide) d_M_goesAlong_241 ?_
    refine z_putI C 11 (by decide) 46 (by decide) rfl (Or.inr (Or.inl rfl)) zo_72 zk_72 zfl_11_460 (Or.inl rfl) d_M_goesAlong_242 ?_
    refine z_aload_n C 0 rfl d_M_goesAlong_245 rfl ?_
    refine z_dup C rfl d_M_goesAlong_246 ?_
    refine z_getI C 11 (by decide) 22 (by decide) rfl zo_72 zk_72 zfl_11_268 d_M_goesAlong_247 ?_
    refine z_iconst C (1 : Int32) (by decide) d_M_goesAlong_250 ?_
    refine z_iadd C d_M_goesAlong_251 ?_
    refine z_putI C 11 (by decide) 22 (by decide) rfl (Or.inl rfl) zo_72 zk_72 zfl_11_268 (Or.inl rfl) d_M_goesAlong_252 ?_
    cases h
    exact z_vret C hret ⟨Nat.zero_le _, Nat.zero_le _⟩ d_M_goesAlong_255
  · refine z_if_eqf C 241 c2 d_M_goesAlong_227 (by decide) ?_
    refine z_aload_n C 0 rfl d_M_goesAlong_230 rfl ?_
    refine z_getI C 11 (by decide) 24 (by decide) rfl zo_72 zk_72 zfl_11_278 d_M_goesAlong_231 ?_
    rcases zite h with ⟨c3, h⟩ | ⟨c3, h⟩
    · refine z_if_nef C 241 c3 d_M_goesAlong_234 (by decide) ?_
      refine z_iconst C (1 : Int32) (by decide) d_M_goesAlong_237 ?_
      refine z_goto C 242 d_M_goesAlong_238 (by decide) ?_
      refine z_putI C 11 (by decide) 46 (by decide) rfl (Or.inr (Or.inr rfl)) zo_72 zk_72 zfl_11_460 (Or.inl rfl) d_M_goesAlong_242 ?_
      refine z_aload_n C 0 rfl d_M_goesAlong_245 rfl ?_
      refine z_dup C rfl d_M_goesAlong_246 ?_
      refine z_getI C 11 (by decide) 22 (by decide) rfl zo_72 zk_72 zfl_11_268 d_M_goesAlong_247 ?_
      refine z_iconst C (1 : Int32) (by decide) d_M_goesAlong_250 ?_
      refine z_iadd C d_M_goesAlong_251 ?_
      refine z_putI C 11 (by decide) 22 (by decide) rfl (Or.inl rfl) zo_72 zk_72 zfl_11_268 (Or.inl rfl) d_M_goesAlong_252 ?_
      cases h
      exact z_vret C hret ⟨Nat.zero_le _, Nat.zero_le _⟩ d_M_goesAlong_255
    · refine z_if_net C 241 c3 d_M_goesAlong_234 (by decide) ?_
      refine z_iconst C (0 : Int32) (by decide) d_M_goesAlong_241 ?_
      refine z_putI C 11 (by decide) 46 (by decide) rfl (Or.inr (Or.inl rfl)) zo_72 zk_72 zfl_11_460 (Or.inl rfl) d_M_goesAlong_242 ?_
      refine z_aload_n C 0 rfl d_M_goesAlong_245 rfl ?_
      refine z_dup C rfl d_M_goesAlong_246 ?_
      refine z_getI C 11 (by decide) 22 (by decide) rfl zo_72 zk_72 zfl_11_268 d_M_goesAlong_247 ?_
      refine z_iconst C (1 : Int32) (by decide) d_M_goesAlong_250 ?_
      refine z_iadd C d_M_goesAlong_251 ?_
      refine z_putI C 11 (by decide) 22 (by decide) rfl (Or.inl rfl) zo_72 zk_72 zfl_11_268 (Or.inl rfl) d_M_goesAlong_252 ?_
      cases h
      exact z_vret C hret ⟨Nat.zero_le _, Nat.zero_le _⟩ d_M_goesAlong_255
set_option maxRecDepth 100000 in
set_option maxHeartbeats 4000000 in
theorem c_M_goesAlong_192 {p : Program} {l : Launch} {e : Env} {s : State} {m : MethodId} {args : Array Value} {below : List Frame} {meth : Method} {c : Code} {G : zG} (C : zC p s m args meth c G b_M_goesAlong 5 y_M_goesAlong.cls) (hret : meth.sig.returnType = none) {fu : Nat} {S1 : zSt} : ∀ (a2 : Int32) (S : zSt) , f_M_goesAlong_192 fu a2 S = some S1 → zJ p l e rm_M_goesAlong s m args below meth c G true 5 0 0 (zQm below G args s rm_M_goesAlong true none S1) S 192 [(0, zr (some 72)), (2, zi a2)] [] := by
  intro a2 S h
  unfold f_M_goesAlong_192 at h
  refine z_aload_n C 0 rfl d_M_goesAlong_192 rfl ?_
  refine z_iconst C (0 : Int32) (by decide) d_M_goesAlong_193 ?_
  refine z_putI C 11 (by decide) 24 (by decide) rfl (Or.inr (Or.inl rfl)) zo_72 zk_72 zfl_11_278 (Or.inl rfl) d_M_goesAlong_194 ?_
  refine z_aload_n C 0 rfl d_M_goesAlong_197 rfl ?_
  refine z_aload_n C 0 rfl d_M_goesAlong_198 rfl ?_
  refine z_iconst C (5 : Int32) (by decide) d_M_goesAlong_199 ?_
  obtain ⟨r2, S3, h1, h⟩ := zb2_some h
  refine z_cV C 11 (by decide) (m_M_passes0 l h1) mf_M_passes0 lk_11_292 in_M_passes0 se_M_passes0 rfl zo_72 zk_72 ⟨rfl, rfl⟩ ⟨by decide, by decide⟩ ⟨Nat.zero_le _, Nat.zero_le _⟩ rfl _ [zr (some 72)] rfl (Nat.le_of_ble_eq_true rfl) d_M_goesAlong_200 ?_
  rcases zite h with ⟨c4, h⟩ | ⟨c4, h⟩
  · refine z_if_eqt C 214 c4 d_M_goesAlong_203 (by decide) ?_
    refine z_iconst C (1 : Int32) (by decide) d_M_goesAlong_214 ?_
    refine z_goto C 219 d_M_goesAlong_215 (by decide) ?_
    refine zq_lsub [0] [(0, zr (some 72))] rfl ?_
    exact c_M_goesAlong_219 C hret  (1 : Int32) S3 h
  · refine z_if_eqf C 214 c4 d_M_goesAlong_203 (by decide) ?_
    refine z_aload_n C 0 rfl d_M_goesAlong_206 rfl ?_
    refine z_iload_n C 1 rfl d_M_goesAlong_207 rfl ?_
    obtain ⟨r6, S7, h5, h⟩ := zb2_some h
    refine z_cV C 11 (by decide) (m_M_testOf l h5) mf_M_testOf lk_11_322 in_M_testOf se_M_testOf rfl zo_72 zk_72 ⟨rfl, rfl⟩ ⟨by decide, by decide⟩ ⟨Nat.zero_le _, Nat.zero_le _⟩ rfl _ [zr (some 72)] rfl (Nat.le_of_ble_eq_true rfl) d_M_goesAlong_208 ?_
    rcases zite h with ⟨c8, h⟩ | ⟨c8, h⟩
    · refine z_if_eqt C 218 c8 d_M_goesAlong_211 (by decide) ?_
      refine z_iconst C (0 : Int32) (by decide) d_M_goesAlong_218 ?_
      refine zq_lsub [0] [(0, zr (some 72))] rfl ?_
      exact c_M_goesAlong_219 C hret  (0 : Int32) S7 h
    · refine z_if_eqf C 218 c8 d_M_goesAlong_211 (by decide) ?_
      refine z_iconst C (1 : Int32) (by decide) d_M_goesAlong_214 ?_
      refine z_goto C 219 d_M_goesAlong_215 (by decide) ?_
      refine zq_lsub [0] [(0, zr (some 72))] rfl ?_
      exact c_M_goesAlong_219 C hret  (1 : Int32) S7 h
set_option maxRecDepth 100000 in
set_option maxHeartbeats 4000000 in
theorem c_M_goesAlong_151 {p : Program} {l : Launch} {e : Env} {s : State} {m : MethodId} {args : Array Value} {below : List Frame} {meth : Method} {c : Code} {G : zG} (C : zC p s m args meth c G b_M_goesAlong 5 y_M_goesAlong.cls) (hret : meth.sig.returnType = none) {fu : Nat} {S1 : zSt} : ∀ (a2 : Int32) (S : zSt) , f_M_goesAlong_151 fu a2 S = some S1 → zJ p l e rm_M_goesAlong s m args below meth c G true 5 0 0 (zQm below G args s rm_M_goesAlong true none S1) S 151 [(0, zr (some 72)), (2, zi a2)] [] := by
  intro a2 S h
  unfold f_M_goesAlong_151 at h
  refine z_aload_n C 0 rfl d_M_goesAlong_151 rfl ?_
  refine z_iconst C (1 : Int32) (by decide) d_M_goesAlong_152 ?_
  refine z_putI C 11 (by decide) 43 (by decide) rfl (Or.inl rfl) zo_72 zk_72 zfl_11_457 (Or.inl rfl) d_M_goesAlong_153 ?_
  refine z_aload_n C 0 rfl d_M_goesAlong_156 rfl ?_
  refine z_bipush C (25 : Int32) (by decide) d_M_goesAlong_157 ?_
  obtain ⟨r2, S3, h1, h⟩ := zb2_some h
  refine z_cV C 11 (by decide) (m_M_passes0 l h1) mf_M_passes0 lk_11_292 in_M_passes0 se_M_passes0 rfl zo_72 zk_72 ⟨rfl, rfl⟩ ⟨by decide, by decide⟩ ⟨Nat.zero_le _, Nat.zero_le _⟩ rfl _ [] rfl (Nat.le_of_ble_eq_true rfl) d_M_goesAlong_159 ?_
  rcases zite h with ⟨c4, h⟩ | ⟨c4, h⟩
  · refine z_if_eqt C 192 c4 d_M_goesAlong_162 (by decide) ?_
    refine zq_lsub [0, 1] [(0, zr (some 72)), (2, zi a2)] rfl ?_
    exact c_M_goesAlong_192 C hret  a2 S3 h
  · refine z_if_eqf C 192 c4 d_M_goesAlong_162 (by decide) ?_
    refine z_aload_n C 0 rfl d_M_goesAlong_165 rfl ?_
    refine z_aload_n C 0 rfl d_M_goesAlong_166 rfl ?_
    refine z_getF2 C 11 (by decide) 2 (by decide) rfl 2 5807 rfl (74) rfl zp_72 zk_72 zfl_11_24 d_M_goesAlong_167 ?_
    refine z_sipush C (3007 : Int32) (by decide) d_M_goesAlong_170 ?_
    refine z_aload_n C 0 rfl d_M_goesAlong_173 rfl ?_
    refine z_getI C 11 (by decide) 22 (by decide) rfl zo_72 zk_72 zfl_11_268 d_M_goesAlong_174 ?_
    refine z_iadd C d_M_goesAlong_177 ?_
    refine z_fact (fun hSR => ?_)
    obtain ⟨g5, h⟩ := zgd_some h
    refine z_ialoadS C zo_74 zk_74 (za_74 hSR) g5 d_M_goesAlong_178 ?_
    refine z_putI C 11 (by decide) 43 (by decide) rfl (Or.inl rfl) zo_72 zk_72 zfl_11_457 (Or.inl rfl) d_M_goesAlong_179 ?_
    refine z_aload_n C 0 rfl d_M_goesAlong_182 rfl ?_
    refine z_dup C rfl d_M_goesAlong_183 ?_
    refine z_getI C 11 (by decide) 22 (by decide) rfl zo_72 zk_72 zfl_11_268 d_M_goesAlong_184 ?_
    refine z_iconst C (1 : Int32) (by decide) d_M_goesAlong_187 ?_
    refine z_iadd C d_M_goesAlong_188 ?_
    refine z_putI C 11 (by decide) 22 (by decide) rfl (Or.inl rfl) zo_72 zk_72 zfl_11_268 (Or.inl rfl) d_M_goesAlong_189 ?_
    refine zq_lsub [0, 1] [(0, zr (some 72)), (2, zi a2)] rfl ?_
    exact c_M_goesAlong_192 C hret  a2 (zwI (zwI S3 72 43 (zI S3 74 ((3007 : Int32) + (zI S3 72 22)).toNatClampNeg)) 72 22 ((zI (zwI S3 72 43 (zI S3 74 ((3007 : Int32) + (zI S3 72 22)).toNatClampNeg)) 72 22) + (1 : Int32))) h
set_option maxRecDepth 100000 in
set_option maxHeartbeats 4000000 in
theorem c_M_goesAlong_84 {p : Program} {l : Launch} {e : Env} {s : State} {m : MethodId} {args : Array Value} {below : List Frame} {meth : Method} {c : Code} {G : zG} (C : zC p s m args meth c G b_M_goesAlong 5 y_M_goesAlong.cls) (hret : meth.sig.returnType = none) {fu : Nat} {S1 : zSt} : ∀ (n : Nat) (a2 : Int32) (a3 : Int32) (a4 : Int32) (S : zSt) , f_M_goesAlong_84 fu n a2 a3 a4 S = some S1 → zJ p l e rm_M_goesAlong s m args below meth c G true 5 0 0 (zQm below G args s rm_M_goesAlong true none S1) S 84 [(0, zr (some 72)), (2, zi a2), (3, zi a3), (4, zi a4)] [] := by
  intro n
  induction n with
  | zero =>
    intro a2 a3 a4 S h
    cases h
  | succ n ih =>
    intro a2 a3 a4 S h
    rw [f_M_goesAlong_84] at h
    refine z_iload C 3 rfl d_M_goesAlong_84 ?_
    refine z_iload_n C 2 rfl d_M_goesAlong_86 rfl ?_
    rcases zite h with ⟨c1, h⟩ | ⟨c1, h⟩
    · refine z_icmp_get C 151 c1 d_M_goesAlong_87 (by decide) ?_
      refine zq_lsub [0, 1] [(0, zr (some 72)), (2, zi a2)] rfl ?_
      exact c_M_goesAlong_151 C hret  a2 S h
    · refine z_icmp_gef C 151 c1 d_M_goesAlong_87 (by decide) ?_
      refine z_iload C 3 rfl d_M_goesAlong_90 ?_
      rcases zite h with ⟨c2, h⟩ | ⟨c2, h⟩
      · refine z_if_let C 105 c2 d_M_goesAlong_92 (by decide) ?_
        refine zq_lsub [0, 1, 2, 3] [(0, zr (some 72)), (2, zi a2), (3, zi a3), (4, zi a4)] rfl ?_
        exact c_M_goesAlong_105 C hret (fun z0 z1 z2 zS zh => ih z0 z1 z2 zS zh)  a2 a3 a4 S h
      · refine z_if_lef C 105 c2 d_M_goesAlong_92 (by decide) ?_
        refine z_aload_n C 0 rfl d_M_goesAlong_95 rfl ?_
        refine z_dup C rfl d_M_goesAlong_96 ?_
        refine z_getI C 11 (by decide) 22 (by decide) rfl zo_72 zk_72 zfl_11_268 d_M_goesAlong_97 ?_
        refine z_iconst C (1 : Int32) (by decide) d_M_goesAlong_100 ?_
        refine z_iadd C d_M_goesAlong_101 ?_
        refine z_putI C 11 (by decide) 22 (by decide) rfl (Or.inl rfl) zo_72 zk_72 zfl_11_268 (Or.inl rfl) d_M_goesAlong_102 ?_
        refine zq_lsub [0, 1, 2, 3] [(0, zr (some 72)), (2, zi a2), (3, zi a3), (4, zi a4)] rfl ?_
        exact c_M_goesAlong_105 C hret (fun z0 z1 z2 zS zh => ih z0 z1 z2 zS zh)  a2 a3 a4 (zwI S 72 22 ((zI S 72 22) + (1 : Int32))) h
set_option maxRecDepth 100000 in
set_option maxHeartbeats 4000000 in
theorem c_M_goesAlong_8 {p : Program} {l : Launch} {e : Env} {s : State} {m : MethodId} {args : Array Value} {below : List Frame} {meth : Method} {c : Code} {G : zG} (C : zC p s m args meth c G b_M_goesAlong 5 y_M_goesAlong.cls) (hret : meth.sig.returnType = none) {fu : Nat} {S1 : zSt} : ∀ (a1 : Int32) (a2 : Int32) (S : zSt) , f_M_goesAlong_8 fu a1 a2 S = some S1 → zJ p l e rm_M_goesAlong s m args below meth c G true 5 0 0 (zQm below G args s rm_M_goesAlong true none S1) S 8 [(0, zr (some 72)), (1, zi a1), (2, zi a2)] [] := by
  intro a1 a2 S h
  unfold f_M_goesAlong_8 at h
  refine z_aload_n C 0 rfl d_M_goesAlong_8 rfl ?_
  refine z_iconst C (1 : Int32) (by decide) d_M_goesAlong_9 ?_
  refine z_putI C 11 (by decide) 25 (by decide) rfl (Or.inr (Or.inr rfl)) zo_72 zk_72 zfl_11_298 (Or.inl rfl) d_M_goesAlong_10 ?_
  refine z_aload_n C 0 rfl d_M_goesAlong_13 rfl ?_
  refine z_iload_n C 1 rfl d_M_goesAlong_14 rfl ?_
  refine z_putI C 11 (by decide) 23 (by decide) rfl (Or.inl rfl) zo_72 zk_72 zfl_11_265 (Or.inl rfl) d_M_goesAlong_15 ?_
  refine z_aload_n C 0 rfl d_M_goesAlong_18 rfl ?_
  refine z_aload_n C 0 rfl d_M_goesAlong_19 rfl ?_
  refine z_getI C 11 (by decide) 42 (by decide) rfl zo_72 zk_72 zfl_11_439 d_M_goesAlong_20 ?_
  refine z_putI C 11 (by decide) 22 (by decide) rfl (Or.inl rfl) zo_72 zk_72 zfl_11_268 (Or.inl rfl) d_M_goesAlong_23 ?_
  refine z_aload_n C 0 rfl d_M_goesAlong_26 rfl ?_
  refine z_aload_n C 0 rfl d_M_goesAlong_27 rfl ?_
  refine z_aload_n C 0 rfl d_M_goesAlong_28 rfl ?_
  refine z_getI C 11 (by decide) 22 (by decide) rfl zo_72 zk_72 zfl_11_268 d_M_goesAlong_29 ?_
  obtain ⟨r2, h1, h⟩ := zb1_some h
  refine z_cV C 11 (by decide) (m_M_codeAt l h1) mf_M_codeAt lk_11_271 in_M_codeAt se_M_codeAt rfl zo_72 zk_72 ⟨rfl, rfl⟩ ⟨by decide, by decide⟩ ⟨Nat.zero_le _, Nat.zero_le _⟩ rfl _ [zr (some 72)] rfl (Nat.le_of_ble_eq_true rfl) d_M_goesAlong_32 ?_
  refine z_putI C 11 (by decide) 44 (by decide) rfl (Or.inl rfl) zo_72 zk_72 zfl_11_451 (Or.inl rfl) d_M_goesAlong_35 ?_
  refine z_aload_n C 0 rfl d_M_goesAlong_38 rfl ?_
  refine z_dup C rfl d_M_goesAlong_39 ?_
  refine z_getI C 11 (by decide) 22 (by decide) rfl zo_72 zk_72 zfl_11_268 d_M_goesAlong_40 ?_
  refine z_iconst C (1 : Int32) (by decide) d_M_goesAlong_43 ?_
  refine z_iadd C d_M_goesAlong_44 ?_
  refine z_putI C 11 (by decide) 22 (by decide) rfl (Or.inl rfl) zo_72 zk_72 zfl_11_268 (Or.inl rfl) d_M_goesAlong_45 ?_
  refine z_aload_n C 0 rfl d_M_goesAlong_48 rfl ?_
  refine z_iconst C (1 : Int32) (by decide) d_M_goesAlong_49 ?_
  refine z_putI C 11 (by decide) 45 (by decide) rfl (Or.inr (Or.inr rfl)) zo_72 zk_72 zfl_11_454 (Or.inl rfl) d_M_goesAlong_50 ?_
  refine z_aload_n C 0 rfl d_M_goesAlong_53 rfl ?_
  refine z_getI C 11 (by decide) 44 (by decide) rfl zo_72 zk_72 zfl_11_451 d_M_goesAlong_54 ?_
  refine z_bipush C (24 : Int32) (by decide) d_M_goesAlong_57 ?_
  rcases zite h with ⟨c3, h⟩ | ⟨c3, h⟩
  · refine z_icmp_nef C 66 c3 d_M_goesAlong_59 (by decide) ?_
    refine z_iconst C (0 : Int32) (by decide) d_M_goesAlong_62 ?_
    refine z_goto C 80 d_M_goesAlong_63 (by decide) ?_
    refine z_istore_n C [(3, zi (0 : Int32)), (0, zr (some 72)), (1, zi a1), (2, zi a2)] d_M_goesAlong_80 rfl (by decide) rfl ?_
    refine z_iconst C (0 : Int32) (by decide) d_M_goesAlong_81 ?_
    refine z_istore C [(4, zi (0 : Int32)), (3, zi (0 : Int32)), (0, zr (some 72)), (1, zi a1), (2, zi a2)] d_M_goesAlong_82 (by decide) rfl ?_
    refine zq_lsub [2, 4, 1, 0] [(0, zr (some 72)), (2, zi a2), (3, zi (0 : Int32)), (4, zi (0 : Int32))] rfl ?_
    exact c_M_goesAlong_84 C hret fu  a2 (0 : Int32) (0 : Int32) (zwI (zwI (zwI (zwI (zwI (zwI S 72 25 (1 : Int32)) 72 23 a1) 72 22 (zI (zwI (zwI S 72 25 (1 : Int32)) 72 23 a1) 72 42)) 72 44 r2) 72 22 ((zI (zwI (zwI (zwI (zwI S 72 25 (1 : Int32)) 72 23 a1) 72 22 (zI (zwI (zwI S 72 25 (1 : Int32)) 72 23 a1) 72 42)) 72 44 r2) 72 22) + (1 : Int32))) 72 45 (1 : Int32)) h
  · refine z_icmp_net C 66 c3 d_M_goesAlong_59 (by decide) ?_
    refine z_aload_n C 0 rfl d_M_goesAlong_66 rfl ?_
    refine z_getI C 11 (by decide) 44 (by decide) rfl zo_72 zk_72 zfl_11_451 d_M_goesAlong_67 ?_
    refine z_bipush C (21 : Int32) (by decide) d_M_goesAlong_70 ?_
    rcases zite h with ⟨c4, h⟩ | ⟨c4, h⟩
    · refine z_icmp_nef C 79 c4 d_M_goesAlong_72 (by decide) ?_
      refine z_iconst C (1 : Int32) (by decide) d_M_goesAlong_75 ?_
      refine z_goto C 80 d_M_goesAlong_76 (by decide) ?_
      refine z_istore_n C [(3, zi (1 : Int32)), (0, zr (some 72)), (1, zi a1), (2, zi a2)] d_M_goesAlong_80 rfl (by decide) rfl ?_
      refine z_iconst C (0 : Int32) (by decide) d_M_goesAlong_81 ?_
      refine z_istore C [(4, zi (0 : Int32)), (3, zi (1 : Int32)), (0, zr (some 72)), (1, zi a1), (2, zi a2)] d_M_goesAlong_82 (by decide) rfl ?_
      refine zq_lsub [2, 4, 1, 0] [(0, zr (some 72)), (2, zi a2), (3, zi (1 : Int32)), (4, zi (0 : Int32))] rfl ?_
      exact c_M_goesAlong_84 C hret fu  a2 (1 : Int32) (0 : Int32) (zwI (zwI (zwI (zwI (zwI (zwI S 72 25 (1 : Int32)) 72 23 a1) 72 22 (zI (zwI (zwI S 72 25 (1 : Int32)) 72 23 a1) 72 42)) 72 44 r2) 72 22 ((zI (zwI (zwI (zwI (zwI S 72 25 (1 : Int32)) 72 23 a1) 72 22 (zI (zwI (zwI S 72 25 (1 : Int32)) 72 23 a1) 72 42)) 72 44 r2) 72 22) + (1 : Int32))) 72 45 (1 : Int32)) h
    · refine z_icmp_net C 79 c4 d_M_goesAlong_72 (by decide) ?_
      refine z_iconst C (2 : Int32) (by decide) d_M_goesAlong_79 ?_
      refine z_istore_n C [(3, zi (2 : Int32)), (0, zr (some 72)), (1, zi a1), (2, zi a2)] d_M_goesAlong_80 rfl (by decide) rfl ?_
      refine z_iconst C (0 : Int32) (by decide) d_M_goesAlong_81 ?_
      refine z_istore C [(4, zi (0 : Int32)), (3, zi (2 : Int32)), (0, zr (some 72)), (1, zi a1), (2, zi a2)] d_M_goesAlong_82 (by decide) rfl ?_
      refine zq_lsub [2, 4, 1, 0] [(0, zr (some 72)), (2, zi a2), (3, zi (2 : Int32)), (4, zi (0 : Int32))] rfl ?_
      exact c_M_goesAlong_84 C hret fu  a2 (2 : Int32) (0 : Int32) (zwI (zwI (zwI (zwI (zwI (zwI S 72 25 (1 : Int32)) 72 23 a1) 72 22 (zI (zwI (zwI S 72 25 (1 : Int32)) 72 23 a1) 72 42)) 72 44 r2) 72 22 ((zI (zwI (zwI (zwI (zwI S 72 25 (1 : Int32)) 72 23 a1) 72 22 (zI (zwI (zwI S 72 25 (1 : Int32)) 72 23 a1) 72 42)) 72 44 r2) 72 22) + (1 : Int32))) 72 45 (1 : Int32)) h
set_option maxRecDepth 100000 in
set_option maxHeartbeats 4000000 in
theorem m_M_goesAlong (l : Launch) {fu : Nat} {a1 : Int32} {a2 : Int32} {S : zSt} {S1 : zSt} (h : f_M_goesAlong fu a1 a2 S = some S1) : zPM l y_M_goesAlong b_M_goesAlong 5 none rm_M_goesAlong true true [zr (some 72), zi a1, zi a2] S none S1 := by
  refine zPM_of (by decide) (Nat.le_of_ble_eq_true rfl) (fun p e s m args below meth c G C hret hname => ?_)
  unfold f_M_goesAlong at h
  refine (?_ : zJ p l e rm_M_goesAlong s m args below meth c G true 5 0 0 (zQm below G args s rm_M_goesAlong true none S1) S 0 [(0, zr (some 72)), (1, zi a1), (2, zi a2)] [])
  refine z_iload_n C 2 rfl d_M_goesAlong_0 rfl ?_
  rcases zite h with ⟨c1, h⟩ | ⟨c1, h⟩
  · refine z_if_eqt C 8 c1 d_M_goesAlong_1 (by decide) ?_
    refine zq_lsub [0, 1, 2] [(0, zr (some 72)), (1, zi a1), (2, zi a2)] rfl ?_
    exact c_M_goesAlong_8 C hret  a1 a2 S h
  · refine z_if_eqf C 8 c1 d_M_goesAlong_1 (by decide) ?_
    refine z_aload_n C 0 rfl d_M_goesAlong_4 rfl ?_
    obtain ⟨S3, h2, h⟩ := zb1_some h
    refine z_cV C 11 (by decide) (m_M_laysOrderSoon l h2) mf_M_laysOrderSoon lk_11_448 in_M_laysOrderSoon se_M_laysOrderSoon rfl zo_72 zk_72 ⟨rfl, rfl⟩ ⟨by decide, by decide⟩ ⟨Nat.zero_le _, Nat.zero_le _⟩ rfl _ [] rfl (Nat.le_of_ble_eq_true rfl) d_M_goesAlong_5 ?_
    refine zq_lsub [0, 1, 2] [(0, zr (some 72)), (1, zi a1), (2, zi a2)] rfl ?_
    exact c_M_goesAlong_8 C hret  a1 a2 S3 h
def f_M_small (a0 : Int64) : Option Int32 := if (lg_cmp a0 (0 : Int64)) < 0 then some (-1 : Int32) else if (lg_cmp a0 (1000000 : Int64)) ≤ 0 then some a0.toInt32 else some (-1 : Int32)
set_option maxRecDepth 100000 in
set_option maxHeartbeats 4000000 in
theorem m_M_small (l : Launch) {a0 : Int64} {S : zSt} {r : Int32} (h : f_M_small a0 = some r) : zPM l y_M_small b_M_small 2 (some .int) rm_M_small true true [zl a0] S (some (zi r)) S := by
  refine zPM_of (by decide) (Nat.le_of_ble_eq_true rfl) (fun p e s m args below meth c G C hret hname => ?_)
  unfold f_M_small at h
  refine (?_ : zJ p l e rm_M_small s m args below meth c G true 2 0 0 (zQm below G args s rm_M_small true (some (zi r)) S) S 0 [(0, zl a0)] [])
  refine z_lload_n C 0 rfl d_M_small_0 rfl ?_
  refine z_lconst C (0 : Int64) (by decide) d_M_small_1 ?_
  refine z_lcmp C d_M_small_2 ?_
  rcases zite h with ⟨c1, h⟩ | ⟨c1, h⟩
  · refine z_if_ltt C 14 c1 d_M_small_3 (by decide) ?_
    refine z_iconst C (-1 : Int32) (by decide) d_M_small_14 ?_
    refine z_goto C 20 d_M_small_15 (by decide) ?_
    cases h
    exact z_iret C .int hret rfl ⟨Nat.zero_le _, Nat.zero_le _⟩ d_M_small_20
  · refine z_if_ltf C 14 c1 d_M_small_3 (by decide) ?_
    refine z_lload_n C 0 rfl d_M_small_6 rfl ?_
    refine z_ldc2 C zc_11_463 d_M_small_7 ?_
    refine z_lcmp C d_M_small_10 ?_
    rcases zite h with ⟨c2, h⟩ | ⟨c2, h⟩
    · refine z_if_let C 18 c2 d_M_small_11 (by decide) ?_
      refine z_lload_n C 0 rfl d_M_small_18 rfl ?_
      refine z_l2i C d_M_small_19 ?_
      cases h
      exact z_iret C .int hret rfl ⟨Nat.zero_le _, Nat.zero_le _⟩ d_M_small_20
    · refine z_if_lef C 18 c2 d_M_small_11 (by decide) ?_
      refine z_iconst C (-1 : Int32) (by decide) d_M_small_14 ?_
      refine z_goto C 20 d_M_small_15 (by decide) ?_
      cases h
      exact z_iret C .int hret rfl ⟨Nat.zero_le _, Nat.zero_le _⟩ d_M_small_20
def f_M_obeys (fu : Nat) (S : zSt) : Option (Int32 × zSt) := if (zI S 72 44) = (22 : Int32) then zb1 (f_M_small (zL S 96 (0 : Int32).toNatClampNeg)) (fun r3 => zb1 (f_M_small (zL S 96 (1 : Int32).toNatClampNeg)) (fun r5 => zb2 (f_M_gatesKept fu r3 r5 S) (fun r7 S8 => some (r7, S8)))) else if (zI S 72 44) = (23 : Int32) then zb1 (f_M_small (zL S 96 (0 : Int32).toNatClampNeg)) (fun r11 => zb1 (f_M_small (zL S 96 (1 : Int32).toNatClampNeg)) (fun r13 => zb2 (f_M_stirsKept fu r11 r13 S) (fun r15 S16 => some (r15, S16)))) else if (zI S 72 44) = (24 : Int32) then zb2 (f_M_passesKept fu S) (fun r19 S20 => some (r19, S20)) else zb1 (f_M_small (zL S 96 (0 : Int32).toNatClampNeg)) (fun r22 => zb2 (f_M_swimsKept fu r22 S) (fun r24 S25 => if 0 ≤ r24 then some (r24, zwI S25 72 28 r24) else some (r24, zwI S25 72 28 (zI S25 72 28))))
set_option maxRecDepth 100000 in
set_option maxHeartbeats 4000000 in
theorem m_M_obeys (l : Launch) {fu : Nat} {S : zSt} {r : Int32} {S1 : zSt} (h : f_M_obeys fu  S = some (r, S1)) : zPM l y_M_obeys b_M_obeys 2 (some .int) rm_M_obeys true true [zr (some 72)] S (some (zi r)) S1 := by
  refine zPM_of (by decide) (Nat.le_of_ble_eq_true rfl) (fun p e s m args below meth c G C hret hname => ?_)
  unfold f_M_obeys at h
  refine (?_ : zJ p l e rm_M_obeys s m args below meth c G true 2 0 0 (zQm below G args s rm_M_obeys true (some (zi r)) S1) S 0 [(0, zr (some 72))] [])
  refine z_aload_n C 0 rfl d_M_obeys_0 rfl ?_
  refine z_getI C 11 (by decide) 44 (by decide) rfl zo_72 zk_72 zfl_11_451 d_M_obeys_1 ?_
  rcases zite h with ⟨c1, h⟩ | ⟨c1, h⟩
  · refine z_tab C (22 : Int32) 28 32 c1 (by decide) (by decide) (by decide) (by decide) d_M_obeys_4 ?_
    refine z_aload_n C 0 rfl d_M_obeys_32 rfl ?_
    refine z_aload_n C 0 rfl d_M_obeys_33 rfl ?_
    refine z_getF2 C 11 (by decide) 47 (by decide) rfl 24 2 rfl (96) rfl zp_72 zk_72 zfl_11_99 d_M_obeys_34 ?_
    refine z_iconst C (0 : Int32) (by decide) d_M_obeys_37 ?_
    refine z_fact (fun hSR => ?_)
    refine z_laloadS C zo_96 zk_96 (za_96 hSR) (by decide) d_M_obeys_38 ?_
    obtain ⟨r3, h2, h⟩ := zb1_some h
    refine z_cS C (m_M_small l h2) mf_M_small lk_11_465 st_M_small ⟨rfl, rfl⟩ ⟨by decide, by decide⟩ ⟨Nat.zero_le _, Nat.zero_le _⟩ rfl _ [zr (some 72)] rfl (Nat.le_of_ble_eq_true rfl) d_M_obeys_39 ?_
    refine z_aload_n C 0 rfl d_M_obeys_42 rfl ?_
    refine z_getF2 C 11 (by decide) 47 (by decide) rfl 24 2 rfl (96) rfl zp_72 zk_72 zfl_11_99 d_M_obeys_43 ?_
    refine z_iconst C (1 : Int32) (by decide) d_M_obeys_46 ?_
    refine z_fact (fun hSR => ?_)
    refine z_laloadS C zo_96 zk_96 (za_96 hSR) (by decide) d_M_obeys_47 ?_
    obtain ⟨r5, h4, h⟩ := zb1_some h
    refine z_cS C (m_M_small l h4) mf_M_small lk_11_465 st_M_small ⟨rfl, rfl⟩ ⟨by decide, by decide⟩ ⟨Nat.zero_le _, Nat.zero_le _⟩ rfl _ [zi r3, zr (some 72)] rfl (Nat.le_of_ble_eq_true rfl) d_M_obeys_48 ?_
    obtain ⟨r7, S8, h6, h⟩ := zb2_some h
    refine z_cV C 11 (by decide) (m_M_gatesKept l h6) mf_M_gatesKept lk_11_363 in_M_gatesKept se_M_gatesKept rfl zo_72 zk_72 ⟨rfl, rfl⟩ ⟨by decide, by decide⟩ ⟨Nat.zero_le _, Nat.zero_le _⟩ rfl _ [] rfl (Nat.le_of_ble_eq_true rfl) d_M_obeys_51 ?_
    cases h
    exact z_iret C .int hret rfl ⟨Nat.zero_le _, Nat.zero_le _⟩ d_M_obeys_54
  · rcases zite h with ⟨c9, h⟩ | ⟨c9, h⟩
    · refine z_tab C (23 : Int32) 51 55 c9 (by decide) (by decide) (by decide) (by decide) d_M_obeys_4 ?_
      refine z_aload_n C 0 rfl d_M_obeys_55 rfl ?_
      refine z_aload_n C 0 rfl d_M_obeys_56 rfl ?_
      refine z_getF2 C 11 (by decide) 47 (by decide) rfl 24 2 rfl (96) rfl zp_72 zk_72 zfl_11_99 d_M_obeys_57 ?_
      refine z_iconst C (0 : Int32) (by decide) d_M_obeys_60 ?_
      refine z_fact (fun hSR => ?_)
      refine z_laloadS C zo_96 zk_96 (za_96 hSR) (by decide) d_M_obeys_61 ?_
      obtain ⟨r11, h10, h⟩ := zb1_some h
      refine z_cS C (m_M_small l h10) mf_M_small lk_11_465 st_M_small ⟨rfl, rfl⟩ ⟨by decide, by decide⟩ ⟨Nat.zero_le _, Nat.zero_le _⟩ rfl _ [zr (some 72)] rfl (Nat.le_of_ble_eq_true rfl) d_M_obeys_62 ?_
      refine z_aload_n C 0 rfl d_M_obeys_65 rfl ?_
      refine z_getF2 C 11 (by decide) 47 (by decide) rfl 24 2 rfl (96) rfl zp_72 zk_72 zfl_11_99 d_M_obeys_66 ?_
      refine z_iconst C (1 : Int32) (by decide) d_M_obeys_69 ?_
      refine z_fact (fun hSR => ?_)
      refine z_laloadS C zo_96 zk_96 (za_96 hSR) (by decide) d_M_obeys_70 ?_
      obtain ⟨r13, h12, h⟩ := zb1_some h
      refine z_cS C (m_M_small l h12) mf_M_small lk_11_465 st_M_small ⟨rfl, rfl⟩ ⟨by decide, by decide⟩ ⟨Nat.zero_le _, Nat.zero_le _⟩ rfl _ [zi r11, zr (some 72)] rfl (Nat.le_of_ble_eq_true rfl) d_M_obeys_71 ?_
      obtain ⟨r15, S16, h14, h⟩ := zb2_some h
      refine z_cV C 11 (by decide) (m_M_stirsKept l h14) mf_M_stirsKept lk_11_366 in_M_stirsKept se_M_stirsKept rfl zo_72 zk_72 ⟨rfl, rfl⟩ ⟨by decide, by decide⟩ ⟨Nat.zero_le _, Nat.zero_le _⟩ rfl _ [] rfl (Nat.le_of_ble_eq_true rfl) d_M_obeys_74 ?_
      cases h
      exact z_iret C .int hret rfl ⟨Nat.zero_le _, Nat.zero_le _⟩ d_M_obeys_77
    · rcases zite h with ⟨c17, h⟩ | ⟨c17, h⟩
      · refine z_tab C (24 : Int32) 74 78 c17 (by decide) (by decide) (by decide) (by decide) d_M_obeys_4 ?_
        refine z_aload_n C 0 rfl d_M_obeys_78 rfl ?_
        obtain ⟨r19, S20, h18, h⟩ := zb2_some h
        refine z_cV C 11 (by decide) (m_M_passesKept l h18) mf_M_passesKept lk_11_369 in_M_passesKept se_M_passesKept rfl zo_72 zk_72 ⟨rfl, rfl⟩ ⟨by decide, by decide⟩ ⟨Nat.zero_le _, Nat.zero_le _⟩ rfl _ [] rfl (Nat.le_of_ble_eq_true rfl) d_M_obeys_79 ?_
        cases h
        exact z_iret C .int hret rfl ⟨Nat.zero_le _, Nat.zero_le _⟩ d_M_obeys_82
      · refine z_tabO C (22) 3 (by decide) (fun j hj => by match j, hj with | 0, _ => exact c1 | 1, _ => exact c9 | 2, _ => exact c17 | j + 3, hj => omega) 83 (by decide) d_M_obeys_4 ?_
        refine z_aload_n C 0 rfl d_M_obeys_83 rfl ?_
        refine z_aload_n C 0 rfl d_M_obeys_84 rfl ?_
        refine z_getF2 C 11 (by decide) 47 (by decide) rfl 24 2 rfl (96) rfl zp_72 zk_72 zfl_11_99 d_M_obeys_85 ?_
        refine z_iconst C (0 : Int32) (by decide) d_M_obeys_88 ?_
        refine z_fact (fun hSR => ?_)
        refine z_laloadS C zo_96 zk_96 (za_96 hSR) (by decide) d_M_obeys_89 ?_
        obtain ⟨r22, h21, h⟩ := zb1_some h
        refine z_cS C (m_M_small l h21) mf_M_small lk_11_465 st_M_small ⟨rfl, rfl⟩ ⟨by decide, by decide⟩ ⟨Nat.zero_le _, Nat.zero_le _⟩ rfl _ [zr (some 72)] rfl (Nat.le_of_ble_eq_true rfl) d_M_obeys_90 ?_
        obtain ⟨r24, S25, h23, h⟩ := zb2_some h
        refine z_cV C 11 (by decide) (m_M_swimsKept l h23) mf_M_swimsKept lk_11_357 in_M_swimsKept se_M_swimsKept rfl zo_72 zk_72 ⟨rfl, rfl⟩ ⟨by decide, by decide⟩ ⟨Nat.zero_le _, Nat.zero_le _⟩ rfl _ [] rfl (Nat.le_of_ble_eq_true rfl) d_M_obeys_93 ?_
        refine z_istore_n C [(1, zi r24), (0, zr (some 72))] d_M_obeys_96 rfl (by decide) rfl ?_
        refine z_aload_n C 1 rfl d_M_obeys_97 rfl ?_
        refine z_iload_n C 0 rfl d_M_obeys_98 rfl ?_
        rcases zite h with ⟨c26, h⟩ | ⟨c26, h⟩
        · refine z_if_get C 109 c26 d_M_obeys_99 (by decide) ?_
          refine z_iload_n C 0 rfl d_M_obeys_109 rfl ?_
          refine z_putI C 11 (by decide) 28 (by decide) rfl (Or.inl rfl) zo_72 zk_72 zfl_11_307 (Or.inl rfl) d_M_obeys_110 ?_
          refine z_iload_n C 0 rfl d_M_obeys_113 rfl ?_
          cases h
          exact z_iret C .int hret rfl ⟨Nat.zero_le _, Nat.zero_le _⟩ d_M_obeys_114
        · refine z_if_gef C 109 c26 d_M_obeys_99 (by decide) ?_
          refine z_aload_n C 1 rfl d_M_obeys_102 rfl ?_
          refine z_getI C 11 (by decide) 28 (by decide) rfl zo_72 zk_72 zfl_11_307 d_M_obeys_103 ?_
          refine z_goto C 110 d_M_obeys_106 (by decide) ?_
          refine z_putI C 11 (by decide) 28 (by decide) rfl (Or.inl rfl) zo_72 zk_72 zfl_11_307 (Or.inl rfl) d_M_obeys_110 ?_
          refine z_iload_n C 0 rfl d_M_obeys_113 rfl ?_
          cases h
          exact z_iret C .int hret rfl ⟨Nat.zero_le _, Nat.zero_le _⟩ d_M_obeys_114
def f_M_runs_73 (fu : Nat) (a3 : Int32) (S : zSt) : Option (Int32 × zSt) := some ((1 : Int32), zwI S 72 42 a3)
def f_M_runs_19 (fu : Nat) : Nat → Int32 → Int32 → Int32 → Int32 → zSt → Option (Int32 × zSt)
  | 0, _, _, _, _, _ => none
  | n + 1, a1, a2, a3, a4, S => if a2 ≤ a4 then f_M_runs_73 fu a3 S else zb1 (f_M_goesAlong fu a1 (1 : Int32) S) (fun S3 => if (zI S3 72 46) = 0 then f_M_runs_19 fu n a1 a2 a3 (a4 + (1 : Int32)) S3 else if (zI S3 72 45) = 0 then some ((0 : Int32), S3) else zb2 (f_M_obeys fu S3) (fun r7 S8 => if 0 ≤ r7 then f_M_runs_19 fu n a1 a2 a3 (a4 + (1 : Int32)) (zwI S8 72 27 ((zI S8 72 27) + (1 : Int32))) else some ((0 : Int32), S8)))
def f_M_runs (fu : Nat) (a1 : Int32) (S : zSt) : Option (Int32 × zSt) := zb1 (f_M_goesAlong fu a1 (0 : Int32) S) (fun S2 => f_M_runs_19 fu fu a1 (zI S2 72 43) (zI S2 72 22) (0 : Int32) S2)
set_option maxRecDepth 100000 in
set_option maxHeartbeats 4000000 in
theorem c_M_runs_73 {p : Program} {l : Launch} {e : Env} {s : State} {m : MethodId} {args : Array Value} {below : List Frame} {meth : Method} {c : Code} {G : zG} (C : zC p s m args meth c G b_M_runs 5 y_M_runs.cls) (hret : meth.sig.returnType = (some .boolean)) {fu : Nat} {r : Int32} {S1 : zSt} : ∀ (a3 : Int32) (S : zSt) , f_M_runs_73 fu a3 S = some (r, S1) → zJ p l e rm_M_runs s m args below meth c G true 5 0 0 (zQm below G args s rm_M_runs true (some (zi r)) S1) S 73 [(0, zr (some 72)), (3, zi a3)] [] := by
  intro a3 S h
  unfold f_M_runs_73 at h
  refine z_aload_n C 0 rfl d_M_runs_73 rfl ?_
  refine z_iload_n C 1 rfl d_M_runs_74 rfl ?_
  refine z_putI C 11 (by decide) 42 (by decide) rfl (Or.inl rfl) zo_72 zk_72 zfl_11_439 (Or.inl rfl) d_M_runs_75 ?_
  refine z_iconst C (1 : Int32) (by decide) d_M_runs_78 ?_
  cases h
  exact z_iret C .boolean hret rfl ⟨Nat.zero_le _, Nat.zero_le _⟩ d_M_runs_79
set_option maxRecDepth 100000 in
set_option maxHeartbeats 4000000 in
theorem c_M_runs_19 {p : Program} {l : Launch} {e : Env} {s : State} {m : MethodId} {args : Array Value} {below : List Frame} {meth : Method} {c : Code} {G : zG} (C : zC p s m args meth c G b_M_runs 5 y_M_runs.cls) (hret : meth.sig.returnType = (some .boolean)) {fu : Nat} {r : Int32} {S1 : zSt} : ∀ (n : Nat) (a1 : Int32) (a2 : Int32) (a3 : Int32) (a4 : Int32) (S : zSt) , f_M_runs_19 fu n a1 a2 a3 a4 S = some (r, S1) → zJ p l e rm_M_runs s m args below meth c G true 5 0 0 (zQm below G args s rm_M_runs true (some (zi r)) S1) S 19 [(0, zr (some 72)), (1, zi a1), (2, zi a2), (3, zi a3), (4, zi a4)] [] := by
  intro n
  induction n with
  | zero =>
    intro a1 a2 a3 a4 S h
    cases h
  | succ n ih =>
    intro a1 a2 a3 a4 S h
    rw [f_M_runs_19] at h
    refine z_iload C 4 rfl d_M_runs_19 ?_
    refine z_iload_n C 2 rfl d_M_runs_21 rfl ?_
    rcases zite h with ⟨c1, h⟩ | ⟨c1, h⟩
    · refine z_icmp_get C 73 c1 d_M_runs_22 (by decide) ?_
      refine zq_lsub [0, 3] [(0, zr (some 72)), (3, zi a3)] rfl ?_
      exact c_M_runs_73 C hret  a3 S h
    · refine z_icmp_gef C 73 c1 d_M_runs_22 (by decide) ?_
      refine z_aload_n C 0 rfl d_M_runs_25 rfl ?_
      refine z_iload_n C 1 rfl d_M_runs_26 rfl ?_
      refine z_iconst C (1 : Int32) (by decide) d_M_runs_27 ?_
      obtain ⟨S3, h2, h⟩ := zb1_some h
      refine z_cV C 11 (by decide) (m_M_goesAlong l h2) mf_M_goesAlong lk_11_469 in_M_goesAlong se_M_goesAlong rfl zo_72 zk_72 ⟨rfl, rfl⟩ ⟨by decide, by decide⟩ ⟨Nat.zero_le _, Nat.zero_le _⟩ rfl _ [] rfl (Nat.le_of_ble_eq_true rfl) d_M_runs_28 ?_
      refine z_aload_n C 0 rfl d_M_runs_31 rfl ?_
      refine z_getI C 11 (by decide) 46 (by decide) rfl zo_72 zk_72 zfl_11_460 d_M_runs_32 ?_
      rcases zite h with ⟨c4, h⟩ | ⟨c4, h⟩
      · refine z_if_nef C 41 c4 d_M_runs_35 (by decide) ?_
        refine z_goto C 67 d_M_runs_38 (by decide) ?_
        refine z_iinc C 4 (a4 + (1 : Int32)) [(4, zi (a4 + (1 : Int32))), (0, zr (some 72)), (1, zi a1), (2, zi a2), (3, zi a3)] rfl d_M_runs_67 (by first | rfl | decide) (by decide) rfl ?_
        refine z_goto C 19 d_M_runs_70 (by decide) ?_
        refine zq_lsub [1, 2, 3, 4, 0] [(0, zr (some 72)), (1, zi a1), (2, zi a2), (3, zi a3), (4, zi (a4 + (1 : Int32)))] rfl ?_
        exact ih a1 a2 a3 (a4 + (1 : Int32)) S3 h
      · refine z_if_net C 41 c4 d_M_runs_35 (by decide) ?_
        refine z_aload_n C 0 rfl d_M_runs_41 rfl ?_
        refine z_getI C 11 (by decide) 45 (by decide) rfl zo_72 zk_72 zfl_11_454 d_M_runs_42 ?_
        rcases zite h with ⟨c5, h⟩ | ⟨c5, h⟩
        · refine z_if_eqt C 55 c5 d_M_runs_45 (by decide) ?_
          refine z_iconst C (0 : Int32) (by decide) d_M_runs_55 ?_
          cases h
          exact z_iret C .boolean hret rfl ⟨Nat.zero_le _, Nat.zero_le _⟩ d_M_runs_56
        · refine z_if_eqf C 55 c5 d_M_runs_45 (by decide) ?_
          refine z_aload_n C 0 rfl d_M_runs_48 rfl ?_
          obtain ⟨r7, S8, h6, h⟩ := zb2_some h
          refine z_cV C 11 (by decide) (m_M_obeys l h6) mf_M_obeys lk_11_473 in_M_obeys se_M_obeys rfl zo_72 zk_72 ⟨rfl, rfl⟩ ⟨by decide, by decide⟩ ⟨Nat.zero_le _, Nat.zero_le _⟩ rfl _ [] rfl (Nat.le_of_ble_eq_true rfl) d_M_runs_49 ?_
          rcases zite h with ⟨c9, h⟩ | ⟨c9, h⟩
          · refine z_if_get C 57 c9 d_M_runs_52 (by decide) ?_
            refine z_aload_n C 0 rfl d_M_runs_57 rfl ?_
            refine z_dup C rfl d_M_runs_58 ?_
            refine z_getI C 11 (by decide) 27 (by decide) rfl zo_72 zk_72 zfl_11_304 d_M_runs_59 ?_
            refine z_iconst C (1 : Int32) (by decide) d_M_runs_62 ?_
            refine z_iadd C d_M_runs_63 ?_
            refine z_putI C 11 (by decide) 27 (by decide) rfl (Or.inl rfl) zo_72 zk_72 zfl_11_304 (Or.inl rfl) d_M_runs_64 ?_
            refine z_iinc C 4 (a4 + (1 : Int32)) [(4, zi (a4 + (1 : Int32))), (0, zr (some 72)), (1, zi a1), (2, zi a2), (3, zi a3)] rfl d_M_runs_67 (by first | rfl | decide) (by decide) rfl ?_
            refine z_goto C 19 d_M_runs_70 (by decide) ?_
            refine zq_lsub [1, 2, 3, 4, 0] [(0, zr (some 72)), (1, zi a1), (2, zi a2), (3, zi a3), (4, zi (a4 + (1 : Int32)))] rfl ?_
            exact ih a1 a2 a3 (a4 + (1 : Int32)) (zwI S8 72 27 ((zI S8 72 27) + (1 : Int32))) h
          · refine z_if_gef C 57 c9 d_M_runs_52 (by decide) ?_
            refine z_iconst C (0 : Int32) (by decide) d_M_runs_55 ?_
            cases h
            exact z_iret C .boolean hret rfl ⟨Nat.zero_le _, Nat.zero_le _⟩ d_M_runs_56
set_option maxRecDepth 100000 in
set_option maxHeartbeats 4000000 in
theorem m_M_runs (l : Launch) {fu : Nat} {a1 : Int32} {S : zSt} {r : Int32} {S1 : zSt} (h : f_M_runs fu a1 S = some (r, S1)) : zPM l y_M_runs b_M_runs 5 (some .boolean) rm_M_runs true true [zr (some 72), zi a1] S (some (zi r)) S1 := by
  refine zPM_of (by decide) (Nat.le_of_ble_eq_true rfl) (fun p e s m args below meth c G C hret hname => ?_)
  unfold f_M_runs at h
  refine (?_ : zJ p l e rm_M_runs s m args below meth c G true 5 0 0 (zQm below G args s rm_M_runs true (some (zi r)) S1) S 0 [(0, zr (some 72)), (1, zi a1)] [])
  refine z_aload_n C 0 rfl d_M_runs_0 rfl ?_
  refine z_iload_n C 1 rfl d_M_runs_1 rfl ?_
  refine z_iconst C (0 : Int32) (by decide) d_M_runs_2 ?_
  obtain ⟨S2, h1, h⟩ := zb1_some h
  refine z_cV C 11 (by decide) (m_M_goesAlong l h1) mf_M_goesAlong lk_11_469 in_M_goesAlong se_M_goesAlong rfl zo_72 zk_72 ⟨rfl, rfl⟩ ⟨by decide, by decide⟩ ⟨Nat.zero_le _, Nat.zero_le _⟩ rfl _ [] rfl (Nat.le_of_ble_eq_true rfl) d_M_runs_3 ?_
  refine z_aload_n C 0 rfl d_M_runs_6 rfl ?_
  refine z_getI C 11 (by decide) 43 (by decide) rfl zo_72 zk_72 zfl_11_457 d_M_runs_7 ?_
  refine z_istore_n C [(2, zi (zI S2 72 43)), (0, zr (some 72)), (1, zi a1)] d_M_runs_10 rfl (by decide) rfl ?_
  refine z_aload_n C 1 rfl d_M_runs_11 rfl ?_
  refine z_getI C 11 (by decide) 22 (by decide) rfl zo_72 zk_72 zfl_11_268 d_M_runs_12 ?_
  refine z_istore_n C [(3, zi (zI S2 72 22)), (2, zi (zI S2 72 43)), (0, zr (some 72)), (1, zi a1)] d_M_runs_15 rfl (by decide) rfl ?_
  refine z_iconst C (0 : Int32) (by decide) d_M_runs_16 ?_
  refine z_istore C [(4, zi (0 : Int32)), (3, zi (zI S2 72 22)), (2, zi (zI S2 72 43)), (0, zr (some 72)), (1, zi a1)] d_M_runs_17 (by decide) rfl ?_
  refine zq_lsub [3, 4, 2, 1, 0] [(0, zr (some 72)), (1, zi a1), (2, zi (zI S2 72 43)), (3, zi (zI S2 72 22)), (4, zi (0 : Int32))] rfl ?_
  exact c_M_runs_19 C hret fu  a1 (zI S2 72 43) (zI S2 72 22) (0 : Int32) S2 h
def f_M_takesBack_2 (fu : Nat) : Nat → Int32 → Int32 → zSt → Option zSt
  | 0, _, _, _ => none
  | n + 1, a1, a2, S => if (92 : Int32) ≤ a2 then some S else zgd (0 ≤ (((92 : Int32) * a1) + a2) ∧ (((92 : Int32) * a1) + a2).toNatClampNeg < 184) (zgd (0 ≤ a2 ∧ a2.toNatClampNeg < 5807) (f_M_takesBack_2 fu n a1 (a2 + (1 : Int32)) (zwI S 74 a2.toNatClampNeg (zI S 77 (((92 : Int32) * a1) + a2).toNatClampNeg))))
def f_M_takesBack (fu : Nat) (a1 : Int32) (S : zSt) : Option zSt := f_M_takesBack_2 fu fu a1 (0 : Int32) S
set_option maxRecDepth 100000 in
set_option maxHeartbeats 4000000 in
theorem c_M_takesBack_2 {p : Program} {l : Launch} {e : Env} {s : State} {m : MethodId} {args : Array Value} {below : List Frame} {meth : Method} {c : Code} {G : zG} (C : zC p s m args meth c G b_M_takesBack 3 y_M_takesBack.cls) (hret : meth.sig.returnType = none) {fu : Nat} {S1 : zSt} : ∀ (n : Nat) (a1 : Int32) (a2 : Int32) (S : zSt) , f_M_takesBack_2 fu n a1 a2 S = some S1 → zJ p l e rm_M_takesBack s m args below meth c G true 3 0 0 (zQm below G args s rm_M_takesBack true none S1) S 2 [(0, zr (some 72)), (1, zi a1), (2, zi a2)] [] := by
  intro n
  induction n with
  | zero =>
    intro a1 a2 S h
    cases h
  | succ n ih =>
    intro a1 a2 S h
    rw [f_M_takesBack_2] at h
    refine z_iload_n C 2 rfl d_M_takesBack_2 rfl ?_
    refine z_bipush C (92 : Int32) (by decide) d_M_takesBack_3 ?_
    rcases zite h with ⟨c1, h⟩ | ⟨c1, h⟩
    · refine z_icmp_get C 31 c1 d_M_takesBack_5 (by decide) ?_
      cases h
      exact z_vret C hret ⟨Nat.zero_le _, Nat.zero_le _⟩ d_M_takesBack_31
    · refine z_icmp_gef C 31 c1 d_M_takesBack_5 (by decide) ?_
      refine z_aload_n C 0 rfl d_M_takesBack_8 rfl ?_
      refine z_getF2 C 11 (by decide) 2 (by decide) rfl 2 5807 rfl (74) rfl zp_72 zk_72 zfl_11_24 d_M_takesBack_9 ?_
      refine z_iload_n C 2 rfl d_M_takesBack_12 rfl ?_
      refine z_aload_n C 0 rfl d_M_takesBack_13 rfl ?_
      refine z_getF2 C 11 (by decide) 5 (by decide) rfl 5 184 rfl (77) rfl zp_72 zk_72 zfl_11_34 d_M_takesBack_14 ?_
      refine z_bipush C (92 : Int32) (by decide) d_M_takesBack_17 ?_
      refine z_iload_n C 1 rfl d_M_takesBack_19 rfl ?_
      refine z_imul C d_M_takesBack_20 ?_
      refine z_iload_n C 2 rfl d_M_takesBack_21 rfl ?_
      refine z_iadd C d_M_takesBack_22 ?_
      refine z_fact (fun hSR => ?_)
      obtain ⟨g2, h⟩ := zgd_some h
      refine z_ialoadS C zo_77 zk_77 (za_77 hSR) g2 d_M_takesBack_23 ?_
      refine z_fact (fun hSR => ?_)
      obtain ⟨g3, h⟩ := zgd_some h
      refine z_iastoreS C zo_74 zk_74 (za_74 hSR) g3 d_M_takesBack_24 ?_
      refine z_iinc C 2 (a2 + (1 : Int32)) [(2, zi (a2 + (1 : Int32))), (0, zr (some 72)), (1, zi a1)] rfl d_M_takesBack_25 (by first | rfl | decide) (by decide) rfl ?_
      refine z_goto C 2 d_M_takesBack_28 (by decide) ?_
      refine zq_lsub [1, 2, 0] [(0, zr (some 72)), (1, zi a1), (2, zi (a2 + (1 : Int32)))] rfl ?_
      exact ih a1 (a2 + (1 : Int32)) (zwI S 74 a2.toNatClampNeg (zI S 77 (((92 : Int32) * a1) + a2).toNatClampNeg)) h
set_option maxRecDepth 100000 in
set_option maxHeartbeats 4000000 in
theorem m_M_takesBack (l : Launch) {fu : Nat} {a1 : Int32} {S : zSt} {S1 : zSt} (h : f_M_takesBack fu a1 S = some S1) : zPM l y_M_takesBack b_M_takesBack 3 none rm_M_takesBack true true [zr (some 72), zi a1] S none S1 := by
  refine zPM_of (by decide) (Nat.le_of_ble_eq_true rfl) (fun p e s m args below meth c G C hret hname => ?_)
  unfold f_M_takesBack at h
  refine (?_ : zJ p l e rm_M_takesBack s m args below meth c G true 3 0 0 (zQm below G args s rm_M_takesBack true none S1) S 0 [(0, zr (some 72)), (1, zi a1)] [])
  refine z_iconst C (0 : Int32) (by decide) d_M_takesBack_0 ?_
  refine z_istore_n C [(2, zi (0 : Int32)), (0, zr (some 72)), (1, zi a1)] d_M_takesBack_1 rfl (by decide) rfl ?_
  refine zq_lsub [1, 2, 0] [(0, zr (some 72)), (1, zi a1), (2, zi (0 : Int32))] rfl ?_
  exact c_M_takesBack_2 C hret fu  a1 (0 : Int32) S h
def f_M_orders_151 (fu : Nat) (a1 : Int32) (a3 : Int32) (S : zSt) : Option (Int32 × zSt) := zb2 (f_M_refuses (-3 : Int32) (zwI (zwI S 72 32 a1) 72 41 a3)) (fun r2 S3 => some (r2, S3))
def f_M_orders_123 (fu : Nat) : Nat → Int32 → Int32 → Int32 → zSt → Option (Int32 × zSt)
  | 0, _, _, _, _ => none
  | n + 1, a1, a3, a4, S => if (1488 : Int32) ≤ a4 then f_M_orders_151 fu a1 a3 S else zgd (0 ≤ a4 ∧ a4.toNatClampNeg < 1488) (zgd (0 ≤ a4 ∧ a4.toNatClampNeg < 1488) (f_M_orders_123 fu n a1 a3 (a4 + (1 : Int32)) (zwI S 86 a4.toNatClampNeg (zI S 87 a4.toNatClampNeg))))
def f_M_orders_115 (fu : Nat) (a1 : Int32) (a3 : Int32) (S : zSt) : Option (Int32 × zSt) := zb1 (f_M_takesBack fu (1 : Int32) S) (fun S2 => f_M_orders_123 fu fu a1 a3 (0 : Int32) S2)
def f_M_orders_174 (fu : Nat) (S : zSt) : Option (Int32 × zSt) := zb2 (f_M_good (zI S 72 27) S) (fun r2 S3 => some (r2, S3))
def f_M_orders_96 (fu : Nat) : Nat → Int32 → Int32 → Int32 → zSt → Option (Int32 × zSt)
  | 0, _, _, _, _ => none
  | n + 1, a1, a2, a3, S => if a2 ≤ (zI S 72 42) then f_M_orders_174 fu S else zb2 (f_M_runs fu a2 S) (fun r3 S4 => if r3 = 0 then f_M_orders_115 fu a1 a3 S4 else f_M_orders_96 fu n a1 a2 (a3 + (1 : Int32)) S4)
def f_M_orders_52 (fu : Nat) (S : zSt) : Option (Int32 × zSt) := zb1 (f_M_lays fu (6 : Int32) S) (fun S2 => f_M_orders_96 fu fu (zI S 72 32) ((zI (zwI (zwI (zwI S2 72 27 (0 : Int32)) 72 28 (-1 : Int32)) 72 42 (2400 : Int32)) 72 42) + (zI (zwI (zwI (zwI S2 72 27 (0 : Int32)) 72 28 (-1 : Int32)) 72 42 (2400 : Int32)) 74 (206 : Int32).toNatClampNeg)) (0 : Int32) (zwI (zwI (zwI S2 72 27 (0 : Int32)) 72 28 (-1 : Int32)) 72 42 (2400 : Int32)))
def f_M_orders_27 (fu : Nat) : Nat → Int32 → zSt → Option (Int32 × zSt)
  | 0, _, _ => none
  | n + 1, a1, S => if (1488 : Int32) ≤ a1 then f_M_orders_52 fu S else zgd (0 ≤ a1 ∧ a1.toNatClampNeg < 1488) (zgd (0 ≤ a1 ∧ a1.toNatClampNeg < 1488) (f_M_orders_27 fu n (a1 + (1 : Int32)) (zwI S 87 a1.toNatClampNeg (zI S 86 a1.toNatClampNeg))))
def f_M_orders (fu : Nat) (S : zSt) : Option (Int32 × zSt) := zb2 (f_M_readsAs fu (1 : Int32) (zwI S 72 41 (-1 : Int32))) (fun r2 S3 => if r2 = 0 then zb2 (f_M_refuses (-6 : Int32) S3) (fun r8 S9 => some (r8, S9)) else zb1 (f_M_laysAside fu (1 : Int32) S3) (fun S6 => f_M_orders_27 fu fu (0 : Int32) S6))
set_option maxRecDepth 100000 in
set_option maxHeartbeats 4000000 in
theorem c_M_orders_151 {p : Program} {l : Launch} {e : Env} {s : State} {m : MethodId} {args : Array Value} {below : List Frame} {meth : Method} {c : Code} {G : zG} (C : zC p s m args meth c G b_M_orders 5 y_M_orders.cls) (hret : meth.sig.returnType = (some .int)) {fu : Nat} {r : Int32} {S1 : zSt} : ∀ (a1 : Int32) (a3 : Int32) (S : zSt) , f_M_orders_151 fu a1 a3 S = some (r, S1) → zJ p l e rm_M_orders s m args below meth c G true 5 0 0 (zQm below G args s rm_M_orders true (some (zi r)) S1) S 151 [(0, zr (some 72)), (1, zi a1), (3, zi a3)] [] := by
  intro a1 a3 S h
  unfold f_M_orders_151 at h
  refine z_aload_n C 0 rfl d_M_orders_151 rfl ?_
  refine z_iload_n C 1 rfl d_M_orders_152 rfl ?_
  refine z_putI C 11 (by decide) 32 (by decide) rfl (Or.inl rfl) zo_72 zk_72 zfl_11_11 (Or.inl rfl) d_M_orders_153 ?_
  refine z_aload_n C 0 rfl d_M_orders_156 rfl ?_
  refine z_iload_n C 2 rfl d_M_orders_157 rfl ?_
  refine z_putI C 11 (by decide) 41 (by decide) rfl (Or.inl rfl) zo_72 zk_72 zfl_11_96 (Or.inl rfl) d_M_orders_158 ?_
  refine z_aload_n C 0 rfl d_M_orders_161 rfl ?_
  refine z_bipush C (-3 : Int32) (by decide) d_M_orders_162 ?_
  obtain ⟨r2, S3, h1, h⟩ := zb2_some h
  refine z_cV C 11 (by decide) (m_M_refuses l h1) mf_M_refuses lk_11_112 in_M_refuses se_M_refuses rfl zo_72 zk_72 ⟨rfl, rfl⟩ ⟨by decide, by decide⟩ ⟨Nat.zero_le _, Nat.zero_le _⟩ rfl _ [] rfl (Nat.le_of_ble_eq_true rfl) d_M_orders_164 ?_
  cases h
  exact z_iret C .int hret rfl ⟨Nat.zero_le _, Nat.zero_le _⟩ d_M_orders_167
set_option maxRecDepth 100000 in
set_option maxHeartbeats 4000000 in
theorem c_M_orders_123 {p : Program} {l : Launch} {e : Env} {s : State} {m : MethodId} {args : Array Value} {below : List Frame} {meth : Method} {c : Code} {G : zG} (C : zC p s m args meth c G b_M_orders 5 y_M_orders.cls) (hret : meth.sig.returnType = (some .int)) {fu : Nat} {r : Int32} {S1 : zSt} : ∀ (n : Nat) (a1 : Int32) (a3 : Int32) (a4 : Int32) (S : zSt) , f_M_orders_123 fu n a1 a3 a4 S = some (r, S1) → zJ p l e rm_M_orders s m args below meth c G true 5 0 0 (zQm below G args s rm_M_orders true (some (zi r)) S1) S 123 [(0, zr (some 72)), (1, zi a1), (3, zi a3), (4, zi a4)] [] := by
  intro n
  induction n with
  | zero =>
    intro a1 a3 a4 S h
    cases h
  | succ n ih =>
    intro a1 a3 a4 S h
    rw [f_M_orders_123] at h
    refine z_iload C 3 rfl d_M_orders_123 ?_
    refine z_sipush C (1488 : Int32) (by decide) d_M_orders_125 ?_
    rcases zite h with ⟨c1, h⟩ | ⟨c1, h⟩
    · refine z_icmp_get C 151 c1 d_M_orders_128 (by decide) ?_
      refine zq_lsub [0, 1, 2] [(0, zr (some 72)), (1, zi a1), (3, zi a3)] rfl ?_
      exact c_M_orders_151 C hret  a1 a3 S h
    · refine z_icmp_gef C 151 c1 d_M_orders_128 (by decide) ?_
      refine z_aload_n C 0 rfl d_M_orders_131 rfl ?_
      refine z_getF2 C 11 (by decide) 30 (by decide) rfl 14 1488 rfl (86) rfl zp_72 zk_72 zfl_11_65 d_M_orders_132 ?_
      refine z_iload C 3 rfl d_M_orders_135 ?_
      refine z_aload_n C 0 rfl d_M_orders_137 rfl ?_
      refine z_getF2 C 11 (by decide) 31 (by decide) rfl 15 1488 rfl (87) rfl zp_72 zk_72 zfl_11_68 d_M_orders_138 ?_
      refine z_iload C 3 rfl d_M_orders_141 ?_
      refine z_fact (fun hSR => ?_)
      obtain ⟨g2, h⟩ := zgd_some h
      refine z_ialoadS C zo_87 zk_87 (za_87 hSR) g2 d_M_orders_143 ?_
      refine z_fact (fun hSR => ?_)
      obtain ⟨g3, h⟩ := zgd_some h
      refine z_iastoreS C zo_86 zk_86 (za_86 hSR) g3 d_M_orders_144 ?_
      refine z_iinc C 3 (a4 + (1 : Int32)) [(4, zi (a4 + (1 : Int32))), (0, zr (some 72)), (1, zi a1), (3, zi a3)] rfl d_M_orders_145 (by first | rfl | decide) (by decide) rfl ?_
      refine z_goto C 123 d_M_orders_148 (by decide) ?_
      refine zq_lsub [1, 2, 3, 0] [(0, zr (some 72)), (1, zi a1), (3, zi a3), (4, zi (a4 + (1 : Int32)))] rfl ?_
      exact ih a1 a3 (a4 + (1 : Int32)) (zwI S 86 a4.toNatClampNeg (zI S 87 a4.toNatClampNeg)) h
set_option maxRecDepth 100000 in
set_option maxHeartbeats 4000000 in
theorem c_M_orders_115 {p : Program} {l : Launch} {e : Env} {s : State} {m : MethodId} {args : Array Value} {below : List Frame} {meth : Method} {c : Code} {G : zG} (C : zC p s m args meth c G b_M_orders 5 y_M_orders.cls) (hret : meth.sig.returnType = (some .int)) {fu : Nat} {r : Int32} {S1 : zSt} : ∀ (a1 : Int32) (a3 : Int32) (S : zSt) , f_M_orders_115 fu a1 a3 S = some (r, S1) → zJ p l e rm_M_orders s m args below meth c G true 5 0 0 (zQm below G args s rm_M_orders true (some (zi r)) S1) S 115 [(0, zr (some 72)), (1, zi a1), (3, zi a3)] [] := by
  intro a1 a3 S h
  unfold f_M_orders_115 at h
  refine z_aload_n C 0 rfl d_M_orders_115 rfl ?_
  refine z_iconst C (1 : Int32) (by decide) d_M_orders_116 ?_
  obtain ⟨S2, h1, h⟩ := zb1_some h
  refine z_cV C 11 (by decide) (m_M_takesBack l h1) mf_M_takesBack lk_11_445 in_M_takesBack se_M_takesBack rfl zo_72 zk_72 ⟨rfl, rfl⟩ ⟨by decide, by decide⟩ ⟨Nat.zero_le _, Nat.zero_le _⟩ rfl _ [] rfl (Nat.le_of_ble_eq_true rfl) d_M_orders_117 ?_
  refine z_iconst C (0 : Int32) (by decide) d_M_orders_120 ?_
  refine z_istore C [(4, zi (0 : Int32)), (0, zr (some 72)), (1, zi a1), (3, zi a3)] d_M_orders_121 (by decide) rfl ?_
  refine zq_lsub [1, 2, 3, 0] [(0, zr (some 72)), (1, zi a1), (3, zi a3), (4, zi (0 : Int32))] rfl ?_
  exact c_M_orders_123 C hret fu  a1 a3 (0 : Int32) S2 h
set_option maxRecDepth 100000 in
set_option maxHeartbeats 4000000 in
theorem c_M_orders_174 {p : Program} {l : Launch} {e : Env} {s : State} {m : MethodId} {args : Array Value} {below : List Frame} {meth : Method} {c : Code} {G : zG} (C : zC p s m args meth c G b_M_orders 5 y_M_orders.cls) (hret : meth.sig.returnType = (some .int)) {fu : Nat} {r : Int32} {S1 : zSt} : ∀ (S : zSt) , f_M_orders_174 fu  S = some (r, S1) → zJ p l e rm_M_orders s m args below meth c G true 5 0 0 (zQm below G args s rm_M_orders true (some (zi r)) S1) S 174 [(0, zr (some 72))] [] := by
  intro S h
  unfold f_M_orders_174 at h
  refine z_aload_n C 0 rfl d_M_orders_174 rfl ?_
  refine z_aload_n C 0 rfl d_M_orders_175 rfl ?_
  refine z_getI C 11 (by decide) 27 (by decide) rfl zo_72 zk_72 zfl_11_304 d_M_orders_176 ?_
  obtain ⟨r2, S3, h1, h⟩ := zb2_some h
  refine z_cV C 11 (by decide) (m_M_good l h1) mf_M_good lk_11_14 in_M_good se_M_good rfl zo_72 zk_72 ⟨rfl, rfl⟩ ⟨by decide, by decide⟩ ⟨Nat.zero_le _, Nat.zero_le _⟩ rfl _ [] rfl (Nat.le_of_ble_eq_true rfl) d_M_orders_179 ?_
  cases h
  exact z_iret C .int hret rfl ⟨Nat.zero_le _, Nat.zero_le _⟩ d_M_orders_182
set_option maxRecDepth 100000 in
set_option maxHeartbeats 4000000 in
theorem c_M_orders_96 {p : Program} {l : Launch} {e : Env} {s : State} {m : MethodId} {args : Array Value} {below : List Frame} {meth : Method} {c : Code} {G : zG} (C : zC p s m args meth c G b_M_orders 5 y_M_orders.cls) (hret : meth.sig.returnType = (some .int)) {fu : Nat} {r : Int32} {S1 : zSt} : ∀ (n : Nat) (a1 : Int32) (a2 : Int32) (a3 : Int32) (S : zSt) , f_M_orders_96 fu n a1 a2 a3 S = some (r, S1) → zJ p l e rm_M_orders s m args below meth c G true 5 0 0 (zQm below G args s rm_M_orders true (some (zi r)) S1) S 96 [(0, zr (some 72)), (1, zi a1), (2, zi a2), (3, zi a3)] [] := by
  intro n
  induction n with
  | zero =>
    intro a1 a2 a3 S h
    cases h
  | succ n ih =>
    intro a1 a2 a3 S h
    rw [f_M_orders_96] at h
    refine z_aload_n C 0 rfl d_M_orders_96 rfl ?_
    refine z_getI C 11 (by decide) 42 (by decide) rfl zo_72 zk_72 zfl_11_439 d_M_orders_97 ?_
    refine z_iload_n C 2 rfl d_M_orders_100 rfl ?_
    rcases zite h with ⟨c1, h⟩ | ⟨c1, h⟩
    · refine z_icmp_get C 174 c1 d_M_orders_101 (by decide) ?_
      refine zq_lsub [0] [(0, zr (some 72))] rfl ?_
      exact c_M_orders_174 C hret   S h
    · refine z_icmp_gef C 174 c1 d_M_orders_101 (by decide) ?_
      refine z_aload_n C 0 rfl d_M_orders_104 rfl ?_
      refine z_iload_n C 2 rfl d_M_orders_105 rfl ?_
      obtain ⟨r3, S4, h2, h⟩ := zb2_some h
      refine z_cV C 11 (by decide) (m_M_runs l h2) mf_M_runs lk_11_442 in_M_runs se_M_runs rfl zo_72 zk_72 ⟨rfl, rfl⟩ ⟨by decide, by decide⟩ ⟨Nat.zero_le _, Nat.zero_le _⟩ rfl _ [] rfl (Nat.le_of_ble_eq_true rfl) d_M_orders_106 ?_
      rcases zite h with ⟨c5, h⟩ | ⟨c5, h⟩
      · refine z_if_eqt C 115 c5 d_M_orders_109 (by decide) ?_
        refine zq_lsub [0, 1, 3] [(0, zr (some 72)), (1, zi a1), (3, zi a3)] rfl ?_
        exact c_M_orders_115 C hret  a1 a3 S4 h
      · refine z_if_eqf C 115 c5 d_M_orders_109 (by decide) ?_
        refine z_goto C 168 d_M_orders_112 (by decide) ?_
        refine z_iinc C 3 (a3 + (1 : Int32)) [(3, zi (a3 + (1 : Int32))), (0, zr (some 72)), (1, zi a1), (2, zi a2)] rfl d_M_orders_168 (by first | rfl | decide) (by decide) rfl ?_
        refine z_goto C 96 d_M_orders_171 (by decide) ?_
        refine zq_lsub [1, 2, 3, 0] [(0, zr (some 72)), (1, zi a1), (2, zi a2), (3, zi (a3 + (1 : Int32)))] rfl ?_
        exact ih a1 a2 (a3 + (1 : Int32)) S4 h
set_option maxRecDepth 100000 in
set_option maxHeartbeats 4000000 in
theorem c_M_orders_52 {p : Program} {l : Launch} {e : Env} {s : State} {m : MethodId} {args : Array Value} {below : List Frame} {meth : Method} {c : Code} {G : zG} (C : zC p s m args meth c G b_M_orders 5 y_M_orders.cls) (hret : meth.sig.returnType = (some .int)) {fu : Nat} {r : Int32} {S1 : zSt} : ∀ (S : zSt) , f_M_orders_52 fu  S = some (r, S1) → zJ p l e rm_M_orders s m args below meth c G true 5 0 0 (zQm below G args s rm_M_orders true (some (zi r)) S1) S 52 [(0, zr (some 72))] [] := by
  intro S h
  unfold f_M_orders_52 at h
  refine z_aload_n C 0 rfl d_M_orders_52 rfl ?_
  refine z_getI C 11 (by decide) 32 (by decide) rfl zo_72 zk_72 zfl_11_11 d_M_orders_53 ?_
  refine z_istore_n C [(1, zi (zI S 72 32)), (0, zr (some 72))] d_M_orders_56 rfl (by decide) rfl ?_
  refine z_aload_n C 1 rfl d_M_orders_57 rfl ?_
  refine z_bipush C (6 : Int32) (by decide) d_M_orders_58 ?_
  obtain ⟨S2, h1, h⟩ := zb1_some h
  refine z_cV C 11 (by decide) (m_M_lays l h1) mf_M_lays lk_11_259 in_M_lays se_M_lays rfl zo_72 zk_72 ⟨rfl, rfl⟩ ⟨by decide, by decide⟩ ⟨Nat.zero_le _, Nat.zero_le _⟩ rfl _ [] rfl (Nat.le_of_ble_eq_true rfl) d_M_orders_60 ?_
  refine z_aload_n C 1 rfl d_M_orders_63 rfl ?_
  refine z_iconst C (0 : Int32) (by decide) d_M_orders_64 ?_
  refine z_putI C 11 (by decide) 27 (by decide) rfl (Or.inl rfl) zo_72 zk_72 zfl_11_304 (Or.inl rfl) d_M_orders_65 ?_
  refine z_aload_n C 1 rfl d_M_orders_68 rfl ?_
  refine z_iconst C (-1 : Int32) (by decide) d_M_orders_69 ?_
  refine z_putI C 11 (by decide) 28 (by decide) rfl (Or.inl rfl) zo_72 zk_72 zfl_11_307 (Or.inl rfl) d_M_orders_70 ?_
  refine z_aload_n C 1 rfl d_M_orders_73 rfl ?_
  refine z_sipush C (2400 : Int32) (by decide) d_M_orders_74 ?_
  refine z_putI C 11 (by decide) 42 (by decide) rfl (Or.inl rfl) zo_72 zk_72 zfl_11_439 (Or.inl rfl) d_M_orders_77 ?_
  refine z_aload_n C 1 rfl d_M_orders_80 rfl ?_
  refine z_getI C 11 (by decide) 42 (by decide) rfl zo_72 zk_72 zfl_11_439 d_M_orders_81 ?_
  refine z_aload_n C 1 rfl d_M_orders_84 rfl ?_
  refine z_getF2 C 11 (by decide) 2 (by decide) rfl 2 5807 rfl (74) rfl zp_72 zk_72 zfl_11_24 d_M_orders_85 ?_
  refine z_sipush C (206 : Int32) (by decide) d_M_orders_88 ?_
  refine z_fact (fun hSR => ?_)
  refine z_ialoadS C zo_74 zk_74 (za_74 hSR) (by decide) d_M_orders_91 ?_
  refine z_iadd C d_M_orders_92 ?_
  refine z_istore_n C [(2, zi ((zI (zwI (zwI (zwI S2 72 27 (0 : Int32)) 72 28 (-1 : Int32)) 72 42 (2400 : Int32)) 72 42) + (zI (zwI (zwI (zwI S2 72 27 (0 : Int32)) 72 28 (-1 : Int32)) 72 42 (2400 : Int32)) 74 (206 : Int32).toNatClampNeg))), (1, zi (zI S 72 32)), (0, zr (some 72))] d_M_orders_93 rfl (by decide) rfl ?_
  refine z_iconst C (0 : Int32) (by decide) d_M_orders_94 ?_
  refine z_istore_n C [(3, zi (0 : Int32)), (2, zi ((zI (zwI (zwI (zwI S2 72 27 (0 : Int32)) 72 28 (-1 : Int32)) 72 42 (2400 : Int32)) 72 42) + (zI (zwI (zwI (zwI S2 72 27 (0 : Int32)) 72 28 (-1 : Int32)) 72 42 (2400 : Int32)) 74 (206 : Int32).toNatClampNeg))), (1, zi (zI S 72 32)), (0, zr (some 72))] d_M_orders_95 rfl (by decide) rfl ?_
  refine zq_lsub [3, 2, 1, 0] [(0, zr (some 72)), (1, zi (zI S 72 32)), (2, zi ((zI (zwI (zwI (zwI S2 72 27 (0 : Int32)) 72 28 (-1 : Int32)) 72 42 (2400 : Int32)) 72 42) + (zI (zwI (zwI (zwI S2 72 27 (0 : Int32)) 72 28 (-1 : Int32)) 72 42 (2400 : Int32)) 74 (206 : Int32).toNatClampNeg))), (3, zi (0 : Int32))] rfl ?_
  exact c_M_orders_96 C hret fu  (zI S 72 32) ((zI (zwI (zwI (zwI S2 72 27 (0 : Int32)) 72 28 (-1 : Int32)) 72 42 (2400 : Int32)) 72 42) + (zI (zwI (zwI (zwI S2 72 27 (0 : Int32)) 72 28 (-1 : Int32)) 72 42 (2400 : Int32)) 74 (206 : Int32).toNatClampNeg)) (0 : Int32) (zwI (zwI (zwI S2 72 27 (0 : Int32)) 72 28 (-1 : Int32)) 72 42 (2400 : Int32)) h
set_option maxRecDepth 100000 in
set_option maxHeartbeats 4000000 in
theorem c_M_orders_27 {p : Program} {l : Launch} {e : Env} {s : State} {m : MethodId} {args : Array Value} {below : List Frame} {meth : Method} {c : Code} {G : zG} (C : zC p s m args meth c G b_M_orders 5 y_M_orders.cls) (hret : meth.sig.returnType = (some .int)) {fu : Nat} {r : Int32} {S1 : zSt} : ∀ (n : Nat) (a1 : Int32) (S : zSt) , f_M_orders_27 fu n a1 S = some (r, S1) → zJ p l e rm_M_orders s m args below meth c G true 5 0 0 (zQm below G args s rm_M_orders true (some (zi r)) S1) S 27 [(0, zr (some 72)), (1, zi a1)] [] := by
  intro n
  induction n with
  | zero =>
    intro a1 S h
    cases h
  | succ n ih =>
    intro a1 S h
    rw [f_M_orders_27] at h
    refine z_iload_n C 1 rfl d_M_orders_27 rfl ?_
    refine z_sipush C (1488 : Int32) (by decide) d_M_orders_28 ?_
    rcases zite h with ⟨c1, h⟩ | ⟨c1, h⟩
    · refine z_icmp_get C 52 c1 d_M_orders_31 (by decide) ?_
      refine zq_lsub [0] [(0, zr (some 72))] rfl ?_
      exact c_M_orders_52 C hret   S h
    · refine z_icmp_gef C 52 c1 d_M_orders_31 (by decide) ?_
      refine z_aload_n C 0 rfl d_M_orders_34 rfl ?_
      refine z_getF2 C 11 (by decide) 31 (by decide) rfl 15 1488 rfl (87) rfl zp_72 zk_72 zfl_11_68 d_M_orders_35 ?_
      refine z_iload_n C 1 rfl d_M_orders_38 rfl ?_
      refine z_aload_n C 0 rfl d_M_orders_39 rfl ?_
      refine z_getF2 C 11 (by decide) 30 (by decide) rfl 14 1488 rfl (86) rfl zp_72 zk_72 zfl_11_65 d_M_orders_40 ?_
      refine z_iload_n C 1 rfl d_M_orders_43 rfl ?_
      refine z_fact (fun hSR => ?_)
      obtain ⟨g2, h⟩ := zgd_some h
      refine z_ialoadS C zo_86 zk_86 (za_86 hSR) g2 d_M_orders_44 ?_
      refine z_fact (fun hSR => ?_)
      obtain ⟨g3, h⟩ := zgd_some h
      refine z_iastoreS C zo_87 zk_87 (za_87 hSR) g3 d_M_orders_45 ?_
      refine z_iinc C 1 (a1 + (1 : Int32)) [(1, zi (a1 + (1 : Int32))), (0, zr (some 72))] rfl d_M_orders_46 (by first | rfl | decide) (by decide) rfl ?_
      refine z_goto C 27 d_M_orders_49 (by decide) ?_
      refine zq_lsub [1, 0] [(0, zr (some 72)), (1, zi (a1 + (1 : Int32)))] rfl ?_
      exact ih (a1 + (1 : Int32)) (zwI S 87 a1.toNatClampNeg (zI S 86 a1.toNatClampNeg)) h
set_option maxRecDepth 100000 in
set_option maxHeartbeats 4000000 in
theorem m_M_orders (l : Launch) {fu : Nat} {S : zSt} {r : Int32} {S1 : zSt} (h : f_M_orders fu  S = some (r, S1)) : zPM l y_M_orders b_M_orders 5 (some .int) rm_M_orders true true [zr (some 72)] S (some (zi r)) S1 := by
  refine zPM_of (by decide) (Nat.le_of_ble_eq_true rfl) (fun p e s m args below meth c G C hret hname => ?_)
  unfold f_M_orders at h
  refine (?_ : zJ p l e rm_M_orders s m args below meth c G true 5 0 0 (zQm below G args s rm_M_orders true (some (zi r)) S1) S 0 [(0, zr (some 72))] [])
  refine z_aload_n C 0 rfl d_M_orders_0 rfl ?_
  refine z_iconst C (-1 : Int32) (by decide) d_M_orders_1 ?_
  refine z_putI C 11 (by decide) 41 (by decide) rfl (Or.inl rfl) zo_72 zk_72 zfl_11_96 (Or.inl rfl) d_M_orders_2 ?_
  refine z_aload_n C 0 rfl d_M_orders_5 rfl ?_
  refine z_iconst C (1 : Int32) (by decide) d_M_orders_6 ?_
  obtain ⟨r2, S3, h1, h⟩ := zb2_some h
  refine z_cV C 11 (by decide) (m_M_readsAs l h1) mf_M_readsAs lk_11_255 in_M_readsAs se_M_readsAs rfl zo_72 zk_72 ⟨rfl, rfl⟩ ⟨by decide, by decide⟩ ⟨Nat.zero_le _, Nat.zero_le _⟩ rfl _ [] rfl (Nat.le_of_ble_eq_true rfl) d_M_orders_7 ?_
  rcases zite h with ⟨c4, h⟩ | ⟨c4, h⟩
  · refine z_if_nef C 20 c4 d_M_orders_10 (by decide) ?_
    refine z_aload_n C 0 rfl d_M_orders_13 rfl ?_
    refine z_bipush C (-6 : Int32) (by decide) d_M_orders_14 ?_
    obtain ⟨r8, S9, h7, h⟩ := zb2_some h
    refine z_cV C 11 (by decide) (m_M_refuses l h7) mf_M_refuses lk_11_112 in_M_refuses se_M_refuses rfl zo_72 zk_72 ⟨rfl, rfl⟩ ⟨by decide, by decide⟩ ⟨Nat.zero_le _, Nat.zero_le _⟩ rfl _ [] rfl (Nat.le_of_ble_eq_true rfl) d_M_orders_16 ?_
    cases h
    exact z_iret C .int hret rfl ⟨Nat.zero_le _, Nat.zero_le _⟩ d_M_orders_19
  · refine z_if_net C 20 c4 d_M_orders_10 (by decide) ?_
    refine z_aload_n C 0 rfl d_M_orders_20 rfl ?_
    refine z_iconst C (1 : Int32) (by decide) d_M_orders_21 ?_
    obtain ⟨S6, h5, h⟩ := zb1_some h
    refine z_cV C 11 (by decide) (m_M_laysAside l h5) mf_M_laysAside lk_11_436 in_M_laysAside se_M_laysAside rfl zo_72 zk_72 ⟨rfl, rfl⟩ ⟨by decide, by decide⟩ ⟨Nat.zero_le _, Nat.zero_le _⟩ rfl _ [] rfl (Nat.le_of_ble_eq_true rfl) d_M_orders_22 ?_
    refine z_iconst C (0 : Int32) (by decide) d_M_orders_25 ?_
    refine z_istore_n C [(1, zi (0 : Int32)), (0, zr (some 72))] d_M_orders_26 rfl (by decide) rfl ?_
    refine zq_lsub [1, 0] [(0, zr (some 72)), (1, zi (0 : Int32))] rfl ?_
    exact c_M_orders_27 C hret fu  (0 : Int32) S6 h
def f_M_draws (a1 : Int32) (S : zSt) : Option (Int32 × zSt) := zgd (¬ a1 = 0) (some ((zI (zwI S 72 50 (((((1103 : Int64) * ((zI S 72 50).toInt64)) + (12345 : Int64)) - (((1103 : Int64) * ((zI S 72 50).toInt64)) + (12345 : Int64)) / (1000003 : Int64) * (1000003 : Int64)).toInt32)) 72 50) - (zI (zwI S 72 50 (((((1103 : Int64) * ((zI S 72 50).toInt64)) + (12345 : Int64)) - (((1103 : Int64) * ((zI S 72 50).toInt64)) + (12345 : Int64)) / (1000003 : Int64) * (1000003 : Int64)).toInt32)) 72 50) / a1 * a1, zwI S 72 50 (((((1103 : Int64) * ((zI S 72 50).toInt64)) + (12345 : Int64)) - (((1103 : Int64) * ((zI S 72 50).toInt64)) + (12345 : Int64)) / (1000003 : Int64) * (1000003 : Int64)).toInt32)))
set_option maxRecDepth 100000 in
set_option maxHeartbeats 4000000 in
theorem m_M_draws (l : Launch) {a1 : Int32} {S : zSt} {r : Int32} {S1 : zSt} (h : f_M_draws a1 S = some (r, S1)) : zPM l y_M_draws b_M_draws 2 (some .int) rm_M_draws true true [zr (some 72), zi a1] S (some (zi r)) S1 := by
  refine zPM_of (by decide) (Nat.le_of_ble_eq_true rfl) (fun p e s m args below meth c G C hret hname => ?_)
  unfold f_M_draws at h
  refine (?_ : zJ p l e rm_M_draws s m args below meth c G true 2 0 0 (zQm below G args s rm_M_draws true (some (zi r)) S1) S 0 [(0, zr (some 72)), (1, zi a1)] [])
  refine z_aload_n C 0 rfl d_M_draws_0 rfl ?_
  refine z_ldc2 C zc_11_476 d_M_draws_1 ?_
  refine z_aload_n C 0 rfl d_M_draws_4 rfl ?_
  refine z_getI C 11 (by decide) 50 (by decide) rfl zo_72 zk_72 zfl_11_478 d_M_draws_5 ?_
  refine z_i2l C d_M_draws_8 ?_
  refine z_lmul C d_M_draws_9 ?_
  refine z_ldc2 C zc_11_481 d_M_draws_10 ?_
  refine z_ladd C d_M_draws_13 ?_
  refine z_ldc2 C zc_11_483 d_M_draws_14 ?_
  refine z_lrem C (by decide) d_M_draws_17 ?_
  refine z_l2i C d_M_draws_18 ?_
  refine z_putI C 11 (by decide) 50 (by decide) rfl (Or.inl rfl) zo_72 zk_72 zfl_11_478 (Or.inl rfl) d_M_draws_19 ?_
  refine z_aload_n C 0 rfl d_M_draws_22 rfl ?_
  refine z_getI C 11 (by decide) 50 (by decide) rfl zo_72 zk_72 zfl_11_478 d_M_draws_23 ?_
  refine z_iload_n C 1 rfl d_M_draws_26 rfl ?_
  obtain ⟨g1, h⟩ := zgd_some h
  refine z_irem C g1 d_M_draws_27 ?_
  cases h
  exact z_iret C .int hret rfl ⟨Nat.zero_le _, Nat.zero_le _⟩ d_M_draws_28
def f_M_drawnAct_73 (fu : Nat) (a1 : Int32) (a4 : Int32) (S : zSt) : Option (Int32 × zSt) := if a4 = (2 : Int32) then zb2 (f_M_isPassed fu (zI S 74 (0 : Int32).toNatClampNeg) a1 S) (fun r3 S4 => if r3 = 0 then some ((0 : Int32), S4) else zb2 (f_M_takesFor fu (zI S4 74 (0 : Int32).toNatClampNeg) a1 S4) (fun r7 S8 => some (r7, zwI S8 74 (0 : Int32).toNatClampNeg a1))) else some ((0 : Int32), S)
def f_M_drawnAct (fu : Nat) (S : zSt) : Option (Int32 × zSt) := zb1 (f_M_springMany S) (fun r2 => zb2 (f_M_draws r2 S) (fun r4 S5 => zb1 (f_M_springMany S5) (fun r7 => zb2 (f_M_draws r7 S5) (fun r9 S10 => zb2 (f_M_draws (10 : Int32) S10) (fun r12 S13 => zb2 (f_M_draws (4 : Int32) S13) (fun r15 S16 => if r15 = 0 then if r4 = r9 then if r15 = (1 : Int32) then zgd (0 ≤ ((1 : Int32) + r4) ∧ ((1 : Int32) + r4).toNatClampNeg < 5807) (f_M_drawnAct_73 fu r4 r15 (zwI S16 74 ((1 : Int32) + r4).toNatClampNeg r12)) else f_M_drawnAct_73 fu r4 r15 S16 else zb1 (f_M_farOf r4 r9 S16) (fun r24 => if r24 ≤ 0 then if r15 = (1 : Int32) then zgd (0 ≤ ((1 : Int32) + r4) ∧ ((1 : Int32) + r4).toNatClampNeg < 5807) (f_M_drawnAct_73 fu r4 r15 (zwI S16 74 ((1 : Int32) + r4).toNatClampNeg r12)) else f_M_drawnAct_73 fu r4 r15 S16 else zb2 (f_M_turnsGate r4 r9 S16) (fun r29 S30 => if r15 = (1 : Int32) then zgd (0 ≤ ((1 : Int32) + r4) ∧ ((1 : Int32) + r4).toNatClampNeg < 5807) (f_M_drawnAct_73 fu r4 r15 (zwI S30 74 ((1 : Int32) + r4).toNatClampNeg r12)) else f_M_drawnAct_73 fu r4 r15 S30)) else if r15 = (1 : Int32) then zgd (0 ≤ ((1 : Int32) + r4) ∧ ((1 : Int32) + r4).toNatClampNeg < 5807) (f_M_drawnAct_73 fu r4 r15 (zwI S16 74 ((1 : Int32) + r4).toNatClampNeg r12)) else f_M_drawnAct_73 fu r4 r15 S16))))))
set_option maxRecDepth 100000 in
set_option maxHeartbeats 4000000 in
theorem c_M_drawnAct_73 {p : Program} {l : Launch} {e : Env} {s : State} {m : MethodId} {args : Array Value} {below : List Frame} {meth : Method} {c : Code} {G : zG} (C : zC p s m args meth c G b_M_drawnAct 6 y_M_drawnAct.cls) (hret : meth.sig.returnType = (some .int)) {fu : Nat} {r : Int32} {S1 : zSt} : ∀ (a1 : Int32) (a4 : Int32) (S : zSt) , f_M_drawnAct_73 fu a1 a4 S = some (r, S1) → zJ p l e rm_M_drawnAct s m args below meth c G true 6 0 0 (zQm below G args s rm_M_drawnAct true (some (zi r)) S1) S 73 [(0, zr (some 72)), (1, zi a1), (4, zi a4)] [] := by
  intro a1 a4 S h
  unfold f_M_drawnAct_73 at h
  refine z_iload C 2 rfl d_M_drawnAct_73 ?_
  refine z_iconst C (2 : Int32) (by decide) d_M_drawnAct_75 ?_
  rcases zite h with ⟨c1, h⟩ | ⟨c1, h⟩
  · refine z_icmp_nef C 93 c1 d_M_drawnAct_76 (by decide) ?_
    refine z_aload_n C 0 rfl d_M_drawnAct_79 rfl ?_
    refine z_aload_n C 0 rfl d_M_drawnAct_80 rfl ?_
    refine z_getF2 C 11 (by decide) 2 (by decide) rfl 2 5807 rfl (74) rfl zp_72 zk_72 zfl_11_24 d_M_drawnAct_81 ?_
    refine z_iconst C (0 : Int32) (by decide) d_M_drawnAct_84 ?_
    refine z_fact (fun hSR => ?_)
    refine z_ialoadS C zo_74 zk_74 (za_74 hSR) (by decide) d_M_drawnAct_85 ?_
    refine z_iload_n C 1 rfl d_M_drawnAct_86 rfl ?_
    obtain ⟨r3, S4, h2, h⟩ := zb2_some h
    refine z_cV C 11 (by decide) (m_M_isPassed l h2) mf_M_isPassed lk_11_345 in_M_isPassed se_M_isPassed rfl zo_72 zk_72 ⟨rfl, rfl⟩ ⟨by decide, by decide⟩ ⟨Nat.zero_le _, Nat.zero_le _⟩ rfl _ [] rfl (Nat.le_of_ble_eq_true rfl) d_M_drawnAct_87 ?_
    rcases zite h with ⟨c5, h⟩ | ⟨c5, h⟩
    · refine z_if_nef C 95 c5 d_M_drawnAct_90 (by decide) ?_
      refine z_iconst C (0 : Int32) (by decide) d_M_drawnAct_93 ?_
      cases h
      exact z_iret C .int hret rfl ⟨Nat.zero_le _, Nat.zero_le _⟩ d_M_drawnAct_94
    · refine z_if_net C 95 c5 d_M_drawnAct_90 (by decide) ?_
      refine z_aload_n C 0 rfl d_M_drawnAct_95 rfl ?_
      refine z_aload_n C 0 rfl d_M_drawnAct_96 rfl ?_
      refine z_getF2 C 11 (by decide) 2 (by decide) rfl 2 5807 rfl (74) rfl zp_72 zk_72 zfl_11_24 d_M_drawnAct_97 ?_
      refine z_iconst C (0 : Int32) (by decide) d_M_drawnAct_100 ?_
      refine z_fact (fun hSR => ?_)
      refine z_ialoadS C zo_74 zk_74 (za_74 hSR) (by decide) d_M_drawnAct_101 ?_
      refine z_iload_n C 1 rfl d_M_drawnAct_102 rfl ?_
      obtain ⟨r7, S8, h6, h⟩ := zb2_some h
      refine z_cV C 11 (by decide) (m_M_takesFor l h6) mf_M_takesFor lk_11_144 in_M_takesFor se_M_takesFor rfl zo_72 zk_72 ⟨rfl, rfl⟩ ⟨by decide, by decide⟩ ⟨Nat.zero_le _, Nat.zero_le _⟩ rfl _ [] rfl (Nat.le_of_ble_eq_true rfl) d_M_drawnAct_103 ?_
      refine z_istore C [(5, zi r7), (0, zr (some 72)), (1, zi a1), (4, zi a4)] d_M_drawnAct_106 (by decide) rfl ?_
      refine z_aload_n C 1 rfl d_M_drawnAct_108 rfl ?_
      refine z_getF2 C 11 (by decide) 2 (by decide) rfl 2 5807 rfl (74) rfl zp_72 zk_72 zfl_11_24 d_M_drawnAct_109 ?_
      refine z_iconst C (0 : Int32) (by decide) d_M_drawnAct_112 ?_
      refine z_iload_n C 2 rfl d_M_drawnAct_113 rfl ?_
      refine z_fact (fun hSR => ?_)
      refine z_iastoreS C zo_74 zk_74 (za_74 hSR) (by decide) d_M_drawnAct_114 ?_
      refine z_iload C 0 rfl d_M_drawnAct_115 ?_
      cases h
      exact z_iret C .int hret rfl ⟨Nat.zero_le _, Nat.zero_le _⟩ d_M_drawnAct_117
  · refine z_icmp_net C 93 c1 d_M_drawnAct_76 (by decide) ?_
    refine z_iconst C (0 : Int32) (by decide) d_M_drawnAct_93 ?_
    cases h
    exact z_iret C .int hret rfl ⟨Nat.zero_le _, Nat.zero_le _⟩ d_M_drawnAct_94
set_option maxRecDepth 100000 in
set_option maxHeartbeats 4000000 in
theorem m_M_drawnAct (l : Launch) {fu : Nat} {S : zSt} {r : Int32} {S1 : zSt} (h : f_M_drawnAct fu  S = some (r, S1)) : zPM l y_M_drawnAct b_M_drawnAct 6 (some .int) rm_M_drawnAct true true [zr (some 72)] S (some (zi r)) S1 := by
  refine zPM_of (by decide) (Nat.le_of_ble_eq_true rfl) (fun p e s m args below meth c G C hret hname => ?_)
  unfold f_M_drawnAct at h
  refine (?_ : zJ p l e rm_M_drawnAct s m args below meth c G true 6 0 0 (zQm below G args s rm_M_drawnAct true (some (zi r)) S1) S 0 [(0, zr (some 72))] [])
  refine z_aload_n C 0 rfl d_M_drawnAct_0 rfl ?_
  refine z_aload_n C 0 rfl d_M_drawnAct_1 rfl ?_
  obtain ⟨r2, h1, h⟩ := zb1_some h
  refine z_cV C 11 (by decide) (m_M_springMany l h1) mf_M_springMany lk_11_118 in_M_springMany se_M_springMany rfl zo_72 zk_72 ⟨rfl, rfl⟩ ⟨by decide, by decide⟩ ⟨Nat.zero_le _, Nat.zero_le _⟩ rfl _ [zr (some 72)] rfl (Nat.le_of_ble_eq_true rfl) d_M_drawnAct_2 ?_
  obtain ⟨r4, S5, h3, h⟩ := zb2_some h
  refine z_cV C 11 (by decide) (m_M_draws l h3) mf_M_draws lk_11_485 in_M_draws se_M_draws rfl zo_72 zk_72 ⟨rfl, rfl⟩ ⟨by decide, by decide⟩ ⟨Nat.zero_le _, Nat.zero_le _⟩ rfl _ [] rfl (Nat.le_of_ble_eq_true rfl) d_M_drawnAct_5 ?_
  refine z_istore_n C [(1, zi r4), (0, zr (some 72))] d_M_drawnAct_8 rfl (by decide) rfl ?_
  refine z_aload_n C 1 rfl d_M_drawnAct_9 rfl ?_
  refine z_aload_n C 1 rfl d_M_drawnAct_10 rfl ?_
  obtain ⟨r7, h6, h⟩ := zb1_some h
  refine z_cV C 11 (by decide) (m_M_springMany l h6) mf_M_springMany lk_11_118 in_M_springMany se_M_springMany rfl zo_72 zk_72 ⟨rfl, rfl⟩ ⟨by decide, by decide⟩ ⟨Nat.zero_le _, Nat.zero_le _⟩ rfl _ [zr (some 72)] rfl (Nat.le_of_ble_eq_true rfl) d_M_drawnAct_11 ?_
  obtain ⟨r9, S10, h8, h⟩ := zb2_some h
  refine z_cV C 11 (by decide) (m_M_draws l h8) mf_M_draws lk_11_485 in_M_draws se_M_draws rfl zo_72 zk_72 ⟨rfl, rfl⟩ ⟨by decide, by decide⟩ ⟨Nat.zero_le _, Nat.zero_le _⟩ rfl _ [] rfl (Nat.le_of_ble_eq_true rfl) d_M_drawnAct_14 ?_
  refine z_istore_n C [(2, zi r9), (1, zi r4), (0, zr (some 72))] d_M_drawnAct_17 rfl (by decide) rfl ?_
  refine z_aload_n C 2 rfl d_M_drawnAct_18 rfl ?_
  refine z_bipush C (10 : Int32) (by decide) d_M_drawnAct_19 ?_
  obtain ⟨r12, S13, h11, h⟩ := zb2_some h
  refine z_cV C 11 (by decide) (m_M_draws l h11) mf_M_draws lk_11_485 in_M_draws se_M_draws rfl zo_72 zk_72 ⟨rfl, rfl⟩ ⟨by decide, by decide⟩ ⟨Nat.zero_le _, Nat.zero_le _⟩ rfl _ [] rfl (Nat.le_of_ble_eq_true rfl) d_M_drawnAct_21 ?_
  refine z_istore_n C [(3, zi r12), (2, zi r9), (1, zi r4), (0, zr (some 72))] d_M_drawnAct_24 rfl (by decide) rfl ?_
  refine z_aload_n C 3 rfl d_M_drawnAct_25 rfl ?_
  refine z_iconst C (4 : Int32) (by decide) d_M_drawnAct_26 ?_
  obtain ⟨r15, S16, h14, h⟩ := zb2_some h
  refine z_cV C 11 (by decide) (m_M_draws l h14) mf_M_draws lk_11_485 in_M_draws se_M_draws rfl zo_72 zk_72 ⟨rfl, rfl⟩ ⟨by decide, by decide⟩ ⟨Nat.zero_le _, Nat.zero_le _⟩ rfl _ [] rfl (Nat.le_of_ble_eq_true rfl) d_M_drawnAct_27 ?_
  refine z_istore C [(4, zi r15), (3, zi r12), (2, zi r9), (1, zi r4), (0, zr (some 72))] d_M_drawnAct_30 (by decide) rfl ?_
  refine z_iload C 0 rfl d_M_drawnAct_32 ?_
  rcases zite h with ⟨c17, h⟩ | ⟨c17, h⟩
  · refine z_if_nef C 58 c17 d_M_drawnAct_34 (by decide) ?_
    refine z_iload_n C 3 rfl d_M_drawnAct_37 rfl ?_
    refine z_iload_n C 2 rfl d_M_drawnAct_38 rfl ?_
    rcases zite h with ⟨c20, h⟩ | ⟨c20, h⟩
    · refine z_icmp_eqt C 58 c20 d_M_drawnAct_39 (by decide) ?_
      refine z_iload C 0 rfl d_M_drawnAct_58 ?_
      refine z_iconst C (1 : Int32) (by decide) d_M_drawnAct_60 ?_
      rcases zite h with ⟨c21, h⟩ | ⟨c21, h⟩
      · refine z_icmp_nef C 73 c21 d_M_drawnAct_61 (by decide) ?_
        refine z_aload_n C 4 rfl d_M_drawnAct_64 rfl ?_
        refine z_getF2 C 11 (by decide) 2 (by decide) rfl 2 5807 rfl (74) rfl zp_72 zk_72 zfl_11_24 d_M_drawnAct_65 ?_
        refine z_iconst C (1 : Int32) (by decide) d_M_drawnAct_68 ?_
        refine z_iload_n C 3 rfl d_M_drawnAct_69 rfl ?_
        refine z_iadd C d_M_drawnAct_70 ?_
        refine z_iload_n C 1 rfl d_M_drawnAct_71 rfl ?_
        refine z_fact (fun hSR => ?_)
        obtain ⟨g22, h⟩ := zgd_some h
        refine z_iastoreS C zo_74 zk_74 (za_74 hSR) g22 d_M_drawnAct_72 ?_
        refine zq_lsub [4, 3, 0] [(0, zr (some 72)), (1, zi r4), (4, zi r15)] rfl ?_
        exact c_M_drawnAct_73 C hret  r4 r15 (zwI S16 74 ((1 : Int32) + r4).toNatClampNeg r12) h
      · refine z_icmp_net C 73 c21 d_M_drawnAct_61 (by decide) ?_
        refine zq_lsub [4, 3, 0] [(0, zr (some 72)), (1, zi r4), (4, zi r15)] rfl ?_
        exact c_M_drawnAct_73 C hret  r4 r15 S16 h
    · refine z_icmp_eqf C 58 c20 d_M_drawnAct_39 (by decide) ?_
      refine z_aload_n C 4 rfl d_M_drawnAct_42 rfl ?_
      refine z_iload_n C 3 rfl d_M_drawnAct_43 rfl ?_
      refine z_iload_n C 2 rfl d_M_drawnAct_44 rfl ?_
      obtain ⟨r24, h23, h⟩ := zb1_some h
      refine z_cV C 11 (by decide) (m_M_farOf l h23) mf_M_farOf lk_11_134 in_M_farOf se_M_farOf rfl zo_72 zk_72 ⟨rfl, rfl⟩ ⟨by decide, by decide⟩ ⟨Nat.zero_le _, Nat.zero_le _⟩ rfl _ [] rfl (Nat.le_of_ble_eq_true rfl) d_M_drawnAct_45 ?_
      rcases zite h with ⟨c25, h⟩ | ⟨c25, h⟩
      · refine z_if_let C 58 c25 d_M_drawnAct_48 (by decide) ?_
        refine z_iload C 0 rfl d_M_drawnAct_58 ?_
        refine z_iconst C (1 : Int32) (by decide) d_M_drawnAct_60 ?_
        rcases zite h with ⟨c26, h⟩ | ⟨c26, h⟩
        · refine z_icmp_nef C 73 c26 d_M_drawnAct_61 (by decide) ?_
          refine z_aload_n C 4 rfl d_M_drawnAct_64 rfl ?_
          refine z_getF2 C 11 (by decide) 2 (by decide) rfl 2 5807 rfl (74) rfl zp_72 zk_72 zfl_11_24 d_M_drawnAct_65 ?_
          refine z_iconst C (1 : Int32) (by decide) d_M_drawnAct_68 ?_
          refine z_iload_n C 3 rfl d_M_drawnAct_69 rfl ?_
          refine z_iadd C d_M_drawnAct_70 ?_
          refine z_iload_n C 1 rfl d_M_drawnAct_71 rfl ?_
          refine z_fact (fun hSR => ?_)
          obtain ⟨g27, h⟩ := zgd_some h
          refine z_iastoreS C zo_74 zk_74 (za_74 hSR) g27 d_M_drawnAct_72 ?_
          refine zq_lsub [4, 3, 0] [(0, zr (some 72)), (1, zi r4), (4, zi r15)] rfl ?_
          exact c_M_drawnAct_73 C hret  r4 r15 (zwI S16 74 ((1 : Int32) + r4).toNatClampNeg r12) h
        · refine z_icmp_net C 73 c26 d_M_drawnAct_61 (by decide) ?_
          refine zq_lsub [4, 3, 0] [(0, zr (some 72)), (1, zi r4), (4, zi r15)] rfl ?_
          exact c_M_drawnAct_73 C hret  r4 r15 S16 h
      · refine z_if_lef C 58 c25 d_M_drawnAct_48 (by decide) ?_
        refine z_aload_n C 4 rfl d_M_drawnAct_51 rfl ?_
        refine z_iload_n C 3 rfl d_M_drawnAct_52 rfl ?_
        refine z_iload_n C 2 rfl d_M_drawnAct_53 rfl ?_
        obtain ⟨r29, S30, h28, h⟩ := zb2_some h
        refine z_cV C 11 (by decide) (m_M_turnsGate l h28) mf_M_turnsGate lk_11_351 in_M_turnsGate se_M_turnsGate rfl zo_72 zk_72 ⟨rfl, rfl⟩ ⟨by decide, by decide⟩ ⟨Nat.zero_le _, Nat.zero_le _⟩ rfl _ [] rfl (Nat.le_of_ble_eq_true rfl) d_M_drawnAct_54 ?_
        refine z_pop C rfl d_M_drawnAct_57 ?_
        refine z_iload C 0 rfl d_M_drawnAct_58 ?_
        refine z_iconst C (1 : Int32) (by decide) d_M_drawnAct_60 ?_
        rcases zite h with ⟨c31, h⟩ | ⟨c31, h⟩
        · refine z_icmp_nef C 73 c31 d_M_drawnAct_61 (by decide) ?_
          refine z_aload_n C 4 rfl d_M_drawnAct_64 rfl ?_
          refine z_getF2 C 11 (by decide) 2 (by decide) rfl 2 5807 rfl (74) rfl zp_72 zk_72 zfl_11_24 d_M_drawnAct_65 ?_
          refine z_iconst C (1 : Int32) (by decide) d_M_drawnAct_68 ?_
          refine z_iload_n C 3 rfl d_M_drawnAct_69 rfl ?_
          refine z_iadd C d_M_drawnAct_70 ?_
          refine z_iload_n C 1 rfl d_M_drawnAct_71 rfl ?_
          refine z_fact (fun hSR => ?_)
          obtain ⟨g32, h⟩ := zgd_some h
          refine z_iastoreS C zo_74 zk_74 (za_74 hSR) g32 d_M_drawnAct_72 ?_
          refine zq_lsub [4, 3, 0] [(0, zr (some 72)), (1, zi r4), (4, zi r15)] rfl ?_
          exact c_M_drawnAct_73 C hret  r4 r15 (zwI S30 74 ((1 : Int32) + r4).toNatClampNeg r12) h
        · refine z_icmp_net C 73 c31 d_M_drawnAct_61 (by decide) ?_
          refine zq_lsub [4, 3, 0] [(0, zr (some 72)), (1, zi r4), (4, zi r15)] rfl ?_
          exact c_M_drawnAct_73 C hret  r4 r15 S30 h
  · refine z_if_net C 58 c17 d_M_drawnAct_34 (by decide) ?_
    refine z_iload C 0 rfl d_M_drawnAct_58 ?_
    refine z_iconst C (1 : Int32) (by decide) d_M_drawnAct_60 ?_
    rcases zite h with ⟨c18, h⟩ | ⟨c18, h⟩
    · refine z_icmp_nef C 73 c18 d_M_drawnAct_61 (by decide) ?_
      refine z_aload_n C 4 rfl d_M_drawnAct_64 rfl ?_
      refine z_getF2 C 11 (by decide) 2 (by decide) rfl 2 5807 rfl (74) rfl zp_72 zk_72 zfl_11_24 d_M_drawnAct_65 ?_
      refine z_iconst C (1 : Int32) (by decide) d_M_drawnAct_68 ?_
      refine z_iload_n C 3 rfl d_M_drawnAct_69 rfl ?_
      refine z_iadd C d_M_drawnAct_70 ?_
      refine z_iload_n C 1 rfl d_M_drawnAct_71 rfl ?_
      refine z_fact (fun hSR => ?_)
      obtain ⟨g19, h⟩ := zgd_some h
      refine z_iastoreS C zo_74 zk_74 (za_74 hSR) g19 d_M_drawnAct_72 ?_
      refine zq_lsub [4, 3, 0] [(0, zr (some 72)), (1, zi r4), (4, zi r15)] rfl ?_
      exact c_M_drawnAct_73 C hret  r4 r15 (zwI S16 74 ((1 : Int32) + r4).toNatClampNeg r12) h
    · refine z_icmp_net C 73 c18 d_M_drawnAct_61 (by decide) ?_
      refine zq_lsub [4, 3, 0] [(0, zr (some 72)), (1, zi r4), (4, zi r15)] rfl ?_
      exact c_M_drawnAct_73 C hret  r4 r15 S16 h

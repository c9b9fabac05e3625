/-! printed by dec4.py: 1c.class -/
abbrev rm_Ps_copyFrom : Room := { frames := 1, cells := 0, slots := 0, locals := 64 }
abbrev rm_Jo_copyFrom : Room := { frames := 1, cells := 0, slots := 0, locals := 64 }
abbrev rm_Tx_timesOf : Room := { frames := 1, cells := 0, slots := 0, locals := 64 }
abbrev rm_Pa_take : Room := { frames := 1, cells := 0, slots := 0, locals := 64 }
abbrev rm_Pa_pair : Room := { frames := 1, cells := 0, slots := 0, locals := 64 }
abbrev rm_Pa_goBy : Room := { frames := 2, cells := 0, slots := 0, locals := 85 }
abbrev rm_Pa_fill : Room := { frames := 4, cells := 0, slots := 0, locals := 149 }
abbrev rm_Lg_bitCount : Room := { frames := 1, cells := 0, slots := 0, locals := 64 }
abbrev rm_Pa_has : Room := { frames := 1, cells := 0, slots := 0, locals := 64 }
abbrev rm_Pa_soonest : Room := { frames := 2, cells := 0, slots := 0, locals := 85 }
abbrev rm_E_tellOrderWords : Room := { frames := 3, cells := 0, slots := 0, locals := 108 }
abbrev rm_Ps_goTo : Room := { frames := 4, cells := 0, slots := 0, locals := 149 }
abbrev rm_Ps_turnGate : Room := { frames := 2, cells := 0, slots := 0, locals := 88 }
abbrev rm_Ps_muddy : Room := { frames := 2, cells := 0, slots := 0, locals := 86 }
abbrev rm_Ps_nextDay : Room := { frames := 4, cells := 0, slots := 0, locals := 149 }
abbrev rm_Jo_add : Room := { frames := 1, cells := 0, slots := 0, locals := 64 }
abbrev rm_E_act : Room := { frames := 5, cells := 0, slots := 0, locals := 176 }
abbrev rm_E_run : Room := { frames := 6, cells := 0, slots := 0, locals := 206 }
abbrev rm_E_orders : Room := { frames := 77, cells := 0, slots := 0, locals := 2050 }
abbrev rm_E_fault : Room := { frames := 1, cells := 0, slots := 0, locals := 64 }
abbrev rm_E_stopped : Room := { frames := 1, cells := 0, slots := 0, locals := 64 }
abbrev rm_Ps_hasLaw : Room := { frames := 1, cells := 0, slots := 0, locals := 64 }
abbrev rm_E_force : Room := { frames := 2, cells := 0, slots := 0, locals := 86 }
abbrev rm_E_answered : Room := { frames := 2, cells := 0, slots := 0, locals := 86 }
abbrev rm_E_swim : Room := { frames := 6, cells := 0, slots := 0, locals := 206 }
abbrev rm_E_gate : Room := { frames := 6, cells := 0, slots := 0, locals := 206 }
abbrev rm_E_stir : Room := { frames := 6, cells := 0, slots := 0, locals := 206 }
abbrev rm_E_pass : Room := { frames := 6, cells := 0, slots := 0, locals := 206 }
abbrev rm_Jo_takeBack : Room := { frames := 1, cells := 0, slots := 0, locals := 64 }
abbrev rm_E_undo : Room := { frames := 3, cells := 0, slots := 0, locals := 107 }
abbrev rm_E_fillPaper : Room := { frames := 5, cells := 0, slots := 0, locals := 178 }
abbrev rm_E_soon : Room := { frames := 6, cells := 0, slots := 0, locals := 198 }
abbrev rm_Pa_nextOnWay : Room := { frames := 2, cells := 0, slots := 0, locals := 85 }
abbrev rm_Pa_onWay : Room := { frames := 3, cells := 0, slots := 0, locals := 108 }
abbrev rm_E_way : Room := { frames := 6, cells := 0, slots := 0, locals := 198 }
def y_Ps_copyFrom : MethodName := ⟨zNm 5, "copyFrom", "(LEelClerk$Parish;)V"⟩
abbrev b_Ps_copyFrom : ByteArray := prog_6_method_2_code
theorem d_Ps_copyFrom_0 : decode b_Ps_copyFrom 0 = .ok (.aload_n 0, 1) := by decide +kernel
theorem d_Ps_copyFrom_1 : decode b_Ps_copyFrom 1 = .ok (.aload_n 1, 1) := by decide +kernel
theorem d_Ps_copyFrom_2 : decode b_Ps_copyFrom 2 = .ok (.getfield 9, 3) := by decide +kernel
theorem d_Ps_copyFrom_5 : decode b_Ps_copyFrom 5 = .ok (.putfield 9, 3) := by decide +kernel
theorem d_Ps_copyFrom_8 : decode b_Ps_copyFrom 8 = .ok (.aload_n 1, 1) := by decide +kernel
theorem d_Ps_copyFrom_9 : decode b_Ps_copyFrom 9 = .ok (.getfield 15, 3) := by decide +kernel
theorem d_Ps_copyFrom_12 : decode b_Ps_copyFrom 12 = .ok (.iconst 0, 1) := by decide +kernel
theorem d_Ps_copyFrom_13 : decode b_Ps_copyFrom 13 = .ok (.aload_n 0, 1) := by decide +kernel
theorem d_Ps_copyFrom_14 : decode b_Ps_copyFrom 14 = .ok (.getfield 15, 3) := by decide +kernel
theorem d_Ps_copyFrom_17 : decode b_Ps_copyFrom 17 = .ok (.iconst 0, 1) := by decide +kernel
theorem d_Ps_copyFrom_18 : decode b_Ps_copyFrom 18 = .ok (.bipush 9, 2) := by decide +kernel
theorem d_Ps_copyFrom_20 : decode b_Ps_copyFrom 20 = .ok (.invokestatic 66, 3) := by decide +kernel
theorem d_Ps_copyFrom_23 : decode b_Ps_copyFrom 23 = .ok (.aload_n 1, 1) := by decide +kernel
theorem d_Ps_copyFrom_24 : decode b_Ps_copyFrom 24 = .ok (.getfield 19, 3) := by decide +kernel
theorem d_Ps_copyFrom_27 : decode b_Ps_copyFrom 27 = .ok (.iconst 0, 1) := by decide +kernel
theorem d_Ps_copyFrom_28 : decode b_Ps_copyFrom 28 = .ok (.aload_n 0, 1) := by decide +kernel
theorem d_Ps_copyFrom_29 : decode b_Ps_copyFrom 29 = .ok (.getfield 19, 3) := by decide +kernel
theorem d_Ps_copyFrom_32 : decode b_Ps_copyFrom 32 = .ok (.iconst 0, 1) := by decide +kernel
theorem d_Ps_copyFrom_33 : decode b_Ps_copyFrom 33 = .ok (.bipush 36, 2) := by decide +kernel
theorem d_Ps_copyFrom_35 : decode b_Ps_copyFrom 35 = .ok (.invokestatic 66, 3) := by decide +kernel
theorem d_Ps_copyFrom_38 : decode b_Ps_copyFrom 38 = .ok (.aload_n 0, 1) := by decide +kernel
theorem d_Ps_copyFrom_39 : decode b_Ps_copyFrom 39 = .ok (.aload_n 1, 1) := by decide +kernel
theorem d_Ps_copyFrom_40 : decode b_Ps_copyFrom 40 = .ok (.getfield 22, 3) := by decide +kernel
theorem d_Ps_copyFrom_43 : decode b_Ps_copyFrom 43 = .ok (.putfield 22, 3) := by decide +kernel
theorem d_Ps_copyFrom_46 : decode b_Ps_copyFrom 46 = .ok (.aload_n 0, 1) := by decide +kernel
theorem d_Ps_copyFrom_47 : decode b_Ps_copyFrom 47 = .ok (.aload_n 1, 1) := by decide +kernel
theorem d_Ps_copyFrom_48 : decode b_Ps_copyFrom 48 = .ok (.getfield 26, 3) := by decide +kernel
theorem d_Ps_copyFrom_51 : decode b_Ps_copyFrom 51 = .ok (.putfield 26, 3) := by decide +kernel
theorem d_Ps_copyFrom_54 : decode b_Ps_copyFrom 54 = .ok (.aload_n 0, 1) := by decide +kernel
theorem d_Ps_copyFrom_55 : decode b_Ps_copyFrom 55 = .ok (.aload_n 1, 1) := by decide +kernel
theorem d_Ps_copyFrom_56 : decode b_Ps_copyFrom 56 = .ok (.getfield 29, 3) := by decide +kernel
theorem d_Ps_copyFrom_59 : decode b_Ps_copyFrom 59 = .ok (.putfield 29, 3) := by decide +kernel
theorem d_Ps_copyFrom_62 : decode b_Ps_copyFrom 62 = .ok (.aload_n 0, 1) := by decide +kernel
theorem d_Ps_copyFrom_63 : decode b_Ps_copyFrom 63 = .ok (.aload_n 1, 1) := by decide +kernel
theorem d_Ps_copyFrom_64 : decode b_Ps_copyFrom 64 = .ok (.getfield 32, 3) := by decide +kernel
theorem d_Ps_copyFrom_67 : decode b_Ps_copyFrom 67 = .ok (.putfield 32, 3) := by decide +kernel
theorem d_Ps_copyFrom_70 : decode b_Ps_copyFrom 70 = .ok (.aload_n 0, 1) := by decide +kernel
theorem d_Ps_copyFrom_71 : decode b_Ps_copyFrom 71 = .ok (.aload_n 1, 1) := by decide +kernel
theorem d_Ps_copyFrom_72 : decode b_Ps_copyFrom 72 = .ok (.getfield 35, 3) := by decide +kernel
theorem d_Ps_copyFrom_75 : decode b_Ps_copyFrom 75 = .ok (.putfield 35, 3) := by decide +kernel
theorem d_Ps_copyFrom_78 : decode b_Ps_copyFrom 78 = .ok (.aload_n 0, 1) := by decide +kernel
theorem d_Ps_copyFrom_79 : decode b_Ps_copyFrom 79 = .ok (.aload_n 1, 1) := by decide +kernel
theorem d_Ps_copyFrom_80 : decode b_Ps_copyFrom 80 = .ok (.getfield 38, 3) := by decide +kernel
theorem d_Ps_copyFrom_83 : decode b_Ps_copyFrom 83 = .ok (.putfield 38, 3) := by decide +kernel
theorem d_Ps_copyFrom_86 : decode b_Ps_copyFrom 86 = .ok (.aload_n 0, 1) := by decide +kernel
theorem d_Ps_copyFrom_87 : decode b_Ps_copyFrom 87 = .ok (.aload_n 1, 1) := by decide +kernel
theorem d_Ps_copyFrom_88 : decode b_Ps_copyFrom 88 = .ok (.getfield 41, 3) := by decide +kernel
theorem d_Ps_copyFrom_91 : decode b_Ps_copyFrom 91 = .ok (.putfield 41, 3) := by decide +kernel
theorem d_Ps_copyFrom_94 : decode b_Ps_copyFrom 94 = .ok (.aload_n 1, 1) := by decide +kernel
theorem d_Ps_copyFrom_95 : decode b_Ps_copyFrom 95 = .ok (.getfield 44, 3) := by decide +kernel
theorem d_Ps_copyFrom_98 : decode b_Ps_copyFrom 98 = .ok (.iconst 0, 1) := by decide +kernel
theorem d_Ps_copyFrom_99 : decode b_Ps_copyFrom 99 = .ok (.aload_n 0, 1) := by decide +kernel
theorem d_Ps_copyFrom_100 : decode b_Ps_copyFrom 100 = .ok (.getfield 44, 3) := by decide +kernel
theorem d_Ps_copyFrom_103 : decode b_Ps_copyFrom 103 = .ok (.iconst 0, 1) := by decide +kernel
theorem d_Ps_copyFrom_104 : decode b_Ps_copyFrom 104 = .ok (.bipush 6, 2) := by decide +kernel
theorem d_Ps_copyFrom_106 : decode b_Ps_copyFrom 106 = .ok (.invokestatic 66, 3) := by decide +kernel
theorem d_Ps_copyFrom_109 : decode b_Ps_copyFrom 109 = .ok (.aload_n 1, 1) := by decide +kernel
theorem d_Ps_copyFrom_110 : decode b_Ps_copyFrom 110 = .ok (.getfield 47, 3) := by decide +kernel
theorem d_Ps_copyFrom_113 : decode b_Ps_copyFrom 113 = .ok (.iconst 0, 1) := by decide +kernel
theorem d_Ps_copyFrom_114 : decode b_Ps_copyFrom 114 = .ok (.aload_n 0, 1) := by decide +kernel
theorem d_Ps_copyFrom_115 : decode b_Ps_copyFrom 115 = .ok (.getfield 47, 3) := by decide +kernel
theorem d_Ps_copyFrom_118 : decode b_Ps_copyFrom 118 = .ok (.iconst 0, 1) := by decide +kernel
theorem d_Ps_copyFrom_119 : decode b_Ps_copyFrom 119 = .ok (.bipush 6, 2) := by decide +kernel
theorem d_Ps_copyFrom_121 : decode b_Ps_copyFrom 121 = .ok (.invokestatic 66, 3) := by decide +kernel
theorem d_Ps_copyFrom_124 : decode b_Ps_copyFrom 124 = .ok (.aload_n 0, 1) := by decide +kernel
theorem d_Ps_copyFrom_125 : decode b_Ps_copyFrom 125 = .ok (.aload_n 1, 1) := by decide +kernel
theorem d_Ps_copyFrom_126 : decode b_Ps_copyFrom 126 = .ok (.getfield 50, 3) := by decide +kernel
theorem d_Ps_copyFrom_129 : decode b_Ps_copyFrom 129 = .ok (.putfield 50, 3) := by decide +kernel
theorem d_Ps_copyFrom_132 : decode b_Ps_copyFrom 132 = .ok (.iconst 0, 1) := by decide +kernel
theorem d_Ps_copyFrom_133 : decode b_Ps_copyFrom 133 = .ok (.istore_n 2, 1) := by decide +kernel
theorem d_Ps_copyFrom_134 : decode b_Ps_copyFrom 134 = .ok (.iload_n 2, 1) := by decide +kernel
theorem d_Ps_copyFrom_135 : decode b_Ps_copyFrom 135 = .ok (.bipush 6, 2) := by decide +kernel
theorem d_Ps_copyFrom_137 : decode b_Ps_copyFrom 137 = .ok (.if_icmp .ge 21, 3) := by decide +kernel
theorem d_Ps_copyFrom_140 : decode b_Ps_copyFrom 140 = .ok (.aload_n 0, 1) := by decide +kernel
theorem d_Ps_copyFrom_141 : decode b_Ps_copyFrom 141 = .ok (.getfield 55, 3) := by decide +kernel
theorem d_Ps_copyFrom_144 : decode b_Ps_copyFrom 144 = .ok (.iload_n 2, 1) := by decide +kernel
theorem d_Ps_copyFrom_145 : decode b_Ps_copyFrom 145 = .ok (.aload_n 1, 1) := by decide +kernel
theorem d_Ps_copyFrom_146 : decode b_Ps_copyFrom 146 = .ok (.getfield 55, 3) := by decide +kernel
theorem d_Ps_copyFrom_149 : decode b_Ps_copyFrom 149 = .ok (.iload_n 2, 1) := by decide +kernel
theorem d_Ps_copyFrom_150 : decode b_Ps_copyFrom 150 = .ok (.aaload, 1) := by decide +kernel
theorem d_Ps_copyFrom_151 : decode b_Ps_copyFrom 151 = .ok (.aastore, 1) := by decide +kernel
theorem d_Ps_copyFrom_152 : decode b_Ps_copyFrom 152 = .ok (.iinc 2 1, 3) := by decide +kernel
theorem d_Ps_copyFrom_155 : decode b_Ps_copyFrom 155 = .ok (.goto (-21), 3) := by decide +kernel
theorem d_Ps_copyFrom_158 : decode b_Ps_copyFrom 158 = .ok (.aload_n 0, 1) := by decide +kernel
theorem d_Ps_copyFrom_159 : decode b_Ps_copyFrom 159 = .ok (.aload_n 1, 1) := by decide +kernel
theorem d_Ps_copyFrom_160 : decode b_Ps_copyFrom 160 = .ok (.getfield 59, 3) := by decide +kernel
theorem d_Ps_copyFrom_163 : decode b_Ps_copyFrom 163 = .ok (.putfield 59, 3) := by decide +kernel
theorem d_Ps_copyFrom_166 : decode b_Ps_copyFrom 166 = .ok (.return_, 1) := by decide +kernel
theorem mf_Ps_copyFrom : zMF y_Ps_copyFrom b_Ps_copyFrom 3 none 1 := ⟨zGW_in 880 (by decide +kernel) (by decide +kernel), zGW_in 125 (by decide +kernel) (by decide +kernel), by decide +kernel⟩
theorem in_Ps_copyFrom : Cond.instanceMethod y_Ps_copyFrom ∈ zGW := zGW_in 878 (by decide +kernel) (by decide +kernel)
theorem se_Ps_copyFrom : Cond.selects y_Ps_copyFrom.cls y_Ps_copyFrom y_Ps_copyFrom ∈ zGW := zGW_in 879 (by decide +kernel) (by decide +kernel)
def y_Jo_copyFrom : MethodName := ⟨zNm 2, "copyFrom", "(LEelClerk$Journal;)V"⟩
abbrev b_Jo_copyFrom : ByteArray := prog_3_method_3_code
theorem d_Jo_copyFrom_0 : decode b_Jo_copyFrom 0 = .ok (.aload_n 0, 1) := by decide +kernel
theorem d_Jo_copyFrom_1 : decode b_Jo_copyFrom 1 = .ok (.aload_n 1, 1) := by decide +kernel
theorem d_Jo_copyFrom_2 : decode b_Jo_copyFrom 2 = .ok (.getfield 11, 3) := by decide +kernel
theorem d_Jo_copyFrom_5 : decode b_Jo_copyFrom 5 = .ok (.putfield 11, 3) := by decide +kernel
theorem d_Jo_copyFrom_8 : decode b_Jo_copyFrom 8 = .ok (.aload_n 0, 1) := by decide +kernel
theorem d_Jo_copyFrom_9 : decode b_Jo_copyFrom 9 = .ok (.aload_n 1, 1) := by decide +kernel
theorem d_Jo_copyFrom_10 : decode b_Jo_copyFrom 10 = .ok (.getfield 15, 3) := by decide +kernel
theorem d_Jo_copyFrom_13 : decode b_Jo_copyFrom 13 = .ok (.putfield 15, 3) := by decide +kernel
theorem d_Jo_copyFrom_16 : decode b_Jo_copyFrom 16 = .ok (.aload_n 1, 1) := by decide +kernel
theorem d_Jo_copyFrom_17 : decode b_Jo_copyFrom 17 = .ok (.getfield 18, 3) := by decide +kernel
theorem d_Jo_copyFrom_20 : decode b_Jo_copyFrom 20 = .ok (.iconst 0, 1) := by decide +kernel
theorem d_Jo_copyFrom_21 : decode b_Jo_copyFrom 21 = .ok (.aload_n 0, 1) := by decide +kernel
theorem d_Jo_copyFrom_22 : decode b_Jo_copyFrom 22 = .ok (.getfield 18, 3) := by decide +kernel
theorem d_Jo_copyFrom_25 : decode b_Jo_copyFrom 25 = .ok (.iconst 0, 1) := by decide +kernel
theorem d_Jo_copyFrom_26 : decode b_Jo_copyFrom 26 = .ok (.bipush 16, 2) := by decide +kernel
theorem d_Jo_copyFrom_28 : decode b_Jo_copyFrom 28 = .ok (.invokestatic 35, 3) := by decide +kernel
theorem d_Jo_copyFrom_31 : decode b_Jo_copyFrom 31 = .ok (.aload_n 1, 1) := by decide +kernel
theorem d_Jo_copyFrom_32 : decode b_Jo_copyFrom 32 = .ok (.getfield 22, 3) := by decide +kernel
theorem d_Jo_copyFrom_35 : decode b_Jo_copyFrom 35 = .ok (.iconst 0, 1) := by decide +kernel
theorem d_Jo_copyFrom_36 : decode b_Jo_copyFrom 36 = .ok (.aload_n 0, 1) := by decide +kernel
theorem d_Jo_copyFrom_37 : decode b_Jo_copyFrom 37 = .ok (.getfield 22, 3) := by decide +kernel
theorem d_Jo_copyFrom_40 : decode b_Jo_copyFrom 40 = .ok (.iconst 0, 1) := by decide +kernel
theorem d_Jo_copyFrom_41 : decode b_Jo_copyFrom 41 = .ok (.bipush 16, 2) := by decide +kernel
theorem d_Jo_copyFrom_43 : decode b_Jo_copyFrom 43 = .ok (.invokestatic 35, 3) := by decide +kernel
theorem d_Jo_copyFrom_46 : decode b_Jo_copyFrom 46 = .ok (.aload_n 1, 1) := by decide +kernel
theorem d_Jo_copyFrom_47 : decode b_Jo_copyFrom 47 = .ok (.getfield 25, 3) := by decide +kernel
theorem d_Jo_copyFrom_50 : decode b_Jo_copyFrom 50 = .ok (.iconst 0, 1) := by decide +kernel
theorem d_Jo_copyFrom_51 : decode b_Jo_copyFrom 51 = .ok (.aload_n 0, 1) := by decide +kernel
theorem d_Jo_copyFrom_52 : decode b_Jo_copyFrom 52 = .ok (.getfield 25, 3) := by decide +kernel
theorem d_Jo_copyFrom_55 : decode b_Jo_copyFrom 55 = .ok (.iconst 0, 1) := by decide +kernel
theorem d_Jo_copyFrom_56 : decode b_Jo_copyFrom 56 = .ok (.bipush 16, 2) := by decide +kernel
theorem d_Jo_copyFrom_58 : decode b_Jo_copyFrom 58 = .ok (.invokestatic 35, 3) := by decide +kernel
theorem d_Jo_copyFrom_61 : decode b_Jo_copyFrom 61 = .ok (.aload_n 1, 1) := by decide +kernel
theorem d_Jo_copyFrom_62 : decode b_Jo_copyFrom 62 = .ok (.getfield 28, 3) := by decide +kernel
theorem d_Jo_copyFrom_65 : decode b_Jo_copyFrom 65 = .ok (.iconst 0, 1) := by decide +kernel
theorem d_Jo_copyFrom_66 : decode b_Jo_copyFrom 66 = .ok (.aload_n 0, 1) := by decide +kernel
theorem d_Jo_copyFrom_67 : decode b_Jo_copyFrom 67 = .ok (.getfield 28, 3) := by decide +kernel
theorem d_Jo_copyFrom_70 : decode b_Jo_copyFrom 70 = .ok (.iconst 0, 1) := by decide +kernel
theorem d_Jo_copyFrom_71 : decode b_Jo_copyFrom 71 = .ok (.bipush 16, 2) := by decide +kernel
theorem d_Jo_copyFrom_73 : decode b_Jo_copyFrom 73 = .ok (.invokestatic 35, 3) := by decide +kernel
theorem d_Jo_copyFrom_76 : decode b_Jo_copyFrom 76 = .ok (.aload_n 1, 1) := by decide +kernel
theorem d_Jo_copyFrom_77 : decode b_Jo_copyFrom 77 = .ok (.getfield 32, 3) := by decide +kernel
theorem d_Jo_copyFrom_80 : decode b_Jo_copyFrom 80 = .ok (.iconst 0, 1) := by decide +kernel
theorem d_Jo_copyFrom_81 : decode b_Jo_copyFrom 81 = .ok (.aload_n 0, 1) := by decide +kernel
theorem d_Jo_copyFrom_82 : decode b_Jo_copyFrom 82 = .ok (.getfield 32, 3) := by decide +kernel
theorem d_Jo_copyFrom_85 : decode b_Jo_copyFrom 85 = .ok (.iconst 0, 1) := by decide +kernel
theorem d_Jo_copyFrom_86 : decode b_Jo_copyFrom 86 = .ok (.bipush 16, 2) := by decide +kernel
theorem d_Jo_copyFrom_88 : decode b_Jo_copyFrom 88 = .ok (.invokestatic 35, 3) := by decide +kernel
theorem d_Jo_copyFrom_91 : decode b_Jo_copyFrom 91 = .ok (.return_, 1) := by decide +kernel
theorem mf_Jo_copyFrom : zMF y_Jo_copyFrom b_Jo_copyFrom 2 none 1 := ⟨zGW_in 885 (by decide +kernel) (by decide +kernel), zGW_in 126 (by decide +kernel) (by decide +kernel), by decide +kernel⟩
theorem in_Jo_copyFrom : Cond.instanceMethod y_Jo_copyFrom ∈ zGW := zGW_in 883 (by decide +kernel) (by decide +kernel)
theorem se_Jo_copyFrom : Cond.selects y_Jo_copyFrom.cls y_Jo_copyFrom y_Jo_copyFrom ∈ zGW := zGW_in 884 (by decide +kernel) (by decide +kernel)
def y_Tx_timesOf : MethodName := ⟨zNm 10, "timesOf", "(I)I"⟩
abbrev b_Tx_timesOf : ByteArray := prog_11_method_8_code
theorem d_Tx_timesOf_0 : decode b_Tx_timesOf 0 = .ok (.iload_n 1, 1) := by decide +kernel
theorem d_Tx_timesOf_1 : decode b_Tx_timesOf 1 = .ok (.ifCond .lt 18, 3) := by decide +kernel
theorem d_Tx_timesOf_4 : decode b_Tx_timesOf 4 = .ok (.iload_n 1, 1) := by decide +kernel
theorem d_Tx_timesOf_5 : decode b_Tx_timesOf 5 = .ok (.bipush 12, 2) := by decide +kernel
theorem d_Tx_timesOf_7 : decode b_Tx_timesOf 7 = .ok (.if_icmp .ge 12, 3) := by decide +kernel
theorem d_Tx_timesOf_10 : decode b_Tx_timesOf 10 = .ok (.aload_n 0, 1) := by decide +kernel
theorem d_Tx_timesOf_11 : decode b_Tx_timesOf 11 = .ok (.getfield 26, 3) := by decide +kernel
theorem d_Tx_timesOf_14 : decode b_Tx_timesOf 14 = .ok (.iload_n 1, 1) := by decide +kernel
theorem d_Tx_timesOf_15 : decode b_Tx_timesOf 15 = .ok (.iaload, 1) := by decide +kernel
theorem d_Tx_timesOf_16 : decode b_Tx_timesOf 16 = .ok (.goto 4, 3) := by decide +kernel
theorem d_Tx_timesOf_19 : decode b_Tx_timesOf 19 = .ok (.iconst 0, 1) := by decide +kernel
theorem d_Tx_timesOf_20 : decode b_Tx_timesOf 20 = .ok (.ireturn, 1) := by decide +kernel
theorem mf_Tx_timesOf : zMF y_Tx_timesOf b_Tx_timesOf 2 (some .int) 1 := ⟨zGW_in 895 (by decide +kernel) (by decide +kernel), zGW_in 129 (by decide +kernel) (by decide +kernel), by decide +kernel⟩
theorem in_Tx_timesOf : Cond.instanceMethod y_Tx_timesOf ∈ zGW := zGW_in 893 (by decide +kernel) (by decide +kernel)
theorem se_Tx_timesOf : Cond.selects y_Tx_timesOf.cls y_Tx_timesOf y_Tx_timesOf ∈ zGW := zGW_in 894 (by decide +kernel) (by decide +kernel)
def y_Pa_take : MethodName := ⟨zNm 4, "take", "(LEelClerk$Parish;)V"⟩
abbrev b_Pa_take : ByteArray := prog_5_method_4_code
theorem d_Pa_take_0 : decode b_Pa_take 0 = .ok (.aload_n 0, 1) := by decide +kernel
theorem d_Pa_take_1 : decode b_Pa_take 1 = .ok (.aload_n 1, 1) := by decide +kernel
theorem d_Pa_take_2 : decode b_Pa_take 2 = .ok (.getfield 28, 3) := by decide +kernel
theorem d_Pa_take_5 : decode b_Pa_take 5 = .ok (.bipush 9, 2) := by decide +kernel
theorem d_Pa_take_7 : decode b_Pa_take 7 = .ok (.if_icmp .ge 10, 3) := by decide +kernel
theorem d_Pa_take_10 : decode b_Pa_take 10 = .ok (.aload_n 1, 1) := by decide +kernel
theorem d_Pa_take_11 : decode b_Pa_take 11 = .ok (.getfield 28, 3) := by decide +kernel
theorem d_Pa_take_14 : decode b_Pa_take 14 = .ok (.goto 5, 3) := by decide +kernel
theorem d_Pa_take_17 : decode b_Pa_take 17 = .ok (.bipush 9, 2) := by decide +kernel
theorem d_Pa_take_19 : decode b_Pa_take 19 = .ok (.putfield 9, 3) := by decide +kernel
theorem d_Pa_take_22 : decode b_Pa_take 22 = .ok (.return_, 1) := by decide +kernel
theorem mf_Pa_take : zMF y_Pa_take b_Pa_take 2 none 1 := ⟨zGW_in 903 (by decide +kernel) (by decide +kernel), zGW_in 131 (by decide +kernel) (by decide +kernel), by decide +kernel⟩
theorem in_Pa_take : Cond.instanceMethod y_Pa_take ∈ zGW := zGW_in 902 (by decide +kernel) (by decide +kernel)
theorem se_Pa_take : Cond.selects y_Pa_take.cls y_Pa_take y_Pa_take ∈ zGW := zGW_in 20 (by decide +kernel) (by decide +kernel)
def y_Pa_pair : MethodName := ⟨zNm 4, "pair", "(II)I"⟩
abbrev b_Pa_pair : ByteArray := prog_5_method_2_code
theorem d_Pa_pair_0 : decode b_Pa_pair 0 = .ok (.iload_n 0, 1) := by decide +kernel
theorem d_Pa_pair_1 : decode b_Pa_pair 1 = .ok (.bipush 9, 2) := by decide +kernel
theorem d_Pa_pair_3 : decode b_Pa_pair 3 = .ok (.imul, 1) := by decide +kernel
theorem d_Pa_pair_4 : decode b_Pa_pair 4 = .ok (.iload_n 1, 1) := by decide +kernel
theorem d_Pa_pair_5 : decode b_Pa_pair 5 = .ok (.iadd, 1) := by decide +kernel
theorem d_Pa_pair_6 : decode b_Pa_pair 6 = .ok (.ireturn, 1) := by decide +kernel
theorem mf_Pa_pair : zMF y_Pa_pair b_Pa_pair 2 (some .int) 2 := ⟨zGW_in 910 (by decide +kernel) (by decide +kernel), zGW_in 131 (by decide +kernel) (by decide +kernel), by decide +kernel⟩
theorem st_Pa_pair : Cond.static y_Pa_pair ∈ zGW := zGW_in 909 (by decide +kernel) (by decide +kernel)
def y_Pa_goBy : MethodName := ⟨zNm 4, "goBy", "(I)V"⟩
abbrev b_Pa_goBy : ByteArray := prog_5_method_6_code
theorem d_Pa_goBy_0 : decode b_Pa_goBy 0 = .ok (.iconst 0, 1) := by decide +kernel
theorem d_Pa_goBy_1 : decode b_Pa_goBy 1 = .ok (.istore_n 2, 1) := by decide +kernel
theorem d_Pa_goBy_2 : decode b_Pa_goBy 2 = .ok (.iload_n 2, 1) := by decide +kernel
theorem d_Pa_goBy_3 : decode b_Pa_goBy 3 = .ok (.aload_n 0, 1) := by decide +kernel
theorem d_Pa_goBy_4 : decode b_Pa_goBy 4 = .ok (.getfield 9, 3) := by decide +kernel
theorem d_Pa_goBy_7 : decode b_Pa_goBy 7 = .ok (.if_icmp .ge 75, 3) := by decide +kernel
theorem d_Pa_goBy_10 : decode b_Pa_goBy 10 = .ok (.iconst 0, 1) := by decide +kernel
theorem d_Pa_goBy_11 : decode b_Pa_goBy 11 = .ok (.istore_n 3, 1) := by decide +kernel
theorem d_Pa_goBy_12 : decode b_Pa_goBy 12 = .ok (.iload_n 3, 1) := by decide +kernel
theorem d_Pa_goBy_13 : decode b_Pa_goBy 13 = .ok (.aload_n 0, 1) := by decide +kernel
theorem d_Pa_goBy_14 : decode b_Pa_goBy 14 = .ok (.getfield 9, 3) := by decide +kernel
theorem d_Pa_goBy_17 : decode b_Pa_goBy 17 = .ok (.if_icmp .ge 59, 3) := by decide +kernel
theorem d_Pa_goBy_20 : decode b_Pa_goBy 20 = .ok (.aload_n 0, 1) := by decide +kernel
theorem d_Pa_goBy_21 : decode b_Pa_goBy 21 = .ok (.getfield 22, 3) := by decide +kernel
theorem d_Pa_goBy_24 : decode b_Pa_goBy 24 = .ok (.iload_n 2, 1) := by decide +kernel
theorem d_Pa_goBy_25 : decode b_Pa_goBy 25 = .ok (.iload_n 1, 1) := by decide +kernel
theorem d_Pa_goBy_26 : decode b_Pa_goBy 26 = .ok (.invokestatic 50, 3) := by decide +kernel
theorem d_Pa_goBy_29 : decode b_Pa_goBy 29 = .ok (.iaload, 1) := by decide +kernel
theorem d_Pa_goBy_30 : decode b_Pa_goBy 30 = .ok (.aload_n 0, 1) := by decide +kernel
theorem d_Pa_goBy_31 : decode b_Pa_goBy 31 = .ok (.getfield 22, 3) := by decide +kernel
theorem d_Pa_goBy_34 : decode b_Pa_goBy 34 = .ok (.iload_n 1, 1) := by decide +kernel
theorem d_Pa_goBy_35 : decode b_Pa_goBy 35 = .ok (.iload_n 3, 1) := by decide +kernel
theorem d_Pa_goBy_36 : decode b_Pa_goBy 36 = .ok (.invokestatic 50, 3) := by decide +kernel
theorem d_Pa_goBy_39 : decode b_Pa_goBy 39 = .ok (.iaload, 1) := by decide +kernel
theorem d_Pa_goBy_40 : decode b_Pa_goBy 40 = .ok (.iadd, 1) := by decide +kernel
theorem d_Pa_goBy_41 : decode b_Pa_goBy 41 = .ok (.istore 4, 2) := by decide +kernel
theorem d_Pa_goBy_43 : decode b_Pa_goBy 43 = .ok (.iload 4, 2) := by decide +kernel
theorem d_Pa_goBy_45 : decode b_Pa_goBy 45 = .ok (.aload_n 0, 1) := by decide +kernel
theorem d_Pa_goBy_46 : decode b_Pa_goBy 46 = .ok (.getfield 22, 3) := by decide +kernel
theorem d_Pa_goBy_49 : decode b_Pa_goBy 49 = .ok (.iload_n 2, 1) := by decide +kernel
theorem d_Pa_goBy_50 : decode b_Pa_goBy 50 = .ok (.iload_n 3, 1) := by decide +kernel
theorem d_Pa_goBy_51 : decode b_Pa_goBy 51 = .ok (.invokestatic 50, 3) := by decide +kernel
theorem d_Pa_goBy_54 : decode b_Pa_goBy 54 = .ok (.iaload, 1) := by decide +kernel
theorem d_Pa_goBy_55 : decode b_Pa_goBy 55 = .ok (.if_icmp .ge 15, 3) := by decide +kernel
theorem d_Pa_goBy_58 : decode b_Pa_goBy 58 = .ok (.aload_n 0, 1) := by decide +kernel
theorem d_Pa_goBy_59 : decode b_Pa_goBy 59 = .ok (.getfield 22, 3) := by decide +kernel
theorem d_Pa_goBy_62 : decode b_Pa_goBy 62 = .ok (.iload_n 2, 1) := by decide +kernel
theorem d_Pa_goBy_63 : decode b_Pa_goBy 63 = .ok (.iload_n 3, 1) := by decide +kernel
theorem d_Pa_goBy_64 : decode b_Pa_goBy 64 = .ok (.invokestatic 50, 3) := by decide +kernel
theorem d_Pa_goBy_67 : decode b_Pa_goBy 67 = .ok (.iload 4, 2) := by decide +kernel
theorem d_Pa_goBy_69 : decode b_Pa_goBy 69 = .ok (.iastore, 1) := by decide +kernel
theorem d_Pa_goBy_70 : decode b_Pa_goBy 70 = .ok (.iinc 3 1, 3) := by decide +kernel
theorem d_Pa_goBy_73 : decode b_Pa_goBy 73 = .ok (.goto (-61), 3) := by decide +kernel
theorem d_Pa_goBy_76 : decode b_Pa_goBy 76 = .ok (.iinc 2 1, 3) := by decide +kernel
theorem d_Pa_goBy_79 : decode b_Pa_goBy 79 = .ok (.goto (-77), 3) := by decide +kernel
theorem d_Pa_goBy_82 : decode b_Pa_goBy 82 = .ok (.return_, 1) := by decide +kernel
theorem mf_Pa_goBy : zMF y_Pa_goBy b_Pa_goBy 5 none 1 := ⟨zGW_in 915 (by decide +kernel) (by decide +kernel), zGW_in 131 (by decide +kernel) (by decide +kernel), by decide +kernel⟩
theorem in_Pa_goBy : Cond.instanceMethod y_Pa_goBy ∈ zGW := zGW_in 914 (by decide +kernel) (by decide +kernel)
theorem se_Pa_goBy : Cond.selects y_Pa_goBy.cls y_Pa_goBy y_Pa_goBy ∈ zGW := zGW_in 21 (by decide +kernel) (by decide +kernel)
def y_Pa_fill : MethodName := ⟨zNm 4, "fill", "(LEelClerk$Parish;LEelClerk$Text;LEelClerk$Asker;)V"⟩
abbrev b_Pa_fill : ByteArray := prog_5_method_5_code
theorem d_Pa_fill_0 : decode b_Pa_fill 0 = .ok (.aload_n 0, 1) := by decide +kernel
theorem d_Pa_fill_1 : decode b_Pa_fill 1 = .ok (.aload_n 1, 1) := by decide +kernel
theorem d_Pa_fill_2 : decode b_Pa_fill 2 = .ok (.invokevirtual 31, 3) := by decide +kernel
theorem d_Pa_fill_5 : decode b_Pa_fill 5 = .ok (.iconst 0, 1) := by decide +kernel
theorem d_Pa_fill_6 : decode b_Pa_fill 6 = .ok (.istore 4, 2) := by decide +kernel
theorem d_Pa_fill_8 : decode b_Pa_fill 8 = .ok (.iload 4, 2) := by decide +kernel
theorem d_Pa_fill_10 : decode b_Pa_fill 10 = .ok (.aload_n 0, 1) := by decide +kernel
theorem d_Pa_fill_11 : decode b_Pa_fill 11 = .ok (.getfield 9, 3) := by decide +kernel
theorem d_Pa_fill_14 : decode b_Pa_fill 14 = .ok (.if_icmp .ge 157, 3) := by decide +kernel
theorem d_Pa_fill_17 : decode b_Pa_fill 17 = .ok (.iconst 0, 1) := by decide +kernel
theorem d_Pa_fill_18 : decode b_Pa_fill 18 = .ok (.istore 5, 2) := by decide +kernel
theorem d_Pa_fill_20 : decode b_Pa_fill 20 = .ok (.iload 5, 2) := by decide +kernel
theorem d_Pa_fill_22 : decode b_Pa_fill 22 = .ok (.aload_n 0, 1) := by decide +kernel
theorem d_Pa_fill_23 : decode b_Pa_fill 23 = .ok (.getfield 9, 3) := by decide +kernel
theorem d_Pa_fill_26 : decode b_Pa_fill 26 = .ok (.if_icmp .ge 139, 3) := by decide +kernel
theorem d_Pa_fill_29 : decode b_Pa_fill 29 = .ok (.aload_n 1, 1) := by decide +kernel
theorem d_Pa_fill_30 : decode b_Pa_fill 30 = .ok (.iload 4, 2) := by decide +kernel
theorem d_Pa_fill_32 : decode b_Pa_fill 32 = .ok (.iload 5, 2) := by decide +kernel
theorem d_Pa_fill_34 : decode b_Pa_fill 34 = .ok (.invokevirtual 35, 3) := by decide +kernel
theorem d_Pa_fill_37 : decode b_Pa_fill 37 = .ok (.istore 6, 2) := by decide +kernel
theorem d_Pa_fill_39 : decode b_Pa_fill 39 = .ok (.aload_n 1, 1) := by decide +kernel
theorem d_Pa_fill_40 : decode b_Pa_fill 40 = .ok (.iload 6, 2) := by decide +kernel
theorem d_Pa_fill_42 : decode b_Pa_fill 42 = .ok (.invokevirtual 39, 3) := by decide +kernel
theorem d_Pa_fill_45 : decode b_Pa_fill 45 = .ok (.ifCond .eq 18, 3) := by decide +kernel
theorem d_Pa_fill_48 : decode b_Pa_fill 48 = .ok (.aload_n 3, 1) := by decide +kernel
theorem d_Pa_fill_49 : decode b_Pa_fill 49 = .ok (.aload_n 1, 1) := by decide +kernel
theorem d_Pa_fill_50 : decode b_Pa_fill 50 = .ok (.aload_n 2, 1) := by decide +kernel
theorem d_Pa_fill_51 : decode b_Pa_fill 51 = .ok (.iconst 3, 1) := by decide +kernel
theorem d_Pa_fill_52 : decode b_Pa_fill 52 = .ok (.iload 4, 2) := by decide +kernel
theorem d_Pa_fill_54 : decode b_Pa_fill 54 = .ok (.iload 5, 2) := by decide +kernel
theorem d_Pa_fill_56 : decode b_Pa_fill 56 = .ok (.invokevirtual 43, 3) := by decide +kernel
theorem d_Pa_fill_59 : decode b_Pa_fill 59 = .ok (.iconst 1, 1) := by decide +kernel
theorem d_Pa_fill_60 : decode b_Pa_fill 60 = .ok (.if_icmp .ne 7, 3) := by decide +kernel
theorem d_Pa_fill_63 : decode b_Pa_fill 63 = .ok (.iconst 1, 1) := by decide +kernel
theorem d_Pa_fill_64 : decode b_Pa_fill 64 = .ok (.goto 4, 3) := by decide +kernel
theorem d_Pa_fill_67 : decode b_Pa_fill 67 = .ok (.iconst 0, 1) := by decide +kernel
theorem d_Pa_fill_68 : decode b_Pa_fill 68 = .ok (.istore 7, 2) := by decide +kernel
theorem d_Pa_fill_70 : decode b_Pa_fill 70 = .ok (.iload 7, 2) := by decide +kernel
theorem d_Pa_fill_72 : decode b_Pa_fill 72 = .ok (.ifCond .eq 8, 3) := by decide +kernel
theorem d_Pa_fill_75 : decode b_Pa_fill 75 = .ok (.ldc 49, 2) := by decide +kernel
theorem d_Pa_fill_77 : decode b_Pa_fill 77 = .ok (.goto 14, 3) := by decide +kernel
theorem d_Pa_fill_80 : decode b_Pa_fill 80 = .ok (.aload_n 3, 1) := by decide +kernel
theorem d_Pa_fill_81 : decode b_Pa_fill 81 = .ok (.aload_n 1, 1) := by decide +kernel
theorem d_Pa_fill_82 : decode b_Pa_fill 82 = .ok (.aload_n 2, 1) := by decide +kernel
theorem d_Pa_fill_83 : decode b_Pa_fill 83 = .ok (.iconst 0, 1) := by decide +kernel
theorem d_Pa_fill_84 : decode b_Pa_fill 84 = .ok (.iload 4, 2) := by decide +kernel
theorem d_Pa_fill_86 : decode b_Pa_fill 86 = .ok (.iload 5, 2) := by decide +kernel
theorem d_Pa_fill_88 : decode b_Pa_fill 88 = .ok (.invokevirtual 43, 3) := by decide +kernel
theorem d_Pa_fill_91 : decode b_Pa_fill 91 = .ok (.istore 8, 2) := by decide +kernel
theorem d_Pa_fill_93 : decode b_Pa_fill 93 = .ok (.iload 4, 2) := by decide +kernel
theorem d_Pa_fill_95 : decode b_Pa_fill 95 = .ok (.iload 5, 2) := by decide +kernel
theorem d_Pa_fill_97 : decode b_Pa_fill 97 = .ok (.invokestatic 50, 3) := by decide +kernel
theorem d_Pa_fill_100 : decode b_Pa_fill 100 = .ok (.istore 9, 2) := by decide +kernel
theorem d_Pa_fill_102 : decode b_Pa_fill 102 = .ok (.aload_n 0, 1) := by decide +kernel
theorem d_Pa_fill_103 : decode b_Pa_fill 103 = .ok (.getfield 15, 3) := by decide +kernel
theorem d_Pa_fill_106 : decode b_Pa_fill 106 = .ok (.iload 9, 2) := by decide +kernel
theorem d_Pa_fill_108 : decode b_Pa_fill 108 = .ok (.iload 8, 2) := by decide +kernel
theorem d_Pa_fill_110 : decode b_Pa_fill 110 = .ok (.iastore, 1) := by decide +kernel
theorem d_Pa_fill_111 : decode b_Pa_fill 111 = .ok (.aload_n 0, 1) := by decide +kernel
theorem d_Pa_fill_112 : decode b_Pa_fill 112 = .ok (.getfield 19, 3) := by decide +kernel
theorem d_Pa_fill_115 : decode b_Pa_fill 115 = .ok (.iload 9, 2) := by decide +kernel
theorem d_Pa_fill_117 : decode b_Pa_fill 117 = .ok (.aload_n 1, 1) := by decide +kernel
theorem d_Pa_fill_118 : decode b_Pa_fill 118 = .ok (.iload 6, 2) := by decide +kernel
theorem d_Pa_fill_120 : decode b_Pa_fill 120 = .ok (.invokevirtual 53, 3) := by decide +kernel
theorem d_Pa_fill_123 : decode b_Pa_fill 123 = .ok (.ifCond .eq 8, 3) := by decide +kernel
theorem d_Pa_fill_126 : decode b_Pa_fill 126 = .ok (.ldc 49, 2) := by decide +kernel
theorem d_Pa_fill_128 : decode b_Pa_fill 128 = .ok (.goto 5, 3) := by decide +kernel
theorem d_Pa_fill_131 : decode b_Pa_fill 131 = .ok (.iload 8, 2) := by decide +kernel
theorem d_Pa_fill_133 : decode b_Pa_fill 133 = .ok (.iastore, 1) := by decide +kernel
theorem d_Pa_fill_134 : decode b_Pa_fill 134 = .ok (.aload_n 0, 1) := by decide +kernel
theorem d_Pa_fill_135 : decode b_Pa_fill 135 = .ok (.getfield 22, 3) := by decide +kernel
theorem d_Pa_fill_138 : decode b_Pa_fill 138 = .ok (.iload 9, 2) := by decide +kernel
theorem d_Pa_fill_140 : decode b_Pa_fill 140 = .ok (.iload 4, 2) := by decide +kernel
theorem d_Pa_fill_142 : decode b_Pa_fill 142 = .ok (.iload 5, 2) := by decide +kernel
theorem d_Pa_fill_144 : decode b_Pa_fill 144 = .ok (.if_icmp .ne 7, 3) := by decide +kernel
theorem d_Pa_fill_147 : decode b_Pa_fill 147 = .ok (.iconst 0, 1) := by decide +kernel
theorem d_Pa_fill_148 : decode b_Pa_fill 148 = .ok (.goto 10, 3) := by decide +kernel
theorem d_Pa_fill_151 : decode b_Pa_fill 151 = .ok (.aload_n 0, 1) := by decide +kernel
theorem d_Pa_fill_152 : decode b_Pa_fill 152 = .ok (.getfield 19, 3) := by decide +kernel
theorem d_Pa_fill_155 : decode b_Pa_fill 155 = .ok (.iload 9, 2) := by decide +kernel
theorem d_Pa_fill_157 : decode b_Pa_fill 157 = .ok (.iaload, 1) := by decide +kernel
theorem d_Pa_fill_158 : decode b_Pa_fill 158 = .ok (.iastore, 1) := by decide +kernel
theorem d_Pa_fill_159 : decode b_Pa_fill 159 = .ok (.iinc 5 1, 3) := by decide +kernel
theorem d_Pa_fill_162 : decode b_Pa_fill 162 = .ok (.goto (-142), 3) := by decide +kernel
theorem d_Pa_fill_165 : decode b_Pa_fill 165 = .ok (.iinc 4 1, 3) := by decide +kernel
theorem d_Pa_fill_168 : decode b_Pa_fill 168 = .ok (.goto (-160), 3) := by decide +kernel
theorem d_Pa_fill_171 : decode b_Pa_fill 171 = .ok (.iconst 0, 1) := by decide +kernel
theorem d_Pa_fill_172 : decode b_Pa_fill 172 = .ok (.istore 4, 2) := by decide +kernel
theorem d_Pa_fill_174 : decode b_Pa_fill 174 = .ok (.iload 4, 2) := by decide +kernel
theorem d_Pa_fill_176 : decode b_Pa_fill 176 = .ok (.aload_n 0, 1) := by decide +kernel
theorem d_Pa_fill_177 : decode b_Pa_fill 177 = .ok (.getfield 9, 3) := by decide +kernel
theorem d_Pa_fill_180 : decode b_Pa_fill 180 = .ok (.if_icmp .ge 15, 3) := by decide +kernel
theorem d_Pa_fill_183 : decode b_Pa_fill 183 = .ok (.aload_n 0, 1) := by decide +kernel
theorem d_Pa_fill_184 : decode b_Pa_fill 184 = .ok (.iload 4, 2) := by decide +kernel
theorem d_Pa_fill_186 : decode b_Pa_fill 186 = .ok (.invokevirtual 57, 3) := by decide +kernel
theorem d_Pa_fill_189 : decode b_Pa_fill 189 = .ok (.iinc 4 1, 3) := by decide +kernel
theorem d_Pa_fill_192 : decode b_Pa_fill 192 = .ok (.goto (-18), 3) := by decide +kernel
theorem d_Pa_fill_195 : decode b_Pa_fill 195 = .ok (.return_, 1) := by decide +kernel
theorem mf_Pa_fill : zMF y_Pa_fill b_Pa_fill 10 none 3 := ⟨zGW_in 899 (by decide +kernel) (by decide +kernel), zGW_in 131 (by decide +kernel) (by decide +kernel), by decide +kernel⟩
theorem in_Pa_fill : Cond.instanceMethod y_Pa_fill ∈ zGW := zGW_in 897 (by decide +kernel) (by decide +kernel)
theorem se_Pa_fill : Cond.selects y_Pa_fill.cls y_Pa_fill y_Pa_fill ∈ zGW := zGW_in 898 (by decide +kernel) (by decide +kernel)
def y_Lg_bitCount : MethodName := ⟨"java/lang/Long", "bitCount", "(J)I"⟩
abbrev b_Lg_bitCount : ByteArray := prog_14_method_50_code
theorem d_Lg_bitCount_0 : decode b_Lg_bitCount 0 = .ok (.lload_n 0, 1) := by decide +kernel
theorem d_Lg_bitCount_1 : decode b_Lg_bitCount 1 = .ok (.lload_n 0, 1) := by decide +kernel
theorem d_Lg_bitCount_2 : decode b_Lg_bitCount 2 = .ok (.iconst 1, 1) := by decide +kernel
theorem d_Lg_bitCount_3 : decode b_Lg_bitCount 3 = .ok (.lushr, 1) := by decide +kernel
theorem d_Lg_bitCount_4 : decode b_Lg_bitCount 4 = .ok (.ldc2_w 314, 3) := by decide +kernel
theorem d_Lg_bitCount_7 : decode b_Lg_bitCount 7 = .ok (.land, 1) := by decide +kernel
theorem d_Lg_bitCount_8 : decode b_Lg_bitCount 8 = .ok (.lsub, 1) := by decide +kernel
theorem d_Lg_bitCount_9 : decode b_Lg_bitCount 9 = .ok (.lstore_n 0, 1) := by decide +kernel
theorem d_Lg_bitCount_10 : decode b_Lg_bitCount 10 = .ok (.lload_n 0, 1) := by decide +kernel
theorem d_Lg_bitCount_11 : decode b_Lg_bitCount 11 = .ok (.ldc2_w 316, 3) := by decide +kernel
theorem d_Lg_bitCount_14 : decode b_Lg_bitCount 14 = .ok (.land, 1) := by decide +kernel
theorem d_Lg_bitCount_15 : decode b_Lg_bitCount 15 = .ok (.lload_n 0, 1) := by decide +kernel
theorem d_Lg_bitCount_16 : decode b_Lg_bitCount 16 = .ok (.iconst 2, 1) := by decide +kernel
theorem d_Lg_bitCount_17 : decode b_Lg_bitCount 17 = .ok (.lushr, 1) := by decide +kernel
theorem d_Lg_bitCount_18 : decode b_Lg_bitCount 18 = .ok (.ldc2_w 316, 3) := by decide +kernel
theorem d_Lg_bitCount_21 : decode b_Lg_bitCount 21 = .ok (.land, 1) := by decide +kernel
theorem d_Lg_bitCount_22 : decode b_Lg_bitCount 22 = .ok (.ladd, 1) := by decide +kernel
theorem d_Lg_bitCount_23 : decode b_Lg_bitCount 23 = .ok (.lstore_n 0, 1) := by decide +kernel
theorem d_Lg_bitCount_24 : decode b_Lg_bitCount 24 = .ok (.lload_n 0, 1) := by decide +kernel
theorem d_Lg_bitCount_25 : decode b_Lg_bitCount 25 = .ok (.lload_n 0, 1) := by decide +kernel
theorem d_Lg_bitCount_26 : decode b_Lg_bitCount 26 = .ok (.iconst 4, 1) := by decide +kernel
theorem d_Lg_bitCount_27 : decode b_Lg_bitCount 27 = .ok (.lushr, 1) := by decide +kernel
theorem d_Lg_bitCount_28 : decode b_Lg_bitCount 28 = .ok (.ladd, 1) := by decide +kernel
theorem d_Lg_bitCount_29 : decode b_Lg_bitCount 29 = .ok (.ldc2_w 318, 3) := by decide +kernel
theorem d_Lg_bitCount_32 : decode b_Lg_bitCount 32 = .ok (.land, 1) := by decide +kernel
theorem d_Lg_bitCount_33 : decode b_Lg_bitCount 33 = .ok (.lstore_n 0, 1) := by decide +kernel
theorem d_Lg_bitCount_34 : decode b_Lg_bitCount 34 = .ok (.lload_n 0, 1) := by decide +kernel
theorem d_Lg_bitCount_35 : decode b_Lg_bitCount 35 = .ok (.lload_n 0, 1) := by decide +kernel
theorem d_Lg_bitCount_36 : decode b_Lg_bitCount 36 = .ok (.bipush 8, 2) := by decide +kernel
theorem d_Lg_bitCount_38 : decode b_Lg_bitCount 38 = .ok (.lushr, 1) := by decide +kernel
theorem d_Lg_bitCount_39 : decode b_Lg_bitCount 39 = .ok (.ladd, 1) := by decide +kernel
theorem d_Lg_bitCount_40 : decode b_Lg_bitCount 40 = .ok (.lstore_n 0, 1) := by decide +kernel
theorem d_Lg_bitCount_41 : decode b_Lg_bitCount 41 = .ok (.lload_n 0, 1) := by decide +kernel
theorem d_Lg_bitCount_42 : decode b_Lg_bitCount 42 = .ok (.lload_n 0, 1) := by decide +kernel
theorem d_Lg_bitCount_43 : decode b_Lg_bitCount 43 = .ok (.bipush 16, 2) := by decide +kernel
theorem d_Lg_bitCount_45 : decode b_Lg_bitCount 45 = .ok (.lushr, 1) := by decide +kernel
theorem d_Lg_bitCount_46 : decode b_Lg_bitCount 46 = .ok (.ladd, 1) := by decide +kernel
theorem d_Lg_bitCount_47 : decode b_Lg_bitCount 47 = .ok (.lstore_n 0, 1) := by decide +kernel
theorem d_Lg_bitCount_48 : decode b_Lg_bitCount 48 = .ok (.lload_n 0, 1) := by decide +kernel
theorem d_Lg_bitCount_49 : decode b_Lg_bitCount 49 = .ok (.lload_n 0, 1) := by decide +kernel
theorem d_Lg_bitCount_50 : decode b_Lg_bitCount 50 = .ok (.bipush 32, 2) := by decide +kernel
theorem d_Lg_bitCount_52 : decode b_Lg_bitCount 52 = .ok (.lushr, 1) := by decide +kernel
theorem d_Lg_bitCount_53 : decode b_Lg_bitCount 53 = .ok (.ladd, 1) := by decide +kernel
theorem d_Lg_bitCount_54 : decode b_Lg_bitCount 54 = .ok (.lstore_n 0, 1) := by decide +kernel
theorem d_Lg_bitCount_55 : decode b_Lg_bitCount 55 = .ok (.lload_n 0, 1) := by decide +kernel
theorem d_Lg_bitCount_56 : decode b_Lg_bitCount 56 = .ok (.l2i, 1) := by decide +kernel
theorem d_Lg_bitCount_57 : decode b_Lg_bitCount 57 = .ok (.bipush 127, 2) := by decide +kernel
theorem d_Lg_bitCount_59 : decode b_Lg_bitCount 59 = .ok (.iand, 1) := by decide +kernel
theorem d_Lg_bitCount_60 : decode b_Lg_bitCount 60 = .ok (.ireturn, 1) := by decide +kernel
theorem mf_Lg_bitCount : zMF y_Lg_bitCount b_Lg_bitCount 2 (some .int) 1 := ⟨zGW_in 922 (by decide +kernel) (by decide +kernel), zGW_in 142 (by decide +kernel) (by decide +kernel), by decide +kernel⟩
theorem st_Lg_bitCount : Cond.static y_Lg_bitCount ∈ zGW := zGW_in 921 (by decide +kernel) (by decide +kernel)
def y_Pa_has : MethodName := ⟨zNm 4, "has", "(I)Z"⟩
abbrev b_Pa_has : ByteArray := prog_5_method_3_code
theorem d_Pa_has_0 : decode b_Pa_has 0 = .ok (.iload_n 1, 1) := by decide +kernel
theorem d_Pa_has_1 : decode b_Pa_has 1 = .ok (.ifCond .lt 15, 3) := by decide +kernel
theorem d_Pa_has_4 : decode b_Pa_has 4 = .ok (.iload_n 1, 1) := by decide +kernel
theorem d_Pa_has_5 : decode b_Pa_has 5 = .ok (.aload_n 0, 1) := by decide +kernel
theorem d_Pa_has_6 : decode b_Pa_has 6 = .ok (.getfield 9, 3) := by decide +kernel
theorem d_Pa_has_9 : decode b_Pa_has 9 = .ok (.if_icmp .ge 7, 3) := by decide +kernel
theorem d_Pa_has_12 : decode b_Pa_has 12 = .ok (.iconst 1, 1) := by decide +kernel
theorem d_Pa_has_13 : decode b_Pa_has 13 = .ok (.goto 4, 3) := by decide +kernel
theorem d_Pa_has_16 : decode b_Pa_has 16 = .ok (.iconst 0, 1) := by decide +kernel
theorem d_Pa_has_17 : decode b_Pa_has 17 = .ok (.ireturn, 1) := by decide +kernel
theorem mf_Pa_has : zMF y_Pa_has b_Pa_has 2 (some .boolean) 1 := ⟨zGW_in 933 (by decide +kernel) (by decide +kernel), zGW_in 131 (by decide +kernel) (by decide +kernel), by decide +kernel⟩
theorem in_Pa_has : Cond.instanceMethod y_Pa_has ∈ zGW := zGW_in 932 (by decide +kernel) (by decide +kernel)
theorem se_Pa_has : Cond.selects y_Pa_has.cls y_Pa_has y_Pa_has ∈ zGW := zGW_in 23 (by decide +kernel) (by decide +kernel)
def y_Pa_soonest : MethodName := ⟨zNm 4, "soonest", "(II)I"⟩
abbrev b_Pa_soonest : ByteArray := prog_5_method_9_code
theorem d_Pa_soonest_0 : decode b_Pa_soonest 0 = .ok (.aload_n 0, 1) := by decide +kernel
theorem d_Pa_soonest_1 : decode b_Pa_soonest 1 = .ok (.iload_n 1, 1) := by decide +kernel
theorem d_Pa_soonest_2 : decode b_Pa_soonest 2 = .ok (.invokevirtual 61, 3) := by decide +kernel
theorem d_Pa_soonest_5 : decode b_Pa_soonest 5 = .ok (.ifCond .eq 24, 3) := by decide +kernel
theorem d_Pa_soonest_8 : decode b_Pa_soonest 8 = .ok (.aload_n 0, 1) := by decide +kernel
theorem d_Pa_soonest_9 : decode b_Pa_soonest 9 = .ok (.iload_n 2, 1) := by decide +kernel
theorem d_Pa_soonest_10 : decode b_Pa_soonest 10 = .ok (.invokevirtual 61, 3) := by decide +kernel
theorem d_Pa_soonest_13 : decode b_Pa_soonest 13 = .ok (.ifCond .eq 16, 3) := by decide +kernel
theorem d_Pa_soonest_16 : decode b_Pa_soonest 16 = .ok (.aload_n 0, 1) := by decide +kernel
theorem d_Pa_soonest_17 : decode b_Pa_soonest 17 = .ok (.getfield 22, 3) := by decide +kernel
theorem d_Pa_soonest_20 : decode b_Pa_soonest 20 = .ok (.iload_n 1, 1) := by decide +kernel
theorem d_Pa_soonest_21 : decode b_Pa_soonest 21 = .ok (.iload_n 2, 1) := by decide +kernel
theorem d_Pa_soonest_22 : decode b_Pa_soonest 22 = .ok (.invokestatic 50, 3) := by decide +kernel
theorem d_Pa_soonest_25 : decode b_Pa_soonest 25 = .ok (.iaload, 1) := by decide +kernel
theorem d_Pa_soonest_26 : decode b_Pa_soonest 26 = .ok (.goto 5, 3) := by decide +kernel
theorem d_Pa_soonest_29 : decode b_Pa_soonest 29 = .ok (.ldc 49, 2) := by decide +kernel
theorem d_Pa_soonest_31 : decode b_Pa_soonest 31 = .ok (.istore_n 3, 1) := by decide +kernel
theorem d_Pa_soonest_32 : decode b_Pa_soonest 32 = .ok (.iload_n 3, 1) := by decide +kernel
theorem d_Pa_soonest_33 : decode b_Pa_soonest 33 = .ok (.ldc 49, 2) := by decide +kernel
theorem d_Pa_soonest_35 : decode b_Pa_soonest 35 = .ok (.if_icmp .ge 7, 3) := by decide +kernel
theorem d_Pa_soonest_38 : decode b_Pa_soonest 38 = .ok (.iload_n 3, 1) := by decide +kernel
theorem d_Pa_soonest_39 : decode b_Pa_soonest 39 = .ok (.goto 4, 3) := by decide +kernel
theorem d_Pa_soonest_42 : decode b_Pa_soonest 42 = .ok (.iconst (-1), 1) := by decide +kernel
theorem d_Pa_soonest_43 : decode b_Pa_soonest 43 = .ok (.ireturn, 1) := by decide +kernel
theorem mf_Pa_soonest : zMF y_Pa_soonest b_Pa_soonest 4 (some .int) 2 := ⟨zGW_in 929 (by decide +kernel) (by decide +kernel), zGW_in 131 (by decide +kernel) (by decide +kernel), by decide +kernel⟩
theorem in_Pa_soonest : Cond.instanceMethod y_Pa_soonest ∈ zGW := zGW_in 927 (by decide +kernel) (by decide +kernel)
theorem se_Pa_soonest : Cond.selects y_Pa_soonest.cls y_Pa_soonest y_Pa_soonest ∈ zGW := zGW_in 928 (by decide +kernel) (by decide +kernel)
def y_E_tellOrderWords : MethodName := ⟨zNm 0, "tellOrderWords", "(II)V"⟩
abbrev b_E_tellOrderWords : ByteArray := prog_1_method_51_code
theorem d_E_tellOrderWords_0 : decode b_E_tellOrderWords 0 = .ok (.aload_n 0, 1) := by decide +kernel
theorem d_E_tellOrderWords_1 : decode b_E_tellOrderWords 1 = .ok (.getfield 85, 3) := by decide +kernel
theorem d_E_tellOrderWords_4 : decode b_E_tellOrderWords 4 = .ok (.iconst 0, 1) := by decide +kernel
theorem d_E_tellOrderWords_5 : decode b_E_tellOrderWords 5 = .ok (.aload_n 0, 1) := by decide +kernel
theorem d_E_tellOrderWords_6 : decode b_E_tellOrderWords 6 = .ok (.getfield 12, 3) := by decide +kernel
theorem d_E_tellOrderWords_9 : decode b_E_tellOrderWords 9 = .ok (.getfield 326, 3) := by decide +kernel
theorem d_E_tellOrderWords_12 : decode b_E_tellOrderWords 12 = .ok (.iastore, 1) := by decide +kernel
theorem d_E_tellOrderWords_13 : decode b_E_tellOrderWords 13 = .ok (.aload_n 0, 1) := by decide +kernel
theorem d_E_tellOrderWords_14 : decode b_E_tellOrderWords 14 = .ok (.getfield 85, 3) := by decide +kernel
theorem d_E_tellOrderWords_17 : decode b_E_tellOrderWords 17 = .ok (.iconst 1, 1) := by decide +kernel
theorem d_E_tellOrderWords_18 : decode b_E_tellOrderWords 18 = .ok (.iload_n 1, 1) := by decide +kernel
theorem d_E_tellOrderWords_19 : decode b_E_tellOrderWords 19 = .ok (.iastore, 1) := by decide +kernel
theorem d_E_tellOrderWords_20 : decode b_E_tellOrderWords 20 = .ok (.aload_n 0, 1) := by decide +kernel
theorem d_E_tellOrderWords_21 : decode b_E_tellOrderWords 21 = .ok (.getfield 85, 3) := by decide +kernel
theorem d_E_tellOrderWords_24 : decode b_E_tellOrderWords 24 = .ok (.iconst 2, 1) := by decide +kernel
theorem d_E_tellOrderWords_25 : decode b_E_tellOrderWords 25 = .ok (.iload_n 2, 1) := by decide +kernel
theorem d_E_tellOrderWords_26 : decode b_E_tellOrderWords 26 = .ok (.iastore, 1) := by decide +kernel
theorem d_E_tellOrderWords_27 : decode b_E_tellOrderWords 27 = .ok (.aload_n 0, 1) := by decide +kernel
theorem d_E_tellOrderWords_28 : decode b_E_tellOrderWords 28 = .ok (.getfield 85, 3) := by decide +kernel
theorem d_E_tellOrderWords_31 : decode b_E_tellOrderWords 31 = .ok (.iconst 3, 1) := by decide +kernel
theorem d_E_tellOrderWords_32 : decode b_E_tellOrderWords 32 = .ok (.aload_n 0, 1) := by decide +kernel
theorem d_E_tellOrderWords_33 : decode b_E_tellOrderWords 33 = .ok (.getfield 12, 3) := by decide +kernel
theorem d_E_tellOrderWords_36 : decode b_E_tellOrderWords 36 = .ok (.getfield 248, 3) := by decide +kernel
theorem d_E_tellOrderWords_39 : decode b_E_tellOrderWords 39 = .ok (.iastore, 1) := by decide +kernel
theorem d_E_tellOrderWords_40 : decode b_E_tellOrderWords 40 = .ok (.aload_n 0, 1) := by decide +kernel
theorem d_E_tellOrderWords_41 : decode b_E_tellOrderWords 41 = .ok (.getfield 85, 3) := by decide +kernel
theorem d_E_tellOrderWords_44 : decode b_E_tellOrderWords 44 = .ok (.iconst 4, 1) := by decide +kernel
theorem d_E_tellOrderWords_45 : decode b_E_tellOrderWords 45 = .ok (.aload_n 0, 1) := by decide +kernel
theorem d_E_tellOrderWords_46 : decode b_E_tellOrderWords 46 = .ok (.getfield 12, 3) := by decide +kernel
theorem d_E_tellOrderWords_49 : decode b_E_tellOrderWords 49 = .ok (.getfield 347, 3) := by decide +kernel
theorem d_E_tellOrderWords_52 : decode b_E_tellOrderWords 52 = .ok (.invokestatic 351, 3) := by decide +kernel
theorem d_E_tellOrderWords_55 : decode b_E_tellOrderWords 55 = .ok (.iastore, 1) := by decide +kernel
theorem d_E_tellOrderWords_56 : decode b_E_tellOrderWords 56 = .ok (.iconst 0, 1) := by decide +kernel
theorem d_E_tellOrderWords_57 : decode b_E_tellOrderWords 57 = .ok (.istore_n 3, 1) := by decide +kernel
theorem d_E_tellOrderWords_58 : decode b_E_tellOrderWords 58 = .ok (.iload_n 3, 1) := by decide +kernel
theorem d_E_tellOrderWords_59 : decode b_E_tellOrderWords 59 = .ok (.bipush 9, 2) := by decide +kernel
theorem d_E_tellOrderWords_61 : decode b_E_tellOrderWords 61 = .ok (.if_icmp .ge 49, 3) := by decide +kernel
theorem d_E_tellOrderWords_64 : decode b_E_tellOrderWords 64 = .ok (.aload_n 0, 1) := by decide +kernel
theorem d_E_tellOrderWords_65 : decode b_E_tellOrderWords 65 = .ok (.getfield 85, 3) := by decide +kernel
theorem d_E_tellOrderWords_68 : decode b_E_tellOrderWords 68 = .ok (.iconst 5, 1) := by decide +kernel
theorem d_E_tellOrderWords_69 : decode b_E_tellOrderWords 69 = .ok (.iload_n 3, 1) := by decide +kernel
theorem d_E_tellOrderWords_70 : decode b_E_tellOrderWords 70 = .ok (.iadd, 1) := by decide +kernel
theorem d_E_tellOrderWords_71 : decode b_E_tellOrderWords 71 = .ok (.aload_n 0, 1) := by decide +kernel
theorem d_E_tellOrderWords_72 : decode b_E_tellOrderWords 72 = .ok (.getfield 12, 3) := by decide +kernel
theorem d_E_tellOrderWords_75 : decode b_E_tellOrderWords 75 = .ok (.iload_n 3, 1) := by decide +kernel
theorem d_E_tellOrderWords_76 : decode b_E_tellOrderWords 76 = .ok (.invokevirtual 137, 3) := by decide +kernel
theorem d_E_tellOrderWords_79 : decode b_E_tellOrderWords 79 = .ok (.iastore, 1) := by decide +kernel
theorem d_E_tellOrderWords_80 : decode b_E_tellOrderWords 80 = .ok (.aload_n 0, 1) := by decide +kernel
theorem d_E_tellOrderWords_81 : decode b_E_tellOrderWords 81 = .ok (.getfield 85, 3) := by decide +kernel
theorem d_E_tellOrderWords_84 : decode b_E_tellOrderWords 84 = .ok (.bipush 14, 2) := by decide +kernel
theorem d_E_tellOrderWords_86 : decode b_E_tellOrderWords 86 = .ok (.iload_n 3, 1) := by decide +kernel
theorem d_E_tellOrderWords_87 : decode b_E_tellOrderWords 87 = .ok (.iadd, 1) := by decide +kernel
theorem d_E_tellOrderWords_88 : decode b_E_tellOrderWords 88 = .ok (.aload_n 0, 1) := by decide +kernel
theorem d_E_tellOrderWords_89 : decode b_E_tellOrderWords 89 = .ok (.getfield 60, 3) := by decide +kernel
theorem d_E_tellOrderWords_92 : decode b_E_tellOrderWords 92 = .ok (.aload_n 0, 1) := by decide +kernel
theorem d_E_tellOrderWords_93 : decode b_E_tellOrderWords 93 = .ok (.getfield 12, 3) := by decide +kernel
theorem d_E_tellOrderWords_96 : decode b_E_tellOrderWords 96 = .ok (.getfield 248, 3) := by decide +kernel
theorem d_E_tellOrderWords_99 : decode b_E_tellOrderWords 99 = .ok (.iload_n 3, 1) := by decide +kernel
theorem d_E_tellOrderWords_100 : decode b_E_tellOrderWords 100 = .ok (.invokevirtual 229, 3) := by decide +kernel
theorem d_E_tellOrderWords_103 : decode b_E_tellOrderWords 103 = .ok (.iastore, 1) := by decide +kernel
theorem d_E_tellOrderWords_104 : decode b_E_tellOrderWords 104 = .ok (.iinc 3 1, 3) := by decide +kernel
theorem d_E_tellOrderWords_107 : decode b_E_tellOrderWords 107 = .ok (.goto (-49), 3) := by decide +kernel
theorem d_E_tellOrderWords_110 : decode b_E_tellOrderWords 110 = .ok (.return_, 1) := by decide +kernel
theorem mf_E_tellOrderWords : zMF y_E_tellOrderWords b_E_tellOrderWords 4 none 2 := ⟨zGW_in 919 (by decide +kernel) (by decide +kernel), zGW_in 124 (by decide +kernel) (by decide +kernel), by decide +kernel⟩
theorem in_E_tellOrderWords : Cond.instanceMethod y_E_tellOrderWords ∈ zGW := zGW_in 918 (by decide +kernel) (by decide +kernel)
theorem se_E_tellOrderWords : Cond.selects y_E_tellOrderWords.cls y_E_tellOrderWords y_E_tellOrderWords ∈ zGW := zGW_in 22 (by decide +kernel) (by decide +kernel)
def y_Ps_goTo : MethodName := ⟨zNm 5, "goTo", "(ILEelClerk$Asker;)I"⟩
abbrev b_Ps_goTo : ByteArray := prog_6_method_23_code
theorem d_Ps_goTo_0 : decode b_Ps_goTo 0 = .ok (.aload_n 0, 1) := by decide +kernel
theorem d_Ps_goTo_1 : decode b_Ps_goTo 1 = .ok (.iload_n 1, 1) := by decide +kernel
theorem d_Ps_goTo_2 : decode b_Ps_goTo 2 = .ok (.invokevirtual 98, 3) := by decide +kernel
theorem d_Ps_goTo_5 : decode b_Ps_goTo 5 = .ok (.ifCond .ne 6, 3) := by decide +kernel
theorem d_Ps_goTo_8 : decode b_Ps_goTo 8 = .ok (.bipush (-2), 2) := by decide +kernel
theorem d_Ps_goTo_10 : decode b_Ps_goTo 10 = .ok (.ireturn, 1) := by decide +kernel
theorem d_Ps_goTo_11 : decode b_Ps_goTo 11 = .ok (.aload_n 0, 1) := by decide +kernel
theorem d_Ps_goTo_12 : decode b_Ps_goTo 12 = .ok (.invokevirtual 102, 3) := by decide +kernel
theorem d_Ps_goTo_15 : decode b_Ps_goTo 15 = .ok (.astore_n 3, 1) := by decide +kernel
theorem d_Ps_goTo_16 : decode b_Ps_goTo 16 = .ok (.aload_n 0, 1) := by decide +kernel
theorem d_Ps_goTo_17 : decode b_Ps_goTo 17 = .ok (.aload_n 0, 1) := by decide +kernel
theorem d_Ps_goTo_18 : decode b_Ps_goTo 18 = .ok (.getfield 29, 3) := by decide +kernel
theorem d_Ps_goTo_21 : decode b_Ps_goTo 21 = .ok (.iload_n 1, 1) := by decide +kernel
theorem d_Ps_goTo_22 : decode b_Ps_goTo 22 = .ok (.invokevirtual 80, 3) := by decide +kernel
theorem d_Ps_goTo_25 : decode b_Ps_goTo 25 = .ok (.istore 4, 2) := by decide +kernel
theorem d_Ps_goTo_27 : decode b_Ps_goTo 27 = .ok (.aload_n 0, 1) := by decide +kernel
theorem d_Ps_goTo_28 : decode b_Ps_goTo 28 = .ok (.iload 4, 2) := by decide +kernel
theorem d_Ps_goTo_30 : decode b_Ps_goTo 30 = .ok (.invokevirtual 88, 3) := by decide +kernel
theorem d_Ps_goTo_33 : decode b_Ps_goTo 33 = .ok (.ifCond .eq 28, 3) := by decide +kernel
theorem d_Ps_goTo_36 : decode b_Ps_goTo 36 = .ok (.aload_n 0, 1) := by decide +kernel
theorem d_Ps_goTo_37 : decode b_Ps_goTo 37 = .ok (.iload 4, 2) := by decide +kernel
theorem d_Ps_goTo_39 : decode b_Ps_goTo 39 = .ok (.invokevirtual 106, 3) := by decide +kernel
theorem d_Ps_goTo_42 : decode b_Ps_goTo 42 = .ok (.ifCond .ne 19, 3) := by decide +kernel
theorem d_Ps_goTo_45 : decode b_Ps_goTo 45 = .ok (.aload_n 2, 1) := by decide +kernel
theorem d_Ps_goTo_46 : decode b_Ps_goTo 46 = .ok (.aload_n 0, 1) := by decide +kernel
theorem d_Ps_goTo_47 : decode b_Ps_goTo 47 = .ok (.aload_n 3, 1) := by decide +kernel
theorem d_Ps_goTo_48 : decode b_Ps_goTo 48 = .ok (.iconst 3, 1) := by decide +kernel
theorem d_Ps_goTo_49 : decode b_Ps_goTo 49 = .ok (.aload_n 0, 1) := by decide +kernel
theorem d_Ps_goTo_50 : decode b_Ps_goTo 50 = .ok (.getfield 29, 3) := by decide +kernel
theorem d_Ps_goTo_53 : decode b_Ps_goTo 53 = .ok (.iload_n 1, 1) := by decide +kernel
theorem d_Ps_goTo_54 : decode b_Ps_goTo 54 = .ok (.invokevirtual 109, 3) := by decide +kernel
theorem d_Ps_goTo_57 : decode b_Ps_goTo 57 = .ok (.iconst 1, 1) := by decide +kernel
theorem d_Ps_goTo_58 : decode b_Ps_goTo 58 = .ok (.if_icmp .ne 6, 3) := by decide +kernel
theorem d_Ps_goTo_61 : decode b_Ps_goTo 61 = .ok (.bipush (-3), 2) := by decide +kernel
theorem d_Ps_goTo_63 : decode b_Ps_goTo 63 = .ok (.ireturn, 1) := by decide +kernel
theorem d_Ps_goTo_64 : decode b_Ps_goTo 64 = .ok (.aload_n 2, 1) := by decide +kernel
theorem d_Ps_goTo_65 : decode b_Ps_goTo 65 = .ok (.aload_n 0, 1) := by decide +kernel
theorem d_Ps_goTo_66 : decode b_Ps_goTo 66 = .ok (.aload_n 3, 1) := by decide +kernel
theorem d_Ps_goTo_67 : decode b_Ps_goTo 67 = .ok (.iconst 0, 1) := by decide +kernel
theorem d_Ps_goTo_68 : decode b_Ps_goTo 68 = .ok (.aload_n 0, 1) := by decide +kernel
theorem d_Ps_goTo_69 : decode b_Ps_goTo 69 = .ok (.getfield 29, 3) := by decide +kernel
theorem d_Ps_goTo_72 : decode b_Ps_goTo 72 = .ok (.iload_n 1, 1) := by decide +kernel
theorem d_Ps_goTo_73 : decode b_Ps_goTo 73 = .ok (.invokevirtual 109, 3) := by decide +kernel
theorem d_Ps_goTo_76 : decode b_Ps_goTo 76 = .ok (.istore 5, 2) := by decide +kernel
theorem d_Ps_goTo_78 : decode b_Ps_goTo 78 = .ok (.aload_n 0, 1) := by decide +kernel
theorem d_Ps_goTo_79 : decode b_Ps_goTo 79 = .ok (.iload_n 1, 1) := by decide +kernel
theorem d_Ps_goTo_80 : decode b_Ps_goTo 80 = .ok (.putfield 29, 3) := by decide +kernel
theorem d_Ps_goTo_83 : decode b_Ps_goTo 83 = .ok (.iload 5, 2) := by decide +kernel
theorem d_Ps_goTo_85 : decode b_Ps_goTo 85 = .ok (.ireturn, 1) := by decide +kernel
theorem mf_Ps_goTo : zMF y_Ps_goTo b_Ps_goTo 6 (some .int) 2 := ⟨zGW_in 943 (by decide +kernel) (by decide +kernel), zGW_in 125 (by decide +kernel) (by decide +kernel), by decide +kernel⟩
theorem in_Ps_goTo : Cond.instanceMethod y_Ps_goTo ∈ zGW := zGW_in 941 (by decide +kernel) (by decide +kernel)
theorem se_Ps_goTo : Cond.selects y_Ps_goTo.cls y_Ps_goTo y_Ps_goTo ∈ zGW := zGW_in 942 (by decide +kernel) (by decide +kernel)
def y_Ps_turnGate : MethodName := ⟨zNm 5, "turnGate", "(II)I"⟩
abbrev b_Ps_turnGate : ByteArray := prog_6_method_24_code
theorem d_Ps_turnGate_0 : decode b_Ps_turnGate 0 = .ok (.iload_n 1, 1) := by decide +kernel
theorem d_Ps_turnGate_1 : decode b_Ps_turnGate 1 = .ok (.iload_n 2, 1) := by decide +kernel
theorem d_Ps_turnGate_2 : decode b_Ps_turnGate 2 = .ok (.if_icmp .ne 5, 3) := by decide +kernel
theorem d_Ps_turnGate_5 : decode b_Ps_turnGate 5 = .ok (.iconst (-1), 1) := by decide +kernel
theorem d_Ps_turnGate_6 : decode b_Ps_turnGate 6 = .ok (.ireturn, 1) := by decide +kernel
theorem d_Ps_turnGate_7 : decode b_Ps_turnGate 7 = .ok (.aload_n 0, 1) := by decide +kernel
theorem d_Ps_turnGate_8 : decode b_Ps_turnGate 8 = .ok (.iload_n 1, 1) := by decide +kernel
theorem d_Ps_turnGate_9 : decode b_Ps_turnGate 9 = .ok (.invokevirtual 98, 3) := by decide +kernel
theorem d_Ps_turnGate_12 : decode b_Ps_turnGate 12 = .ok (.ifCond .eq 11, 3) := by decide +kernel
theorem d_Ps_turnGate_15 : decode b_Ps_turnGate 15 = .ok (.aload_n 0, 1) := by decide +kernel
theorem d_Ps_turnGate_16 : decode b_Ps_turnGate 16 = .ok (.iload_n 2, 1) := by decide +kernel
theorem d_Ps_turnGate_17 : decode b_Ps_turnGate 17 = .ok (.invokevirtual 98, 3) := by decide +kernel
theorem d_Ps_turnGate_20 : decode b_Ps_turnGate 20 = .ok (.ifCond .ne 6, 3) := by decide +kernel
theorem d_Ps_turnGate_23 : decode b_Ps_turnGate 23 = .ok (.bipush (-2), 2) := by decide +kernel
theorem d_Ps_turnGate_25 : decode b_Ps_turnGate 25 = .ok (.ireturn, 1) := by decide +kernel
theorem d_Ps_turnGate_26 : decode b_Ps_turnGate 26 = .ok (.aload_n 0, 1) := by decide +kernel
theorem d_Ps_turnGate_27 : decode b_Ps_turnGate 27 = .ok (.iload_n 1, 1) := by decide +kernel
theorem d_Ps_turnGate_28 : decode b_Ps_turnGate 28 = .ok (.iload_n 2, 1) := by decide +kernel
theorem d_Ps_turnGate_29 : decode b_Ps_turnGate 29 = .ok (.invokevirtual 80, 3) := by decide +kernel
theorem d_Ps_turnGate_32 : decode b_Ps_turnGate 32 = .ok (.istore_n 3, 1) := by decide +kernel
theorem d_Ps_turnGate_33 : decode b_Ps_turnGate 33 = .ok (.aload_n 0, 1) := by decide +kernel
theorem d_Ps_turnGate_34 : decode b_Ps_turnGate 34 = .ok (.iload_n 3, 1) := by decide +kernel
theorem d_Ps_turnGate_35 : decode b_Ps_turnGate 35 = .ok (.invokevirtual 88, 3) := by decide +kernel
theorem d_Ps_turnGate_38 : decode b_Ps_turnGate 38 = .ok (.ifCond .ne 6, 3) := by decide +kernel
theorem d_Ps_turnGate_41 : decode b_Ps_turnGate 41 = .ok (.bipush (-3), 2) := by decide +kernel
theorem d_Ps_turnGate_43 : decode b_Ps_turnGate 43 = .ok (.ireturn, 1) := by decide +kernel
theorem d_Ps_turnGate_44 : decode b_Ps_turnGate 44 = .ok (.aload_n 0, 1) := by decide +kernel
theorem d_Ps_turnGate_45 : decode b_Ps_turnGate 45 = .ok (.dup, 1) := by decide +kernel
theorem d_Ps_turnGate_46 : decode b_Ps_turnGate 46 = .ok (.getfield 26, 3) := by decide +kernel
theorem d_Ps_turnGate_49 : decode b_Ps_turnGate 49 = .ok (.lconst 1, 1) := by decide +kernel
theorem d_Ps_turnGate_50 : decode b_Ps_turnGate 50 = .ok (.iload_n 3, 1) := by decide +kernel
theorem d_Ps_turnGate_51 : decode b_Ps_turnGate 51 = .ok (.lshl, 1) := by decide +kernel
theorem d_Ps_turnGate_52 : decode b_Ps_turnGate 52 = .ok (.lxor, 1) := by decide +kernel
theorem d_Ps_turnGate_53 : decode b_Ps_turnGate 53 = .ok (.putfield 26, 3) := by decide +kernel
theorem d_Ps_turnGate_56 : decode b_Ps_turnGate 56 = .ok (.aload_n 0, 1) := by decide +kernel
theorem d_Ps_turnGate_57 : decode b_Ps_turnGate 57 = .ok (.iload_n 3, 1) := by decide +kernel
theorem d_Ps_turnGate_58 : decode b_Ps_turnGate 58 = .ok (.invokevirtual 106, 3) := by decide +kernel
theorem d_Ps_turnGate_61 : decode b_Ps_turnGate 61 = .ok (.ifCond .eq 7, 3) := by decide +kernel
theorem d_Ps_turnGate_64 : decode b_Ps_turnGate 64 = .ok (.iconst 1, 1) := by decide +kernel
theorem d_Ps_turnGate_65 : decode b_Ps_turnGate 65 = .ok (.goto 4, 3) := by decide +kernel
theorem d_Ps_turnGate_68 : decode b_Ps_turnGate 68 = .ok (.iconst 0, 1) := by decide +kernel
theorem d_Ps_turnGate_69 : decode b_Ps_turnGate 69 = .ok (.ireturn, 1) := by decide +kernel
theorem mf_Ps_turnGate : zMF y_Ps_turnGate b_Ps_turnGate 4 (some .int) 2 := ⟨zGW_in 951 (by decide +kernel) (by decide +kernel), zGW_in 125 (by decide +kernel) (by decide +kernel), by decide +kernel⟩
theorem in_Ps_turnGate : Cond.instanceMethod y_Ps_turnGate ∈ zGW := zGW_in 949 (by decide +kernel) (by decide +kernel)
theorem se_Ps_turnGate : Cond.selects y_Ps_turnGate.cls y_Ps_turnGate y_Ps_turnGate ∈ zGW := zGW_in 950 (by decide +kernel) (by decide +kernel)
def y_Ps_muddy : MethodName := ⟨zNm 5, "muddy", "(II)I"⟩
abbrev b_Ps_muddy : ByteArray := prog_6_method_25_code
theorem d_Ps_muddy_0 : decode b_Ps_muddy 0 = .ok (.iload_n 2, 1) := by decide +kernel
theorem d_Ps_muddy_1 : decode b_Ps_muddy 1 = .ok (.ifCond .lt 9, 3) := by decide +kernel
theorem d_Ps_muddy_4 : decode b_Ps_muddy 4 = .ok (.iload_n 2, 1) := by decide +kernel
theorem d_Ps_muddy_5 : decode b_Ps_muddy 5 = .ok (.bipush 9, 2) := by decide +kernel
theorem d_Ps_muddy_7 : decode b_Ps_muddy 7 = .ok (.if_icmp .le 5, 3) := by decide +kernel
theorem d_Ps_muddy_10 : decode b_Ps_muddy 10 = .ok (.iconst (-1), 1) := by decide +kernel
theorem d_Ps_muddy_11 : decode b_Ps_muddy 11 = .ok (.ireturn, 1) := by decide +kernel
theorem d_Ps_muddy_12 : decode b_Ps_muddy 12 = .ok (.aload_n 0, 1) := by decide +kernel
theorem d_Ps_muddy_13 : decode b_Ps_muddy 13 = .ok (.iload_n 1, 1) := by decide +kernel
theorem d_Ps_muddy_14 : decode b_Ps_muddy 14 = .ok (.invokevirtual 98, 3) := by decide +kernel
theorem d_Ps_muddy_17 : decode b_Ps_muddy 17 = .ok (.ifCond .ne 6, 3) := by decide +kernel
theorem d_Ps_muddy_20 : decode b_Ps_muddy 20 = .ok (.bipush (-2), 2) := by decide +kernel
theorem d_Ps_muddy_22 : decode b_Ps_muddy 22 = .ok (.ireturn, 1) := by decide +kernel
theorem d_Ps_muddy_23 : decode b_Ps_muddy 23 = .ok (.aload_n 0, 1) := by decide +kernel
theorem d_Ps_muddy_24 : decode b_Ps_muddy 24 = .ok (.iload_n 1, 1) := by decide +kernel
theorem d_Ps_muddy_25 : decode b_Ps_muddy 25 = .ok (.invokevirtual 95, 3) := by decide +kernel
theorem d_Ps_muddy_28 : decode b_Ps_muddy 28 = .ok (.istore_n 3, 1) := by decide +kernel
theorem d_Ps_muddy_29 : decode b_Ps_muddy 29 = .ok (.iload_n 3, 1) := by decide +kernel
theorem d_Ps_muddy_30 : decode b_Ps_muddy 30 = .ok (.iload_n 2, 1) := by decide +kernel
theorem d_Ps_muddy_31 : decode b_Ps_muddy 31 = .ok (.if_icmp .ne 6, 3) := by decide +kernel
theorem d_Ps_muddy_34 : decode b_Ps_muddy 34 = .ok (.bipush (-3), 2) := by decide +kernel
theorem d_Ps_muddy_36 : decode b_Ps_muddy 36 = .ok (.ireturn, 1) := by decide +kernel
theorem d_Ps_muddy_37 : decode b_Ps_muddy 37 = .ok (.aload_n 0, 1) := by decide +kernel
theorem d_Ps_muddy_38 : decode b_Ps_muddy 38 = .ok (.iload_n 1, 1) := by decide +kernel
theorem d_Ps_muddy_39 : decode b_Ps_muddy 39 = .ok (.iload_n 2, 1) := by decide +kernel
theorem d_Ps_muddy_40 : decode b_Ps_muddy 40 = .ok (.invokevirtual 72, 3) := by decide +kernel
theorem d_Ps_muddy_43 : decode b_Ps_muddy 43 = .ok (.iload_n 3, 1) := by decide +kernel
theorem d_Ps_muddy_44 : decode b_Ps_muddy 44 = .ok (.ireturn, 1) := by decide +kernel
theorem mf_Ps_muddy : zMF y_Ps_muddy b_Ps_muddy 4 (some .int) 2 := ⟨zGW_in 955 (by decide +kernel) (by decide +kernel), zGW_in 125 (by decide +kernel) (by decide +kernel), by decide +kernel⟩
theorem in_Ps_muddy : Cond.instanceMethod y_Ps_muddy ∈ zGW := zGW_in 953 (by decide +kernel) (by decide +kernel)
theorem se_Ps_muddy : Cond.selects y_Ps_muddy.cls y_Ps_muddy y_Ps_muddy ∈ zGW := zGW_in 954 (by decide +kernel) (by decide +kernel)
def y_Ps_nextDay : MethodName := ⟨zNm 5, "nextDay", "(LEelClerk$Asker;)I"⟩
abbrev b_Ps_nextDay : ByteArray := prog_6_method_26_code
theorem d_Ps_nextDay_0 : decode b_Ps_nextDay 0 = .ok (.aload_n 0, 1) := by decide +kernel
theorem d_Ps_nextDay_1 : decode b_Ps_nextDay 1 = .ok (.getfield 32, 3) := by decide +kernel
theorem d_Ps_nextDay_4 : decode b_Ps_nextDay 4 = .ok (.sipush 999, 3) := by decide +kernel
theorem d_Ps_nextDay_7 : decode b_Ps_nextDay 7 = .ok (.if_icmp .lt 6, 3) := by decide +kernel
theorem d_Ps_nextDay_10 : decode b_Ps_nextDay 10 = .ok (.bipush (-3), 2) := by decide +kernel
theorem d_Ps_nextDay_12 : decode b_Ps_nextDay 12 = .ok (.ireturn, 1) := by decide +kernel
theorem d_Ps_nextDay_13 : decode b_Ps_nextDay 13 = .ok (.aload_n 0, 1) := by decide +kernel
theorem d_Ps_nextDay_14 : decode b_Ps_nextDay 14 = .ok (.invokevirtual 102, 3) := by decide +kernel
theorem d_Ps_nextDay_17 : decode b_Ps_nextDay 17 = .ok (.astore_n 2, 1) := by decide +kernel
theorem d_Ps_nextDay_18 : decode b_Ps_nextDay 18 = .ok (.lconst 0, 1) := by decide +kernel
theorem d_Ps_nextDay_19 : decode b_Ps_nextDay 19 = .ok (.lstore_n 3, 1) := by decide +kernel
theorem d_Ps_nextDay_20 : decode b_Ps_nextDay 20 = .ok (.iconst 0, 1) := by decide +kernel
theorem d_Ps_nextDay_21 : decode b_Ps_nextDay 21 = .ok (.istore 5, 2) := by decide +kernel
theorem d_Ps_nextDay_23 : decode b_Ps_nextDay 23 = .ok (.iconst 0, 1) := by decide +kernel
theorem d_Ps_nextDay_24 : decode b_Ps_nextDay 24 = .ok (.istore 6, 2) := by decide +kernel
theorem d_Ps_nextDay_26 : decode b_Ps_nextDay 26 = .ok (.iload 6, 2) := by decide +kernel
theorem d_Ps_nextDay_28 : decode b_Ps_nextDay 28 = .ok (.aload_n 0, 1) := by decide +kernel
theorem d_Ps_nextDay_29 : decode b_Ps_nextDay 29 = .ok (.getfield 9, 3) := by decide +kernel
theorem d_Ps_nextDay_32 : decode b_Ps_nextDay 32 = .ok (.if_icmp .ge 46, 3) := by decide +kernel
theorem d_Ps_nextDay_35 : decode b_Ps_nextDay 35 = .ok (.aload_n 1, 1) := by decide +kernel
theorem d_Ps_nextDay_36 : decode b_Ps_nextDay 36 = .ok (.aload_n 0, 1) := by decide +kernel
theorem d_Ps_nextDay_37 : decode b_Ps_nextDay 37 = .ok (.aload_n 2, 1) := by decide +kernel
theorem d_Ps_nextDay_38 : decode b_Ps_nextDay 38 = .ok (.iconst 2, 1) := by decide +kernel
theorem d_Ps_nextDay_39 : decode b_Ps_nextDay 39 = .ok (.iload 6, 2) := by decide +kernel
theorem d_Ps_nextDay_41 : decode b_Ps_nextDay 41 = .ok (.iconst (-1), 1) := by decide +kernel
theorem d_Ps_nextDay_42 : decode b_Ps_nextDay 42 = .ok (.invokevirtual 109, 3) := by decide +kernel
theorem d_Ps_nextDay_45 : decode b_Ps_nextDay 45 = .ok (.istore 7, 2) := by decide +kernel
theorem d_Ps_nextDay_47 : decode b_Ps_nextDay 47 = .ok (.lload_n 3, 1) := by decide +kernel
theorem d_Ps_nextDay_48 : decode b_Ps_nextDay 48 = .ok (.iload 7, 2) := by decide +kernel
theorem d_Ps_nextDay_50 : decode b_Ps_nextDay 50 = .ok (.i2l, 1) := by decide +kernel
theorem d_Ps_nextDay_51 : decode b_Ps_nextDay 51 = .ok (.iconst 4, 1) := by decide +kernel
theorem d_Ps_nextDay_52 : decode b_Ps_nextDay 52 = .ok (.iload 6, 2) := by decide +kernel
theorem d_Ps_nextDay_54 : decode b_Ps_nextDay 54 = .ok (.imul, 1) := by decide +kernel
theorem d_Ps_nextDay_55 : decode b_Ps_nextDay 55 = .ok (.lshl, 1) := by decide +kernel
theorem d_Ps_nextDay_56 : decode b_Ps_nextDay 56 = .ok (.lor, 1) := by decide +kernel
theorem d_Ps_nextDay_57 : decode b_Ps_nextDay 57 = .ok (.lstore_n 3, 1) := by decide +kernel
theorem d_Ps_nextDay_58 : decode b_Ps_nextDay 58 = .ok (.iload 7, 2) := by decide +kernel
theorem d_Ps_nextDay_60 : decode b_Ps_nextDay 60 = .ok (.aload_n 0, 1) := by decide +kernel
theorem d_Ps_nextDay_61 : decode b_Ps_nextDay 61 = .ok (.iload 6, 2) := by decide +kernel
theorem d_Ps_nextDay_63 : decode b_Ps_nextDay 63 = .ok (.invokevirtual 95, 3) := by decide +kernel
theorem d_Ps_nextDay_66 : decode b_Ps_nextDay 66 = .ok (.if_icmp .eq 6, 3) := by decide +kernel
theorem d_Ps_nextDay_69 : decode b_Ps_nextDay 69 = .ok (.iinc 5 1, 3) := by decide +kernel
theorem d_Ps_nextDay_72 : decode b_Ps_nextDay 72 = .ok (.iinc 6 1, 3) := by decide +kernel
theorem d_Ps_nextDay_75 : decode b_Ps_nextDay 75 = .ok (.goto (-49), 3) := by decide +kernel
theorem d_Ps_nextDay_78 : decode b_Ps_nextDay 78 = .ok (.aload_n 0, 1) := by decide +kernel
theorem d_Ps_nextDay_79 : decode b_Ps_nextDay 79 = .ok (.lload_n 3, 1) := by decide +kernel
theorem d_Ps_nextDay_80 : decode b_Ps_nextDay 80 = .ok (.putfield 22, 3) := by decide +kernel
theorem d_Ps_nextDay_83 : decode b_Ps_nextDay 83 = .ok (.aload_n 0, 1) := by decide +kernel
theorem d_Ps_nextDay_84 : decode b_Ps_nextDay 84 = .ok (.dup, 1) := by decide +kernel
theorem d_Ps_nextDay_85 : decode b_Ps_nextDay 85 = .ok (.getfield 32, 3) := by decide +kernel
theorem d_Ps_nextDay_88 : decode b_Ps_nextDay 88 = .ok (.iconst 1, 1) := by decide +kernel
theorem d_Ps_nextDay_89 : decode b_Ps_nextDay 89 = .ok (.iadd, 1) := by decide +kernel
theorem d_Ps_nextDay_90 : decode b_Ps_nextDay 90 = .ok (.putfield 32, 3) := by decide +kernel
theorem d_Ps_nextDay_93 : decode b_Ps_nextDay 93 = .ok (.iload 5, 2) := by decide +kernel
theorem d_Ps_nextDay_95 : decode b_Ps_nextDay 95 = .ok (.ireturn, 1) := by decide +kernel
theorem mf_Ps_nextDay : zMF y_Ps_nextDay b_Ps_nextDay 8 (some .int) 1 := ⟨zGW_in 959 (by decide +kernel) (by decide +kernel), zGW_in 125 (by decide +kernel) (by decide +kernel), by decide +kernel⟩
theorem in_Ps_nextDay : Cond.instanceMethod y_Ps_nextDay ∈ zGW := zGW_in 957 (by decide +kernel) (by decide +kernel)
theorem se_Ps_nextDay : Cond.selects y_Ps_nextDay.cls y_Ps_nextDay y_Ps_nextDay ∈ zGW := zGW_in 958 (by decide +kernel) (by decide +kernel)
def y_Jo_add : MethodName := ⟨zNm 2, "add", "(IIIJJ)V"⟩
abbrev b_Jo_add : ByteArray := prog_3_method_4_code
theorem d_Jo_add_0 : decode b_Jo_add 0 = .ok (.aload_n 0, 1) := by decide +kernel
theorem d_Jo_add_1 : decode b_Jo_add 1 = .ok (.getfield 15, 3) := by decide +kernel
theorem d_Jo_add_4 : decode b_Jo_add 4 = .ok (.bipush 15, 2) := by decide +kernel
theorem d_Jo_add_6 : decode b_Jo_add 6 = .ok (.iand, 1) := by decide +kernel
theorem d_Jo_add_7 : decode b_Jo_add 7 = .ok (.istore 8, 2) := by decide +kernel
theorem d_Jo_add_9 : decode b_Jo_add 9 = .ok (.aload_n 0, 1) := by decide +kernel
theorem d_Jo_add_10 : decode b_Jo_add 10 = .ok (.getfield 18, 3) := by decide +kernel
theorem d_Jo_add_13 : decode b_Jo_add 13 = .ok (.iload 8, 2) := by decide +kernel
theorem d_Jo_add_15 : decode b_Jo_add 15 = .ok (.iload_n 1, 1) := by decide +kernel
theorem d_Jo_add_16 : decode b_Jo_add 16 = .ok (.iastore, 1) := by decide +kernel
theorem d_Jo_add_17 : decode b_Jo_add 17 = .ok (.aload_n 0, 1) := by decide +kernel
theorem d_Jo_add_18 : decode b_Jo_add 18 = .ok (.getfield 22, 3) := by decide +kernel
theorem d_Jo_add_21 : decode b_Jo_add 21 = .ok (.iload 8, 2) := by decide +kernel
theorem d_Jo_add_23 : decode b_Jo_add 23 = .ok (.iload_n 2, 1) := by decide +kernel
theorem d_Jo_add_24 : decode b_Jo_add 24 = .ok (.iastore, 1) := by decide +kernel
theorem d_Jo_add_25 : decode b_Jo_add 25 = .ok (.aload_n 0, 1) := by decide +kernel
theorem d_Jo_add_26 : decode b_Jo_add 26 = .ok (.getfield 25, 3) := by decide +kernel
theorem d_Jo_add_29 : decode b_Jo_add 29 = .ok (.iload 8, 2) := by decide +kernel
theorem d_Jo_add_31 : decode b_Jo_add 31 = .ok (.iload_n 3, 1) := by decide +kernel
theorem d_Jo_add_32 : decode b_Jo_add 32 = .ok (.iastore, 1) := by decide +kernel
theorem d_Jo_add_33 : decode b_Jo_add 33 = .ok (.aload_n 0, 1) := by decide +kernel
theorem d_Jo_add_34 : decode b_Jo_add 34 = .ok (.getfield 28, 3) := by decide +kernel
theorem d_Jo_add_37 : decode b_Jo_add 37 = .ok (.iload 8, 2) := by decide +kernel
theorem d_Jo_add_39 : decode b_Jo_add 39 = .ok (.lload 4, 2) := by decide +kernel
theorem d_Jo_add_41 : decode b_Jo_add 41 = .ok (.lastore, 1) := by decide +kernel
theorem d_Jo_add_42 : decode b_Jo_add 42 = .ok (.aload_n 0, 1) := by decide +kernel
theorem d_Jo_add_43 : decode b_Jo_add 43 = .ok (.getfield 32, 3) := by decide +kernel
theorem d_Jo_add_46 : decode b_Jo_add 46 = .ok (.iload 8, 2) := by decide +kernel
theorem d_Jo_add_48 : decode b_Jo_add 48 = .ok (.lload 6, 2) := by decide +kernel
theorem d_Jo_add_50 : decode b_Jo_add 50 = .ok (.lastore, 1) := by decide +kernel
theorem d_Jo_add_51 : decode b_Jo_add 51 = .ok (.aload_n 0, 1) := by decide +kernel
theorem d_Jo_add_52 : decode b_Jo_add 52 = .ok (.iload 8, 2) := by decide +kernel
theorem d_Jo_add_54 : decode b_Jo_add 54 = .ok (.iconst 1, 1) := by decide +kernel
theorem d_Jo_add_55 : decode b_Jo_add 55 = .ok (.iadd, 1) := by decide +kernel
theorem d_Jo_add_56 : decode b_Jo_add 56 = .ok (.putfield 15, 3) := by decide +kernel
theorem d_Jo_add_59 : decode b_Jo_add 59 = .ok (.aload_n 0, 1) := by decide +kernel
theorem d_Jo_add_60 : decode b_Jo_add 60 = .ok (.getfield 11, 3) := by decide +kernel
theorem d_Jo_add_63 : decode b_Jo_add 63 = .ok (.bipush 16, 2) := by decide +kernel
theorem d_Jo_add_65 : decode b_Jo_add 65 = .ok (.if_icmp .ge 13, 3) := by decide +kernel
theorem d_Jo_add_68 : decode b_Jo_add 68 = .ok (.aload_n 0, 1) := by decide +kernel
theorem d_Jo_add_69 : decode b_Jo_add 69 = .ok (.dup, 1) := by decide +kernel
theorem d_Jo_add_70 : decode b_Jo_add 70 = .ok (.getfield 11, 3) := by decide +kernel
theorem d_Jo_add_73 : decode b_Jo_add 73 = .ok (.iconst 1, 1) := by decide +kernel
theorem d_Jo_add_74 : decode b_Jo_add 74 = .ok (.iadd, 1) := by decide +kernel
theorem d_Jo_add_75 : decode b_Jo_add 75 = .ok (.putfield 11, 3) := by decide +kernel
theorem d_Jo_add_78 : decode b_Jo_add 78 = .ok (.return_, 1) := by decide +kernel
theorem mf_Jo_add : zMF y_Jo_add b_Jo_add 9 none 5 := ⟨zGW_in 963 (by decide +kernel) (by decide +kernel), zGW_in 126 (by decide +kernel) (by decide +kernel), by decide +kernel⟩
theorem in_Jo_add : Cond.instanceMethod y_Jo_add ∈ zGW := zGW_in 961 (by decide +kernel) (by decide +kernel)
theorem se_Jo_add : Cond.selects y_Jo_add.cls y_Jo_add y_Jo_add ∈ zGW := zGW_in 962 (by decide +kernel) (by decide +kernel)
def y_E_act : MethodName := ⟨zNm 0, "act", "(III)I"⟩
abbrev b_E_act : ByteArray := prog_1_method_49_code
theorem d_E_act_0 : decode b_E_act 0 = .ok (.aload_n 0, 1) := by decide +kernel
theorem d_E_act_1 : decode b_E_act 1 = .ok (.getfield 12, 3) := by decide +kernel
theorem d_E_act_4 : decode b_E_act 4 = .ok (.getfield 248, 3) := by decide +kernel
theorem d_E_act_7 : decode b_E_act 7 = .ok (.istore 4, 2) := by decide +kernel
theorem d_E_act_9 : decode b_E_act 9 = .ok (.aload_n 0, 1) := by decide +kernel
theorem d_E_act_10 : decode b_E_act 10 = .ok (.getfield 12, 3) := by decide +kernel
theorem d_E_act_13 : decode b_E_act 13 = .ok (.getfield 326, 3) := by decide +kernel
theorem d_E_act_16 : decode b_E_act 16 = .ok (.istore 5, 2) := by decide +kernel
theorem d_E_act_18 : decode b_E_act 18 = .ok (.aload_n 0, 1) := by decide +kernel
theorem d_E_act_19 : decode b_E_act 19 = .ok (.getfield 12, 3) := by decide +kernel
theorem d_E_act_22 : decode b_E_act 22 = .ok (.getfield 347, 3) := by decide +kernel
theorem d_E_act_25 : decode b_E_act 25 = .ok (.lstore 6, 2) := by decide +kernel
theorem d_E_act_27 : decode b_E_act 27 = .ok (.aload_n 0, 1) := by decide +kernel
theorem d_E_act_28 : decode b_E_act 28 = .ok (.getfield 12, 3) := by decide +kernel
theorem d_E_act_31 : decode b_E_act 31 = .ok (.getfield 366, 3) := by decide +kernel
theorem d_E_act_34 : decode b_E_act 34 = .ok (.lstore 8, 2) := by decide +kernel
theorem d_E_act_36 : decode b_E_act 36 = .ok (.iload_n 1, 1) := by decide +kernel
theorem d_E_act_37 : decode b_E_act 37 = .ok (.tableswitch 72 0 2 #[27, 44, 58], 27) := by decide +kernel
theorem d_E_act_64 : decode b_E_act 64 = .ok (.aload_n 0, 1) := by decide +kernel
theorem d_E_act_65 : decode b_E_act 65 = .ok (.getfield 12, 3) := by decide +kernel
theorem d_E_act_68 : decode b_E_act 68 = .ok (.iload_n 2, 1) := by decide +kernel
theorem d_E_act_69 : decode b_E_act 69 = .ok (.aload_n 0, 1) := by decide +kernel
theorem d_E_act_70 : decode b_E_act 70 = .ok (.getfield 53, 3) := by decide +kernel
theorem d_E_act_73 : decode b_E_act 73 = .ok (.invokevirtual 369, 3) := by decide +kernel
theorem d_E_act_76 : decode b_E_act 76 = .ok (.istore 10, 2) := by decide +kernel
theorem d_E_act_78 : decode b_E_act 78 = .ok (.goto 44, 3) := by decide +kernel
theorem d_E_act_81 : decode b_E_act 81 = .ok (.aload_n 0, 1) := by decide +kernel
theorem d_E_act_82 : decode b_E_act 82 = .ok (.getfield 12, 3) := by decide +kernel
theorem d_E_act_85 : decode b_E_act 85 = .ok (.iload_n 2, 1) := by decide +kernel
theorem d_E_act_86 : decode b_E_act 86 = .ok (.iload_n 3, 1) := by decide +kernel
theorem d_E_act_87 : decode b_E_act 87 = .ok (.invokevirtual 373, 3) := by decide +kernel
theorem d_E_act_90 : decode b_E_act 90 = .ok (.istore 10, 2) := by decide +kernel
theorem d_E_act_92 : decode b_E_act 92 = .ok (.goto 30, 3) := by decide +kernel
theorem d_E_act_95 : decode b_E_act 95 = .ok (.aload_n 0, 1) := by decide +kernel
theorem d_E_act_96 : decode b_E_act 96 = .ok (.getfield 12, 3) := by decide +kernel
theorem d_E_act_99 : decode b_E_act 99 = .ok (.iload_n 2, 1) := by decide +kernel
theorem d_E_act_100 : decode b_E_act 100 = .ok (.iload_n 3, 1) := by decide +kernel
theorem d_E_act_101 : decode b_E_act 101 = .ok (.invokevirtual 376, 3) := by decide +kernel
theorem d_E_act_104 : decode b_E_act 104 = .ok (.istore 10, 2) := by decide +kernel
theorem d_E_act_106 : decode b_E_act 106 = .ok (.goto 16, 3) := by decide +kernel
theorem d_E_act_109 : decode b_E_act 109 = .ok (.aload_n 0, 1) := by decide +kernel
theorem d_E_act_110 : decode b_E_act 110 = .ok (.getfield 12, 3) := by decide +kernel
theorem d_E_act_113 : decode b_E_act 113 = .ok (.aload_n 0, 1) := by decide +kernel
theorem d_E_act_114 : decode b_E_act 114 = .ok (.getfield 53, 3) := by decide +kernel
theorem d_E_act_117 : decode b_E_act 117 = .ok (.invokevirtual 336, 3) := by decide +kernel
theorem d_E_act_120 : decode b_E_act 120 = .ok (.istore 10, 2) := by decide +kernel
theorem d_E_act_122 : decode b_E_act 122 = .ok (.iload 10, 2) := by decide +kernel
theorem d_E_act_124 : decode b_E_act 124 = .ok (.ifCond .lt 19, 3) := by decide +kernel
theorem d_E_act_127 : decode b_E_act 127 = .ok (.aload_n 0, 1) := by decide +kernel
theorem d_E_act_128 : decode b_E_act 128 = .ok (.getfield 29, 3) := by decide +kernel
theorem d_E_act_131 : decode b_E_act 131 = .ok (.iload_n 1, 1) := by decide +kernel
theorem d_E_act_132 : decode b_E_act 132 = .ok (.iload 4, 2) := by decide +kernel
theorem d_E_act_134 : decode b_E_act 134 = .ok (.iload 5, 2) := by decide +kernel
theorem d_E_act_136 : decode b_E_act 136 = .ok (.lload 6, 2) := by decide +kernel
theorem d_E_act_138 : decode b_E_act 138 = .ok (.lload 8, 2) := by decide +kernel
theorem d_E_act_140 : decode b_E_act 140 = .ok (.invokevirtual 379, 3) := by decide +kernel
theorem d_E_act_143 : decode b_E_act 143 = .ok (.iload 10, 2) := by decide +kernel
theorem d_E_act_145 : decode b_E_act 145 = .ok (.ireturn, 1) := by decide +kernel
theorem mf_E_act : zMF y_E_act b_E_act 11 (some .int) 3 := ⟨zGW_in 939 (by decide +kernel) (by decide +kernel), zGW_in 124 (by decide +kernel) (by decide +kernel), by decide +kernel⟩
theorem in_E_act : Cond.instanceMethod y_E_act ∈ zGW := zGW_in 938 (by decide +kernel) (by decide +kernel)
theorem se_E_act : Cond.selects y_E_act.cls y_E_act y_E_act ∈ zGW := zGW_in 24 (by decide +kernel) (by decide +kernel)
def y_E_run : MethodName := ⟨zNm 0, "run", "(LEelClerk$Text;)I"⟩
abbrev b_E_run : ByteArray := prog_1_method_50_code
theorem d_E_run_0 : decode b_E_run 0 = .ok (.iconst 0, 1) := by decide +kernel
theorem d_E_run_1 : decode b_E_run 1 = .ok (.istore_n 2, 1) := by decide +kernel
theorem d_E_run_2 : decode b_E_run 2 = .ok (.iconst (-1), 1) := by decide +kernel
theorem d_E_run_3 : decode b_E_run 3 = .ok (.istore_n 3, 1) := by decide +kernel
theorem d_E_run_4 : decode b_E_run 4 = .ok (.aload_n 0, 1) := by decide +kernel
theorem d_E_run_5 : decode b_E_run 5 = .ok (.getfield 53, 3) := by decide +kernel
theorem d_E_run_8 : decode b_E_run 8 = .ok (.getfield 383, 3) := by decide +kernel
theorem d_E_run_11 : decode b_E_run 11 = .ok (.astore 4, 2) := by decide +kernel
theorem d_E_run_13 : decode b_E_run 13 = .ok (.iconst 0, 1) := by decide +kernel
theorem d_E_run_14 : decode b_E_run 14 = .ok (.istore 5, 2) := by decide +kernel
theorem d_E_run_16 : decode b_E_run 16 = .ok (.iload 5, 2) := by decide +kernel
theorem d_E_run_18 : decode b_E_run 18 = .ok (.aload_n 1, 1) := by decide +kernel
theorem d_E_run_19 : decode b_E_run 19 = .ok (.getfield 386, 3) := by decide +kernel
theorem d_E_run_22 : decode b_E_run 22 = .ok (.if_icmp .ge 184, 3) := by decide +kernel
theorem d_E_run_25 : decode b_E_run 25 = .ok (.aload_n 1, 1) := by decide +kernel
theorem d_E_run_26 : decode b_E_run 26 = .ok (.iload 5, 2) := by decide +kernel
theorem d_E_run_28 : decode b_E_run 28 = .ok (.invokevirtual 389, 3) := by decide +kernel
theorem d_E_run_31 : decode b_E_run 31 = .ok (.istore 6, 2) := by decide +kernel
theorem d_E_run_33 : decode b_E_run 33 = .ok (.iconst 0, 1) := by decide +kernel
theorem d_E_run_34 : decode b_E_run 34 = .ok (.istore 7, 2) := by decide +kernel
theorem d_E_run_36 : decode b_E_run 36 = .ok (.iload 7, 2) := by decide +kernel
theorem d_E_run_38 : decode b_E_run 38 = .ok (.aload_n 1, 1) := by decide +kernel
theorem d_E_run_39 : decode b_E_run 39 = .ok (.iload 5, 2) := by decide +kernel
theorem d_E_run_41 : decode b_E_run 41 = .ok (.invokevirtual 392, 3) := by decide +kernel
theorem d_E_run_44 : decode b_E_run 44 = .ok (.if_icmp .ge 156, 3) := by decide +kernel
theorem d_E_run_47 : decode b_E_run 47 = .ok (.aload_n 1, 1) := by decide +kernel
theorem d_E_run_48 : decode b_E_run 48 = .ok (.getfield 395, 3) := by decide +kernel
theorem d_E_run_51 : decode b_E_run 51 = .ok (.ifCond .eq 25, 3) := by decide +kernel
theorem d_E_run_54 : decode b_E_run 54 = .ok (.aload_n 0, 1) := by decide +kernel
theorem d_E_run_55 : decode b_E_run 55 = .ok (.getfield 60, 3) := by decide +kernel
theorem d_E_run_58 : decode b_E_run 58 = .ok (.aload_n 0, 1) := by decide +kernel
theorem d_E_run_59 : decode b_E_run 59 = .ok (.getfield 12, 3) := by decide +kernel
theorem d_E_run_62 : decode b_E_run 62 = .ok (.aload_n 0, 1) := by decide +kernel
theorem d_E_run_63 : decode b_E_run 63 = .ok (.getfield 12, 3) := by decide +kernel
theorem d_E_run_66 : decode b_E_run 66 = .ok (.invokevirtual 140, 3) := by decide +kernel
theorem d_E_run_69 : decode b_E_run 69 = .ok (.aload_n 0, 1) := by decide +kernel
theorem d_E_run_70 : decode b_E_run 70 = .ok (.getfield 53, 3) := by decide +kernel
theorem d_E_run_73 : decode b_E_run 73 = .ok (.invokevirtual 322, 3) := by decide +kernel
theorem d_E_run_76 : decode b_E_run 76 = .ok (.aload_n 0, 1) := by decide +kernel
theorem d_E_run_77 : decode b_E_run 77 = .ok (.iload_n 2, 1) := by decide +kernel
theorem d_E_run_78 : decode b_E_run 78 = .ok (.iload_n 3, 1) := by decide +kernel
theorem d_E_run_79 : decode b_E_run 79 = .ok (.invokevirtual 398, 3) := by decide +kernel
theorem d_E_run_82 : decode b_E_run 82 = .ok (.aload_n 1, 1) := by decide +kernel
theorem d_E_run_83 : decode b_E_run 83 = .ok (.iload 5, 2) := by decide +kernel
theorem d_E_run_85 : decode b_E_run 85 = .ok (.iconst 2, 1) := by decide +kernel
theorem d_E_run_86 : decode b_E_run 86 = .ok (.aload_n 0, 1) := by decide +kernel
theorem d_E_run_87 : decode b_E_run 87 = .ok (.getfield 85, 3) := by decide +kernel
theorem d_E_run_90 : decode b_E_run 90 = .ok (.aload 4, 2) := by decide +kernel
theorem d_E_run_92 : decode b_E_run 92 = .ok (.invokevirtual 401, 3) := by decide +kernel
theorem d_E_run_95 : decode b_E_run 95 = .ok (.lconst 1, 1) := by decide +kernel
theorem d_E_run_96 : decode b_E_run 96 = .ok (.lcmp, 1) := by decide +kernel
theorem d_E_run_97 : decode b_E_run 97 = .ok (.ifCond .eq 6, 3) := by decide +kernel
theorem d_E_run_100 : decode b_E_run 100 = .ok (.goto 94, 3) := by decide +kernel
theorem d_E_run_103 : decode b_E_run 103 = .ok (.aload_n 1, 1) := by decide +kernel
theorem d_E_run_104 : decode b_E_run 104 = .ok (.iload 5, 2) := by decide +kernel
theorem d_E_run_106 : decode b_E_run 106 = .ok (.iconst 0, 1) := by decide +kernel
theorem d_E_run_107 : decode b_E_run 107 = .ok (.aload_n 0, 1) := by decide +kernel
theorem d_E_run_108 : decode b_E_run 108 = .ok (.getfield 85, 3) := by decide +kernel
theorem d_E_run_111 : decode b_E_run 111 = .ok (.aload 4, 2) := by decide +kernel
theorem d_E_run_113 : decode b_E_run 113 = .ok (.invokevirtual 401, 3) := by decide +kernel
theorem d_E_run_116 : decode b_E_run 116 = .ok (.lstore 8, 2) := by decide +kernel
theorem d_E_run_118 : decode b_E_run 118 = .ok (.aload_n 1, 1) := by decide +kernel
theorem d_E_run_119 : decode b_E_run 119 = .ok (.iload 5, 2) := by decide +kernel
theorem d_E_run_121 : decode b_E_run 121 = .ok (.iconst 1, 1) := by decide +kernel
theorem d_E_run_122 : decode b_E_run 122 = .ok (.aload_n 0, 1) := by decide +kernel
theorem d_E_run_123 : decode b_E_run 123 = .ok (.getfield 85, 3) := by decide +kernel
theorem d_E_run_126 : decode b_E_run 126 = .ok (.aload 4, 2) := by decide +kernel
theorem d_E_run_128 : decode b_E_run 128 = .ok (.invokevirtual 401, 3) := by decide +kernel
theorem d_E_run_131 : decode b_E_run 131 = .ok (.lstore 10, 2) := by decide +kernel
theorem d_E_run_133 : decode b_E_run 133 = .ok (.lload 8, 2) := by decide +kernel
theorem d_E_run_135 : decode b_E_run 135 = .ok (.ldc2_w 405, 3) := by decide +kernel
theorem d_E_run_138 : decode b_E_run 138 = .ok (.lcmp, 1) := by decide +kernel
theorem d_E_run_139 : decode b_E_run 139 = .ok (.ifCond .eq 12, 3) := by decide +kernel
theorem d_E_run_142 : decode b_E_run 142 = .ok (.lload 10, 2) := by decide +kernel
theorem d_E_run_144 : decode b_E_run 144 = .ok (.ldc2_w 405, 3) := by decide +kernel
theorem d_E_run_147 : decode b_E_run 147 = .ok (.lcmp, 1) := by decide +kernel
theorem d_E_run_148 : decode b_E_run 148 = .ok (.ifCond .ne 8, 3) := by decide +kernel
theorem d_E_run_151 : decode b_E_run 151 = .ok (.bipush (-3), 2) := by decide +kernel
theorem d_E_run_153 : decode b_E_run 153 = .ok (.goto 15, 3) := by decide +kernel
theorem d_E_run_156 : decode b_E_run 156 = .ok (.aload_n 0, 1) := by decide +kernel
theorem d_E_run_157 : decode b_E_run 157 = .ok (.iload 6, 2) := by decide +kernel
theorem d_E_run_159 : decode b_E_run 159 = .ok (.lload 8, 2) := by decide +kernel
theorem d_E_run_161 : decode b_E_run 161 = .ok (.l2i, 1) := by decide +kernel
theorem d_E_run_162 : decode b_E_run 162 = .ok (.lload 10, 2) := by decide +kernel
theorem d_E_run_164 : decode b_E_run 164 = .ok (.l2i, 1) := by decide +kernel
theorem d_E_run_165 : decode b_E_run 165 = .ok (.invokevirtual 216, 3) := by decide +kernel
theorem d_E_run_168 : decode b_E_run 168 = .ok (.istore 12, 2) := by decide +kernel
theorem d_E_run_170 : decode b_E_run 170 = .ok (.iload 12, 2) := by decide +kernel
theorem d_E_run_172 : decode b_E_run 172 = .ok (.ifCond .ge 11, 3) := by decide +kernel
theorem d_E_run_175 : decode b_E_run 175 = .ok (.aload_n 0, 1) := by decide +kernel
theorem d_E_run_176 : decode b_E_run 176 = .ok (.iload 5, 2) := by decide +kernel
theorem d_E_run_178 : decode b_E_run 178 = .ok (.putfield 103, 3) := by decide +kernel
theorem d_E_run_181 : decode b_E_run 181 = .ok (.iconst (-1), 1) := by decide +kernel
theorem d_E_run_182 : decode b_E_run 182 = .ok (.ireturn, 1) := by decide +kernel
theorem d_E_run_183 : decode b_E_run 183 = .ok (.iinc 2 1, 3) := by decide +kernel
theorem d_E_run_186 : decode b_E_run 186 = .ok (.iload 6, 2) := by decide +kernel
theorem d_E_run_188 : decode b_E_run 188 = .ok (.ifCond .ne 6, 3) := by decide +kernel
theorem d_E_run_191 : decode b_E_run 191 = .ok (.iload 12, 2) := by decide +kernel
theorem d_E_run_193 : decode b_E_run 193 = .ok (.istore_n 3, 1) := by decide +kernel
theorem d_E_run_194 : decode b_E_run 194 = .ok (.iinc 7 1, 3) := by decide +kernel
theorem d_E_run_197 : decode b_E_run 197 = .ok (.goto (-161), 3) := by decide +kernel
theorem d_E_run_200 : decode b_E_run 200 = .ok (.iinc 5 1, 3) := by decide +kernel
theorem d_E_run_203 : decode b_E_run 203 = .ok (.goto (-187), 3) := by decide +kernel
theorem d_E_run_206 : decode b_E_run 206 = .ok (.iload_n 2, 1) := by decide +kernel
theorem d_E_run_207 : decode b_E_run 207 = .ok (.ireturn, 1) := by decide +kernel
theorem mf_E_run : zMF y_E_run b_E_run 13 (some .int) 1 := ⟨zGW_in 890 (by decide +kernel) (by decide +kernel), zGW_in 124 (by decide +kernel) (by decide +kernel), by decide +kernel⟩
theorem in_E_run : Cond.instanceMethod y_E_run ∈ zGW := zGW_in 889 (by decide +kernel) (by decide +kernel)
theorem se_E_run : Cond.selects y_E_run.cls y_E_run y_E_run ∈ zGW := zGW_in 19 (by decide +kernel) (by decide +kernel)
def y_E_orders : MethodName := ⟨zNm 0, "orders", "()I"⟩
abbrev b_E_orders : ByteArray := prog_1_method_12_code
theorem d_E_orders_0 : decode b_E_orders 0 = .ok (.aload_n 0, 1) := by decide +kernel
theorem d_E_orders_1 : decode b_E_orders 1 = .ok (.iconst (-1), 1) := by decide +kernel
theorem d_E_orders_2 : decode b_E_orders 2 = .ok (.putfield 103, 3) := by decide +kernel
theorem d_E_orders_5 : decode b_E_orders 5 = .ok (.aload_n 0, 1) := by decide +kernel
theorem d_E_orders_6 : decode b_E_orders 6 = .ok (.aload_n 0, 1) := by decide +kernel
theorem d_E_orders_7 : decode b_E_orders 7 = .ok (.getfield 46, 3) := by decide +kernel
theorem d_E_orders_10 : decode b_E_orders 10 = .ok (.aload_n 0, 1) := by decide +kernel
theorem d_E_orders_11 : decode b_E_orders 11 = .ok (.getfield 39, 3) := by decide +kernel
theorem d_E_orders_14 : decode b_E_orders 14 = .ok (.iconst 1, 1) := by decide +kernel
theorem d_E_orders_15 : decode b_E_orders 15 = .ok (.invokevirtual 183, 3) := by decide +kernel
theorem d_E_orders_18 : decode b_E_orders 18 = .ok (.putfield 100, 3) := by decide +kernel
theorem d_E_orders_21 : decode b_E_orders 21 = .ok (.aload_n 0, 1) := by decide +kernel
theorem d_E_orders_22 : decode b_E_orders 22 = .ok (.getfield 39, 3) := by decide +kernel
theorem d_E_orders_25 : decode b_E_orders 25 = .ok (.iconst 0, 1) := by decide +kernel
theorem d_E_orders_26 : decode b_E_orders 26 = .ok (.putfield 170, 3) := by decide +kernel
theorem d_E_orders_29 : decode b_E_orders 29 = .ok (.aload_n 0, 1) := by decide +kernel
theorem d_E_orders_30 : decode b_E_orders 30 = .ok (.getfield 100, 3) := by decide +kernel
theorem d_E_orders_33 : decode b_E_orders 33 = .ok (.iconst (-1), 1) := by decide +kernel
theorem d_E_orders_34 : decode b_E_orders 34 = .ok (.if_icmp .eq 10, 3) := by decide +kernel
theorem d_E_orders_37 : decode b_E_orders 37 = .ok (.aload_n 0, 1) := by decide +kernel
theorem d_E_orders_38 : decode b_E_orders 38 = .ok (.bipush (-6), 2) := by decide +kernel
theorem d_E_orders_40 : decode b_E_orders 40 = .ok (.invokevirtual 109, 3) := by decide +kernel
theorem d_E_orders_43 : decode b_E_orders 43 = .ok (.ireturn, 1) := by decide +kernel
theorem d_E_orders_44 : decode b_E_orders 44 = .ok (.aload_n 0, 1) := by decide +kernel
theorem d_E_orders_45 : decode b_E_orders 45 = .ok (.getfield 16, 3) := by decide +kernel
theorem d_E_orders_48 : decode b_E_orders 48 = .ok (.aload_n 0, 1) := by decide +kernel
theorem d_E_orders_49 : decode b_E_orders 49 = .ok (.getfield 12, 3) := by decide +kernel
theorem d_E_orders_52 : decode b_E_orders 52 = .ok (.invokevirtual 200, 3) := by decide +kernel
theorem d_E_orders_55 : decode b_E_orders 55 = .ok (.aload_n 0, 1) := by decide +kernel
theorem d_E_orders_56 : decode b_E_orders 56 = .ok (.getfield 33, 3) := by decide +kernel
theorem d_E_orders_59 : decode b_E_orders 59 = .ok (.aload_n 0, 1) := by decide +kernel
theorem d_E_orders_60 : decode b_E_orders 60 = .ok (.getfield 29, 3) := by decide +kernel
theorem d_E_orders_63 : decode b_E_orders 63 = .ok (.invokevirtual 204, 3) := by decide +kernel
theorem d_E_orders_66 : decode b_E_orders 66 = .ok (.aload_n 0, 1) := by decide +kernel
theorem d_E_orders_67 : decode b_E_orders 67 = .ok (.aload_n 0, 1) := by decide +kernel
theorem d_E_orders_68 : decode b_E_orders 68 = .ok (.getfield 46, 3) := by decide +kernel
theorem d_E_orders_71 : decode b_E_orders 71 = .ok (.getfield 187, 3) := by decide +kernel
theorem d_E_orders_74 : decode b_E_orders 74 = .ok (.invokevirtual 207, 3) := by decide +kernel
theorem d_E_orders_77 : decode b_E_orders 77 = .ok (.istore_n 1, 1) := by decide +kernel
theorem d_E_orders_78 : decode b_E_orders 78 = .ok (.iload_n 1, 1) := by decide +kernel
theorem d_E_orders_79 : decode b_E_orders 79 = .ok (.iconst (-1), 1) := by decide +kernel
theorem d_E_orders_80 : decode b_E_orders 80 = .ok (.if_icmp .ne 32, 3) := by decide +kernel
theorem d_E_orders_83 : decode b_E_orders 83 = .ok (.aload_n 0, 1) := by decide +kernel
theorem d_E_orders_84 : decode b_E_orders 84 = .ok (.getfield 12, 3) := by decide +kernel
theorem d_E_orders_87 : decode b_E_orders 87 = .ok (.aload_n 0, 1) := by decide +kernel
theorem d_E_orders_88 : decode b_E_orders 88 = .ok (.getfield 16, 3) := by decide +kernel
theorem d_E_orders_91 : decode b_E_orders 91 = .ok (.invokevirtual 200, 3) := by decide +kernel
theorem d_E_orders_94 : decode b_E_orders 94 = .ok (.aload_n 0, 1) := by decide +kernel
theorem d_E_orders_95 : decode b_E_orders 95 = .ok (.getfield 29, 3) := by decide +kernel
theorem d_E_orders_98 : decode b_E_orders 98 = .ok (.aload_n 0, 1) := by decide +kernel
theorem d_E_orders_99 : decode b_E_orders 99 = .ok (.getfield 33, 3) := by decide +kernel
theorem d_E_orders_102 : decode b_E_orders 102 = .ok (.invokevirtual 204, 3) := by decide +kernel
theorem d_E_orders_105 : decode b_E_orders 105 = .ok (.aload_n 0, 1) := by decide +kernel
theorem d_E_orders_106 : decode b_E_orders 106 = .ok (.bipush (-3), 2) := by decide +kernel
theorem d_E_orders_108 : decode b_E_orders 108 = .ok (.invokevirtual 109, 3) := by decide +kernel
theorem d_E_orders_111 : decode b_E_orders 111 = .ok (.ireturn, 1) := by decide +kernel
theorem d_E_orders_112 : decode b_E_orders 112 = .ok (.aload_n 0, 1) := by decide +kernel
theorem d_E_orders_113 : decode b_E_orders 113 = .ok (.iload_n 1, 1) := by decide +kernel
theorem d_E_orders_114 : decode b_E_orders 114 = .ok (.invokevirtual 123, 3) := by decide +kernel
theorem d_E_orders_117 : decode b_E_orders 117 = .ok (.ireturn, 1) := by decide +kernel
theorem mf_E_orders : zMF y_E_orders b_E_orders 2 (some .int) 0 := ⟨zGW_in 876 (by decide +kernel) (by decide +kernel), zGW_in 124 (by decide +kernel) (by decide +kernel), by decide +kernel⟩
theorem in_E_orders : Cond.instanceMethod y_E_orders ∈ zGW := zGW_in 874 (by decide +kernel) (by decide +kernel)
theorem se_E_orders : Cond.selects y_E_orders.cls y_E_orders y_E_orders ∈ zGW := zGW_in 875 (by decide +kernel) (by decide +kernel)
def y_E_fault : MethodName := ⟨zNm 0, "fault", "()I"⟩
abbrev b_E_fault : ByteArray := prog_1_method_13_code
theorem d_E_fault_0 : decode b_E_fault 0 = .ok (.aload_n 0, 1) := by decide +kernel
theorem d_E_fault_1 : decode b_E_fault 1 = .ok (.getfield 100, 3) := by decide +kernel
theorem d_E_fault_4 : decode b_E_fault 4 = .ok (.ireturn, 1) := by decide +kernel
theorem mf_E_fault : zMF y_E_fault b_E_fault 1 (some .int) 0 := ⟨zGW_in 967 (by decide +kernel) (by decide +kernel), zGW_in 124 (by decide +kernel) (by decide +kernel), by decide +kernel⟩
theorem in_E_fault : Cond.instanceMethod y_E_fault ∈ zGW := zGW_in 965 (by decide +kernel) (by decide +kernel)
theorem se_E_fault : Cond.selects y_E_fault.cls y_E_fault y_E_fault ∈ zGW := zGW_in 966 (by decide +kernel) (by decide +kernel)
def y_E_stopped : MethodName := ⟨zNm 0, "stopped", "()I"⟩
abbrev b_E_stopped : ByteArray := prog_1_method_14_code
theorem d_E_stopped_0 : decode b_E_stopped 0 = .ok (.aload_n 0, 1) := by decide +kernel
theorem d_E_stopped_1 : decode b_E_stopped 1 = .ok (.getfield 103, 3) := by decide +kernel
theorem d_E_stopped_4 : decode b_E_stopped 4 = .ok (.ireturn, 1) := by decide +kernel
theorem mf_E_stopped : zMF y_E_stopped b_E_stopped 1 (some .int) 0 := ⟨zGW_in 971 (by decide +kernel) (by decide +kernel), zGW_in 124 (by decide +kernel) (by decide +kernel), by decide +kernel⟩
theorem in_E_stopped : Cond.instanceMethod y_E_stopped ∈ zGW := zGW_in 969 (by decide +kernel) (by decide +kernel)
theorem se_E_stopped : Cond.selects y_E_stopped.cls y_E_stopped y_E_stopped ∈ zGW := zGW_in 970 (by decide +kernel) (by decide +kernel)
def y_Ps_hasLaw : MethodName := ⟨zNm 5, "hasLaw", "(I)Z"⟩
abbrev b_Ps_hasLaw : ByteArray := prog_6_method_17_code
theorem d_Ps_hasLaw_0 : decode b_Ps_hasLaw 0 = .ok (.iload_n 1, 1) := by decide +kernel
theorem d_Ps_hasLaw_1 : decode b_Ps_hasLaw 1 = .ok (.ifCond .lt 15, 3) := by decide +kernel
theorem d_Ps_hasLaw_4 : decode b_Ps_hasLaw 4 = .ok (.iload_n 1, 1) := by decide +kernel
theorem d_Ps_hasLaw_5 : decode b_Ps_hasLaw 5 = .ok (.aload_n 0, 1) := by decide +kernel
theorem d_Ps_hasLaw_6 : decode b_Ps_hasLaw 6 = .ok (.getfield 50, 3) := by decide +kernel
theorem d_Ps_hasLaw_9 : decode b_Ps_hasLaw 9 = .ok (.if_icmp .ge 7, 3) := by decide +kernel
theorem d_Ps_hasLaw_12 : decode b_Ps_hasLaw 12 = .ok (.iconst 1, 1) := by decide +kernel
theorem d_Ps_hasLaw_13 : decode b_Ps_hasLaw 13 = .ok (.goto 4, 3) := by decide +kernel
theorem d_Ps_hasLaw_16 : decode b_Ps_hasLaw 16 = .ok (.iconst 0, 1) := by decide +kernel
theorem d_Ps_hasLaw_17 : decode b_Ps_hasLaw 17 = .ok (.ireturn, 1) := by decide +kernel
theorem mf_Ps_hasLaw : zMF y_Ps_hasLaw b_Ps_hasLaw 2 (some .boolean) 1 := ⟨zGW_in 979 (by decide +kernel) (by decide +kernel), zGW_in 125 (by decide +kernel) (by decide +kernel), by decide +kernel⟩
theorem in_Ps_hasLaw : Cond.instanceMethod y_Ps_hasLaw ∈ zGW := zGW_in 977 (by decide +kernel) (by decide +kernel)
theorem se_Ps_hasLaw : Cond.selects y_Ps_hasLaw.cls y_Ps_hasLaw y_Ps_hasLaw ∈ zGW := zGW_in 978 (by decide +kernel) (by decide +kernel)
def y_E_force : MethodName := ⟨zNm 0, "force", "(I)I"⟩
abbrev b_E_force : ByteArray := prog_1_method_15_code
theorem d_E_force_0 : decode b_E_force 0 = .ok (.iload_n 1, 1) := by decide +kernel
theorem d_E_force_1 : decode b_E_force 1 = .ok (.iconst (-1), 1) := by decide +kernel
theorem d_E_force_2 : decode b_E_force 2 = .ok (.if_icmp .eq 21, 3) := by decide +kernel
theorem d_E_force_5 : decode b_E_force 5 = .ok (.aload_n 0, 1) := by decide +kernel
theorem d_E_force_6 : decode b_E_force 6 = .ok (.getfield 12, 3) := by decide +kernel
theorem d_E_force_9 : decode b_E_force 9 = .ok (.iload_n 1, 1) := by decide +kernel
theorem d_E_force_10 : decode b_E_force 10 = .ok (.invokevirtual 210, 3) := by decide +kernel
theorem d_E_force_13 : decode b_E_force 13 = .ok (.ifCond .ne 10, 3) := by decide +kernel
theorem d_E_force_16 : decode b_E_force 16 = .ok (.aload_n 0, 1) := by decide +kernel
theorem d_E_force_17 : decode b_E_force 17 = .ok (.bipush (-2), 2) := by decide +kernel
theorem d_E_force_19 : decode b_E_force 19 = .ok (.invokevirtual 109, 3) := by decide +kernel
theorem d_E_force_22 : decode b_E_force 22 = .ok (.ireturn, 1) := by decide +kernel
theorem d_E_force_23 : decode b_E_force 23 = .ok (.aload_n 0, 1) := by decide +kernel
theorem d_E_force_24 : decode b_E_force 24 = .ok (.getfield 12, 3) := by decide +kernel
theorem d_E_force_27 : decode b_E_force 27 = .ok (.getfield 213, 3) := by decide +kernel
theorem d_E_force_30 : decode b_E_force 30 = .ok (.istore_n 2, 1) := by decide +kernel
theorem d_E_force_31 : decode b_E_force 31 = .ok (.aload_n 0, 1) := by decide +kernel
theorem d_E_force_32 : decode b_E_force 32 = .ok (.getfield 12, 3) := by decide +kernel
theorem d_E_force_35 : decode b_E_force 35 = .ok (.iload_n 1, 1) := by decide +kernel
theorem d_E_force_36 : decode b_E_force 36 = .ok (.putfield 213, 3) := by decide +kernel
theorem d_E_force_39 : decode b_E_force 39 = .ok (.aload_n 0, 1) := by decide +kernel
theorem d_E_force_40 : decode b_E_force 40 = .ok (.iload_n 2, 1) := by decide +kernel
theorem d_E_force_41 : decode b_E_force 41 = .ok (.invokevirtual 123, 3) := by decide +kernel
theorem d_E_force_44 : decode b_E_force 44 = .ok (.ireturn, 1) := by decide +kernel
theorem mf_E_force : zMF y_E_force b_E_force 3 (some .int) 1 := ⟨zGW_in 975 (by decide +kernel) (by decide +kernel), zGW_in 124 (by decide +kernel) (by decide +kernel), by decide +kernel⟩
theorem in_E_force : Cond.instanceMethod y_E_force ∈ zGW := zGW_in 973 (by decide +kernel) (by decide +kernel)
theorem se_E_force : Cond.selects y_E_force.cls y_E_force y_E_force ∈ zGW := zGW_in 974 (by decide +kernel) (by decide +kernel)
def y_E_answered : MethodName := ⟨zNm 0, "answered", "(I)I"⟩
abbrev b_E_answered : ByteArray := prog_1_method_44_code
theorem d_E_answered_0 : decode b_E_answered 0 = .ok (.iload_n 1, 1) := by decide +kernel
theorem d_E_answered_1 : decode b_E_answered 1 = .ok (.ifCond .ge 11, 3) := by decide +kernel
theorem d_E_answered_4 : decode b_E_answered 4 = .ok (.aload_n 0, 1) := by decide +kernel
theorem d_E_answered_5 : decode b_E_answered 5 = .ok (.iload_n 1, 1) := by decide +kernel
theorem d_E_answered_6 : decode b_E_answered 6 = .ok (.invokevirtual 109, 3) := by decide +kernel
theorem d_E_answered_9 : decode b_E_answered 9 = .ok (.goto 8, 3) := by decide +kernel
theorem d_E_answered_12 : decode b_E_answered 12 = .ok (.aload_n 0, 1) := by decide +kernel
theorem d_E_answered_13 : decode b_E_answered 13 = .ok (.iload_n 1, 1) := by decide +kernel
theorem d_E_answered_14 : decode b_E_answered 14 = .ok (.invokevirtual 123, 3) := by decide +kernel
theorem d_E_answered_17 : decode b_E_answered 17 = .ok (.ireturn, 1) := by decide +kernel
theorem mf_E_answered : zMF y_E_answered b_E_answered 2 (some .int) 1 := ⟨zGW_in 987 (by decide +kernel) (by decide +kernel), zGW_in 124 (by decide +kernel) (by decide +kernel), by decide +kernel⟩
theorem in_E_answered : Cond.instanceMethod y_E_answered ∈ zGW := zGW_in 986 (by decide +kernel) (by decide +kernel)
theorem se_E_answered : Cond.selects y_E_answered.cls y_E_answered y_E_answered ∈ zGW := zGW_in 25 (by decide +kernel) (by decide +kernel)
def y_E_swim : MethodName := ⟨zNm 0, "swim", "(I)I"⟩
abbrev b_E_swim : ByteArray := prog_1_method_16_code
theorem d_E_swim_0 : decode b_E_swim 0 = .ok (.aload_n 0, 1) := by decide +kernel
theorem d_E_swim_1 : decode b_E_swim 1 = .ok (.aload_n 0, 1) := by decide +kernel
theorem d_E_swim_2 : decode b_E_swim 2 = .ok (.iconst 0, 1) := by decide +kernel
theorem d_E_swim_3 : decode b_E_swim 3 = .ok (.iload_n 1, 1) := by decide +kernel
theorem d_E_swim_4 : decode b_E_swim 4 = .ok (.iconst 0, 1) := by decide +kernel
theorem d_E_swim_5 : decode b_E_swim 5 = .ok (.invokevirtual 216, 3) := by decide +kernel
theorem d_E_swim_8 : decode b_E_swim 8 = .ok (.invokevirtual 219, 3) := by decide +kernel
theorem d_E_swim_11 : decode b_E_swim 11 = .ok (.ireturn, 1) := by decide +kernel
theorem mf_E_swim : zMF y_E_swim b_E_swim 2 (some .int) 1 := ⟨zGW_in 983 (by decide +kernel) (by decide +kernel), zGW_in 124 (by decide +kernel) (by decide +kernel), by decide +kernel⟩
theorem in_E_swim : Cond.instanceMethod y_E_swim ∈ zGW := zGW_in 981 (by decide +kernel) (by decide +kernel)
theorem se_E_swim : Cond.selects y_E_swim.cls y_E_swim y_E_swim ∈ zGW := zGW_in 982 (by decide +kernel) (by decide +kernel)
def y_E_gate : MethodName := ⟨zNm 0, "gate", "(II)I"⟩
abbrev b_E_gate : ByteArray := prog_1_method_17_code
theorem d_E_gate_0 : decode b_E_gate 0 = .ok (.aload_n 0, 1) := by decide +kernel
theorem d_E_gate_1 : decode b_E_gate 1 = .ok (.aload_n 0, 1) := by decide +kernel
theorem d_E_gate_2 : decode b_E_gate 2 = .ok (.iconst 1, 1) := by decide +kernel
theorem d_E_gate_3 : decode b_E_gate 3 = .ok (.iload_n 1, 1) := by decide +kernel
theorem d_E_gate_4 : decode b_E_gate 4 = .ok (.iload_n 2, 1) := by decide +kernel
theorem d_E_gate_5 : decode b_E_gate 5 = .ok (.invokevirtual 216, 3) := by decide +kernel
theorem d_E_gate_8 : decode b_E_gate 8 = .ok (.invokevirtual 219, 3) := by decide +kernel
theorem d_E_gate_11 : decode b_E_gate 11 = .ok (.ireturn, 1) := by decide +kernel
theorem mf_E_gate : zMF y_E_gate b_E_gate 3 (some .int) 2 := ⟨zGW_in 991 (by decide +kernel) (by decide +kernel), zGW_in 124 (by decide +kernel) (by decide +kernel), by decide +kernel⟩
theorem in_E_gate : Cond.instanceMethod y_E_gate ∈ zGW := zGW_in 989 (by decide +kernel) (by decide +kernel)
theorem se_E_gate : Cond.selects y_E_gate.cls y_E_gate y_E_gate ∈ zGW := zGW_in 990 (by decide +kernel) (by decide +kernel)
def y_E_stir : MethodName := ⟨zNm 0, "stir", "(II)I"⟩
abbrev b_E_stir : ByteArray := prog_1_method_18_code
theorem d_E_stir_0 : decode b_E_stir 0 = .ok (.aload_n 0, 1) := by decide +kernel
theorem d_E_stir_1 : decode b_E_stir 1 = .ok (.aload_n 0, 1) := by decide +kernel
theorem d_E_stir_2 : decode b_E_stir 2 = .ok (.iconst 2, 1) := by decide +kernel
theorem d_E_stir_3 : decode b_E_stir 3 = .ok (.iload_n 1, 1) := by decide +kernel
theorem d_E_stir_4 : decode b_E_stir 4 = .ok (.iload_n 2, 1) := by decide +kernel
theorem d_E_stir_5 : decode b_E_stir 5 = .ok (.invokevirtual 216, 3) := by decide +kernel
theorem d_E_stir_8 : decode b_E_stir 8 = .ok (.invokevirtual 219, 3) := by decide +kernel
theorem d_E_stir_11 : decode b_E_stir 11 = .ok (.ireturn, 1) := by decide +kernel
theorem mf_E_stir : zMF y_E_stir b_E_stir 3 (some .int) 2 := ⟨zGW_in 995 (by decide +kernel) (by decide +kernel), zGW_in 124 (by decide +kernel) (by decide +kernel), by decide +kernel⟩
theorem in_E_stir : Cond.instanceMethod y_E_stir ∈ zGW := zGW_in 993 (by decide +kernel) (by decide +kernel)
theorem se_E_stir : Cond.selects y_E_stir.cls y_E_stir y_E_stir ∈ zGW := zGW_in 994 (by decide +kernel) (by decide +kernel)
def y_E_pass : MethodName := ⟨zNm 0, "pass", "()I"⟩
abbrev b_E_pass : ByteArray := prog_1_method_19_code
theorem d_E_pass_0 : decode b_E_pass 0 = .ok (.aload_n 0, 1) := by decide +kernel
theorem d_E_pass_1 : decode b_E_pass 1 = .ok (.aload_n 0, 1) := by decide +kernel
theorem d_E_pass_2 : decode b_E_pass 2 = .ok (.iconst 3, 1) := by decide +kernel
theorem d_E_pass_3 : decode b_E_pass 3 = .ok (.iconst 0, 1) := by decide +kernel
theorem d_E_pass_4 : decode b_E_pass 4 = .ok (.iconst 0, 1) := by decide +kernel
theorem d_E_pass_5 : decode b_E_pass 5 = .ok (.invokevirtual 216, 3) := by decide +kernel
theorem d_E_pass_8 : decode b_E_pass 8 = .ok (.invokevirtual 219, 3) := by decide +kernel
theorem d_E_pass_11 : decode b_E_pass 11 = .ok (.ireturn, 1) := by decide +kernel
theorem mf_E_pass : zMF y_E_pass b_E_pass 1 (some .int) 0 := ⟨zGW_in 999 (by decide +kernel) (by decide +kernel), zGW_in 124 (by decide +kernel) (by decide +kernel), by decide +kernel⟩
theorem in_E_pass : Cond.instanceMethod y_E_pass ∈ zGW := zGW_in 997 (by decide +kernel) (by decide +kernel)
theorem se_E_pass : Cond.selects y_E_pass.cls y_E_pass y_E_pass ∈ zGW := zGW_in 998 (by decide +kernel) (by decide +kernel)
def y_Jo_takeBack : MethodName := ⟨zNm 2, "takeBack", "(LEelClerk$Parish;)I"⟩
abbrev b_Jo_takeBack : ByteArray := prog_3_method_5_code
theorem d_Jo_takeBack_0 : decode b_Jo_takeBack 0 = .ok (.aload_n 0, 1) := by decide +kernel
theorem d_Jo_takeBack_1 : decode b_Jo_takeBack 1 = .ok (.getfield 11, 3) := by decide +kernel
theorem d_Jo_takeBack_4 : decode b_Jo_takeBack 4 = .ok (.ifCond .gt 6, 3) := by decide +kernel
theorem d_Jo_takeBack_7 : decode b_Jo_takeBack 7 = .ok (.bipush (-3), 2) := by decide +kernel
theorem d_Jo_takeBack_9 : decode b_Jo_takeBack 9 = .ok (.ireturn, 1) := by decide +kernel
theorem d_Jo_takeBack_10 : decode b_Jo_takeBack 10 = .ok (.aload_n 0, 1) := by decide +kernel
theorem d_Jo_takeBack_11 : decode b_Jo_takeBack 11 = .ok (.getfield 15, 3) := by decide +kernel
theorem d_Jo_takeBack_14 : decode b_Jo_takeBack 14 = .ok (.bipush 15, 2) := by decide +kernel
theorem d_Jo_takeBack_16 : decode b_Jo_takeBack 16 = .ok (.iadd, 1) := by decide +kernel
theorem d_Jo_takeBack_17 : decode b_Jo_takeBack 17 = .ok (.bipush 15, 2) := by decide +kernel
theorem d_Jo_takeBack_19 : decode b_Jo_takeBack 19 = .ok (.iand, 1) := by decide +kernel
theorem d_Jo_takeBack_20 : decode b_Jo_takeBack 20 = .ok (.istore_n 2, 1) := by decide +kernel
theorem d_Jo_takeBack_21 : decode b_Jo_takeBack 21 = .ok (.aload_n 0, 1) := by decide +kernel
theorem d_Jo_takeBack_22 : decode b_Jo_takeBack 22 = .ok (.dup, 1) := by decide +kernel
theorem d_Jo_takeBack_23 : decode b_Jo_takeBack 23 = .ok (.getfield 11, 3) := by decide +kernel
theorem d_Jo_takeBack_26 : decode b_Jo_takeBack 26 = .ok (.iconst 1, 1) := by decide +kernel
theorem d_Jo_takeBack_27 : decode b_Jo_takeBack 27 = .ok (.isub, 1) := by decide +kernel
theorem d_Jo_takeBack_28 : decode b_Jo_takeBack 28 = .ok (.putfield 11, 3) := by decide +kernel
theorem d_Jo_takeBack_31 : decode b_Jo_takeBack 31 = .ok (.aload_n 0, 1) := by decide +kernel
theorem d_Jo_takeBack_32 : decode b_Jo_takeBack 32 = .ok (.iload_n 2, 1) := by decide +kernel
theorem d_Jo_takeBack_33 : decode b_Jo_takeBack 33 = .ok (.putfield 15, 3) := by decide +kernel
theorem d_Jo_takeBack_36 : decode b_Jo_takeBack 36 = .ok (.aload_n 1, 1) := by decide +kernel
theorem d_Jo_takeBack_37 : decode b_Jo_takeBack 37 = .ok (.aload_n 0, 1) := by decide +kernel
theorem d_Jo_takeBack_38 : decode b_Jo_takeBack 38 = .ok (.getfield 22, 3) := by decide +kernel
theorem d_Jo_takeBack_41 : decode b_Jo_takeBack 41 = .ok (.iload_n 2, 1) := by decide +kernel
theorem d_Jo_takeBack_42 : decode b_Jo_takeBack 42 = .ok (.iaload, 1) := by decide +kernel
theorem d_Jo_takeBack_43 : decode b_Jo_takeBack 43 = .ok (.putfield 41, 3) := by decide +kernel
theorem d_Jo_takeBack_46 : decode b_Jo_takeBack 46 = .ok (.aload_n 1, 1) := by decide +kernel
theorem d_Jo_takeBack_47 : decode b_Jo_takeBack 47 = .ok (.aload_n 0, 1) := by decide +kernel
theorem d_Jo_takeBack_48 : decode b_Jo_takeBack 48 = .ok (.getfield 25, 3) := by decide +kernel
theorem d_Jo_takeBack_51 : decode b_Jo_takeBack 51 = .ok (.iload_n 2, 1) := by decide +kernel
theorem d_Jo_takeBack_52 : decode b_Jo_takeBack 52 = .ok (.iaload, 1) := by decide +kernel
theorem d_Jo_takeBack_53 : decode b_Jo_takeBack 53 = .ok (.putfield 46, 3) := by decide +kernel
theorem d_Jo_takeBack_56 : decode b_Jo_takeBack 56 = .ok (.aload_n 1, 1) := by decide +kernel
theorem d_Jo_takeBack_57 : decode b_Jo_takeBack 57 = .ok (.aload_n 0, 1) := by decide +kernel
theorem d_Jo_takeBack_58 : decode b_Jo_takeBack 58 = .ok (.getfield 28, 3) := by decide +kernel
theorem d_Jo_takeBack_61 : decode b_Jo_takeBack 61 = .ok (.iload_n 2, 1) := by decide +kernel
theorem d_Jo_takeBack_62 : decode b_Jo_takeBack 62 = .ok (.laload, 1) := by decide +kernel
theorem d_Jo_takeBack_63 : decode b_Jo_takeBack 63 = .ok (.putfield 49, 3) := by decide +kernel
theorem d_Jo_takeBack_66 : decode b_Jo_takeBack 66 = .ok (.aload_n 1, 1) := by decide +kernel
theorem d_Jo_takeBack_67 : decode b_Jo_takeBack 67 = .ok (.aload_n 0, 1) := by decide +kernel
theorem d_Jo_takeBack_68 : decode b_Jo_takeBack 68 = .ok (.getfield 32, 3) := by decide +kernel
theorem d_Jo_takeBack_71 : decode b_Jo_takeBack 71 = .ok (.iload_n 2, 1) := by decide +kernel
theorem d_Jo_takeBack_72 : decode b_Jo_takeBack 72 = .ok (.laload, 1) := by decide +kernel
theorem d_Jo_takeBack_73 : decode b_Jo_takeBack 73 = .ok (.putfield 53, 3) := by decide +kernel
theorem d_Jo_takeBack_76 : decode b_Jo_takeBack 76 = .ok (.aload_n 0, 1) := by decide +kernel
theorem d_Jo_takeBack_77 : decode b_Jo_takeBack 77 = .ok (.getfield 18, 3) := by decide +kernel
theorem d_Jo_takeBack_80 : decode b_Jo_takeBack 80 = .ok (.iload_n 2, 1) := by decide +kernel
theorem d_Jo_takeBack_81 : decode b_Jo_takeBack 81 = .ok (.iaload, 1) := by decide +kernel
theorem d_Jo_takeBack_82 : decode b_Jo_takeBack 82 = .ok (.ireturn, 1) := by decide +kernel
theorem mf_Jo_takeBack : zMF y_Jo_takeBack b_Jo_takeBack 3 (some .int) 1 := ⟨zGW_in 1007 (by decide +kernel) (by decide +kernel), zGW_in 126 (by decide +kernel) (by decide +kernel), by decide +kernel⟩
theorem in_Jo_takeBack : Cond.instanceMethod y_Jo_takeBack ∈ zGW := zGW_in 1005 (by decide +kernel) (by decide +kernel)
theorem se_Jo_takeBack : Cond.selects y_Jo_takeBack.cls y_Jo_takeBack y_Jo_takeBack ∈ zGW := zGW_in 1006 (by decide +kernel) (by decide +kernel)
def y_E_undo : MethodName := ⟨zNm 0, "undo", "()I"⟩
abbrev b_E_undo : ByteArray := prog_1_method_20_code
theorem d_E_undo_0 : decode b_E_undo 0 = .ok (.aload_n 0, 1) := by decide +kernel
theorem d_E_undo_1 : decode b_E_undo 1 = .ok (.aload_n 0, 1) := by decide +kernel
theorem d_E_undo_2 : decode b_E_undo 2 = .ok (.getfield 29, 3) := by decide +kernel
theorem d_E_undo_5 : decode b_E_undo 5 = .ok (.aload_n 0, 1) := by decide +kernel
theorem d_E_undo_6 : decode b_E_undo 6 = .ok (.getfield 12, 3) := by decide +kernel
theorem d_E_undo_9 : decode b_E_undo 9 = .ok (.invokevirtual 222, 3) := by decide +kernel
theorem d_E_undo_12 : decode b_E_undo 12 = .ok (.invokevirtual 219, 3) := by decide +kernel
theorem d_E_undo_15 : decode b_E_undo 15 = .ok (.ireturn, 1) := by decide +kernel
theorem mf_E_undo : zMF y_E_undo b_E_undo 1 (some .int) 0 := ⟨zGW_in 1003 (by decide +kernel) (by decide +kernel), zGW_in 124 (by decide +kernel) (by decide +kernel), by decide +kernel⟩
theorem in_E_undo : Cond.instanceMethod y_E_undo ∈ zGW := zGW_in 1001 (by decide +kernel) (by decide +kernel)
theorem se_E_undo : Cond.selects y_E_undo.cls y_E_undo y_E_undo ∈ zGW := zGW_in 1002 (by decide +kernel) (by decide +kernel)
def y_E_fillPaper : MethodName := ⟨zNm 0, "fillPaper", "()V"⟩
abbrev b_E_fillPaper : ByteArray := prog_1_method_52_code
theorem d_E_fillPaper_0 : decode b_E_fillPaper 0 = .ok (.aload_n 0, 1) := by decide +kernel
theorem d_E_fillPaper_1 : decode b_E_fillPaper 1 = .ok (.getfield 60, 3) := by decide +kernel
theorem d_E_fillPaper_4 : decode b_E_fillPaper 4 = .ok (.aload_n 0, 1) := by decide +kernel
theorem d_E_fillPaper_5 : decode b_E_fillPaper 5 = .ok (.getfield 12, 3) := by decide +kernel
theorem d_E_fillPaper_8 : decode b_E_fillPaper 8 = .ok (.aload_n 0, 1) := by decide +kernel
theorem d_E_fillPaper_9 : decode b_E_fillPaper 9 = .ok (.getfield 12, 3) := by decide +kernel
theorem d_E_fillPaper_12 : decode b_E_fillPaper 12 = .ok (.invokevirtual 140, 3) := by decide +kernel
theorem d_E_fillPaper_15 : decode b_E_fillPaper 15 = .ok (.aload_n 0, 1) := by decide +kernel
theorem d_E_fillPaper_16 : decode b_E_fillPaper 16 = .ok (.getfield 53, 3) := by decide +kernel
theorem d_E_fillPaper_19 : decode b_E_fillPaper 19 = .ok (.invokevirtual 322, 3) := by decide +kernel
theorem d_E_fillPaper_22 : decode b_E_fillPaper 22 = .ok (.return_, 1) := by decide +kernel
theorem mf_E_fillPaper : zMF y_E_fillPaper b_E_fillPaper 1 none 0 := ⟨zGW_in 1015 (by decide +kernel) (by decide +kernel), zGW_in 124 (by decide +kernel) (by decide +kernel), by decide +kernel⟩
theorem in_E_fillPaper : Cond.instanceMethod y_E_fillPaper ∈ zGW := zGW_in 1014 (by decide +kernel) (by decide +kernel)
theorem se_E_fillPaper : Cond.selects y_E_fillPaper.cls y_E_fillPaper y_E_fillPaper ∈ zGW := zGW_in 26 (by decide +kernel) (by decide +kernel)
def y_E_soon : MethodName := ⟨zNm 0, "soon", "(II)I"⟩
abbrev b_E_soon : ByteArray := prog_1_method_21_code
theorem d_E_soon_0 : decode b_E_soon 0 = .ok (.aload_n 0, 1) := by decide +kernel
theorem d_E_soon_1 : decode b_E_soon 1 = .ok (.invokevirtual 226, 3) := by decide +kernel
theorem d_E_soon_4 : decode b_E_soon 4 = .ok (.aload_n 0, 1) := by decide +kernel
theorem d_E_soon_5 : decode b_E_soon 5 = .ok (.getfield 60, 3) := by decide +kernel
theorem d_E_soon_8 : decode b_E_soon 8 = .ok (.iload_n 1, 1) := by decide +kernel
theorem d_E_soon_9 : decode b_E_soon 9 = .ok (.iload_n 2, 1) := by decide +kernel
theorem d_E_soon_10 : decode b_E_soon 10 = .ok (.invokevirtual 229, 3) := by decide +kernel
theorem d_E_soon_13 : decode b_E_soon 13 = .ok (.ireturn, 1) := by decide +kernel
theorem mf_E_soon : zMF y_E_soon b_E_soon 3 (some .int) 2 := ⟨zGW_in 1011 (by decide +kernel) (by decide +kernel), zGW_in 124 (by decide +kernel) (by decide +kernel), by decide +kernel⟩
theorem in_E_soon : Cond.instanceMethod y_E_soon ∈ zGW := zGW_in 1009 (by decide +kernel) (by decide +kernel)
theorem se_E_soon : Cond.selects y_E_soon.cls y_E_soon y_E_soon ∈ zGW := zGW_in 1010 (by decide +kernel) (by decide +kernel)
def y_Pa_nextOnWay : MethodName := ⟨zNm 4, "nextOnWay", "(II)I"⟩
abbrev b_Pa_nextOnWay : ByteArray := prog_5_method_11_code
theorem d_Pa_nextOnWay_0 : decode b_Pa_nextOnWay 0 = .ok (.aload_n 0, 1) := by decide +kernel
theorem d_Pa_nextOnWay_1 : decode b_Pa_nextOnWay 1 = .ok (.iload_n 1, 1) := by decide +kernel
theorem d_Pa_nextOnWay_2 : decode b_Pa_nextOnWay 2 = .ok (.invokevirtual 61, 3) := by decide +kernel
theorem d_Pa_nextOnWay_5 : decode b_Pa_nextOnWay 5 = .ok (.ifCond .eq 16, 3) := by decide +kernel
theorem d_Pa_nextOnWay_8 : decode b_Pa_nextOnWay 8 = .ok (.aload_n 0, 1) := by decide +kernel
theorem d_Pa_nextOnWay_9 : decode b_Pa_nextOnWay 9 = .ok (.iload_n 2, 1) := by decide +kernel
theorem d_Pa_nextOnWay_10 : decode b_Pa_nextOnWay 10 = .ok (.invokevirtual 61, 3) := by decide +kernel
theorem d_Pa_nextOnWay_13 : decode b_Pa_nextOnWay 13 = .ok (.ifCond .eq 8, 3) := by decide +kernel
theorem d_Pa_nextOnWay_16 : decode b_Pa_nextOnWay 16 = .ok (.iload_n 1, 1) := by decide +kernel
theorem d_Pa_nextOnWay_17 : decode b_Pa_nextOnWay 17 = .ok (.iload_n 2, 1) := by decide +kernel
theorem d_Pa_nextOnWay_18 : decode b_Pa_nextOnWay 18 = .ok (.if_icmp .ne 5, 3) := by decide +kernel
theorem d_Pa_nextOnWay_21 : decode b_Pa_nextOnWay 21 = .ok (.iconst (-1), 1) := by decide +kernel
theorem d_Pa_nextOnWay_22 : decode b_Pa_nextOnWay 22 = .ok (.ireturn, 1) := by decide +kernel
theorem d_Pa_nextOnWay_23 : decode b_Pa_nextOnWay 23 = .ok (.iconst 0, 1) := by decide +kernel
theorem d_Pa_nextOnWay_24 : decode b_Pa_nextOnWay 24 = .ok (.istore_n 3, 1) := by decide +kernel
theorem d_Pa_nextOnWay_25 : decode b_Pa_nextOnWay 25 = .ok (.iload_n 3, 1) := by decide +kernel
theorem d_Pa_nextOnWay_26 : decode b_Pa_nextOnWay 26 = .ok (.aload_n 0, 1) := by decide +kernel
theorem d_Pa_nextOnWay_27 : decode b_Pa_nextOnWay 27 = .ok (.getfield 9, 3) := by decide +kernel
theorem d_Pa_nextOnWay_30 : decode b_Pa_nextOnWay 30 = .ok (.if_icmp .ge 45, 3) := by decide +kernel
theorem d_Pa_nextOnWay_33 : decode b_Pa_nextOnWay 33 = .ok (.aload_n 0, 1) := by decide +kernel
theorem d_Pa_nextOnWay_34 : decode b_Pa_nextOnWay 34 = .ok (.getfield 19, 3) := by decide +kernel
theorem d_Pa_nextOnWay_37 : decode b_Pa_nextOnWay 37 = .ok (.iload_n 1, 1) := by decide +kernel
theorem d_Pa_nextOnWay_38 : decode b_Pa_nextOnWay 38 = .ok (.iload_n 3, 1) := by decide +kernel
theorem d_Pa_nextOnWay_39 : decode b_Pa_nextOnWay 39 = .ok (.invokestatic 50, 3) := by decide +kernel
theorem d_Pa_nextOnWay_42 : decode b_Pa_nextOnWay 42 = .ok (.iaload, 1) := by decide +kernel
theorem d_Pa_nextOnWay_43 : decode b_Pa_nextOnWay 43 = .ok (.aload_n 0, 1) := by decide +kernel
theorem d_Pa_nextOnWay_44 : decode b_Pa_nextOnWay 44 = .ok (.getfield 22, 3) := by decide +kernel
theorem d_Pa_nextOnWay_47 : decode b_Pa_nextOnWay 47 = .ok (.iload_n 3, 1) := by decide +kernel
theorem d_Pa_nextOnWay_48 : decode b_Pa_nextOnWay 48 = .ok (.iload_n 2, 1) := by decide +kernel
theorem d_Pa_nextOnWay_49 : decode b_Pa_nextOnWay 49 = .ok (.invokestatic 50, 3) := by decide +kernel
theorem d_Pa_nextOnWay_52 : decode b_Pa_nextOnWay 52 = .ok (.iaload, 1) := by decide +kernel
theorem d_Pa_nextOnWay_53 : decode b_Pa_nextOnWay 53 = .ok (.iadd, 1) := by decide +kernel
theorem d_Pa_nextOnWay_54 : decode b_Pa_nextOnWay 54 = .ok (.aload_n 0, 1) := by decide +kernel
theorem d_Pa_nextOnWay_55 : decode b_Pa_nextOnWay 55 = .ok (.getfield 22, 3) := by decide +kernel
theorem d_Pa_nextOnWay_58 : decode b_Pa_nextOnWay 58 = .ok (.iload_n 1, 1) := by decide +kernel
theorem d_Pa_nextOnWay_59 : decode b_Pa_nextOnWay 59 = .ok (.iload_n 2, 1) := by decide +kernel
theorem d_Pa_nextOnWay_60 : decode b_Pa_nextOnWay 60 = .ok (.invokestatic 50, 3) := by decide +kernel
theorem d_Pa_nextOnWay_63 : decode b_Pa_nextOnWay 63 = .ok (.iaload, 1) := by decide +kernel
theorem d_Pa_nextOnWay_64 : decode b_Pa_nextOnWay 64 = .ok (.if_icmp .ne 5, 3) := by decide +kernel
theorem d_Pa_nextOnWay_67 : decode b_Pa_nextOnWay 67 = .ok (.iload_n 3, 1) := by decide +kernel
theorem d_Pa_nextOnWay_68 : decode b_Pa_nextOnWay 68 = .ok (.ireturn, 1) := by decide +kernel
theorem d_Pa_nextOnWay_69 : decode b_Pa_nextOnWay 69 = .ok (.iinc 3 1, 3) := by decide +kernel
theorem d_Pa_nextOnWay_72 : decode b_Pa_nextOnWay 72 = .ok (.goto (-47), 3) := by decide +kernel
theorem d_Pa_nextOnWay_75 : decode b_Pa_nextOnWay 75 = .ok (.iconst (-1), 1) := by decide +kernel
theorem d_Pa_nextOnWay_76 : decode b_Pa_nextOnWay 76 = .ok (.ireturn, 1) := by decide +kernel
theorem mf_Pa_nextOnWay : zMF y_Pa_nextOnWay b_Pa_nextOnWay 4 (some .int) 2 := ⟨zGW_in 1028 (by decide +kernel) (by decide +kernel), zGW_in 131 (by decide +kernel) (by decide +kernel), by decide +kernel⟩
theorem in_Pa_nextOnWay : Cond.instanceMethod y_Pa_nextOnWay ∈ zGW := zGW_in 1027 (by decide +kernel) (by decide +kernel)
theorem se_Pa_nextOnWay : Cond.selects y_Pa_nextOnWay.cls y_Pa_nextOnWay y_Pa_nextOnWay ∈ zGW := zGW_in 27 (by decide +kernel) (by decide +kernel)
def y_Pa_onWay : MethodName := ⟨zNm 4, "onWay", "(III)I"⟩
abbrev b_Pa_onWay : ByteArray := prog_5_method_10_code
theorem d_Pa_onWay_0 : decode b_Pa_onWay 0 = .ok (.iload_n 3, 1) := by decide +kernel
theorem d_Pa_onWay_1 : decode b_Pa_onWay 1 = .ok (.ifCond .lt 19, 3) := by decide +kernel
theorem d_Pa_onWay_4 : decode b_Pa_onWay 4 = .ok (.iload_n 3, 1) := by decide +kernel
theorem d_Pa_onWay_5 : decode b_Pa_onWay 5 = .ok (.bipush 9, 2) := by decide +kernel
theorem d_Pa_onWay_7 : decode b_Pa_onWay 7 = .ok (.if_icmp .ge 13, 3) := by decide +kernel
theorem d_Pa_onWay_10 : decode b_Pa_onWay 10 = .ok (.aload_n 0, 1) := by decide +kernel
theorem d_Pa_onWay_11 : decode b_Pa_onWay 11 = .ok (.iload_n 1, 1) := by decide +kernel
theorem d_Pa_onWay_12 : decode b_Pa_onWay 12 = .ok (.iload_n 2, 1) := by decide +kernel
theorem d_Pa_onWay_13 : decode b_Pa_onWay 13 = .ok (.invokevirtual 64, 3) := by decide +kernel
theorem d_Pa_onWay_16 : decode b_Pa_onWay 16 = .ok (.iconst (-1), 1) := by decide +kernel
theorem d_Pa_onWay_17 : decode b_Pa_onWay 17 = .ok (.if_icmp .ne 5, 3) := by decide +kernel
theorem d_Pa_onWay_20 : decode b_Pa_onWay 20 = .ok (.iconst (-1), 1) := by decide +kernel
theorem d_Pa_onWay_21 : decode b_Pa_onWay 21 = .ok (.ireturn, 1) := by decide +kernel
theorem d_Pa_onWay_22 : decode b_Pa_onWay 22 = .ok (.iload_n 1, 1) := by decide +kernel
theorem d_Pa_onWay_23 : decode b_Pa_onWay 23 = .ok (.istore 4, 2) := by decide +kernel
theorem d_Pa_onWay_25 : decode b_Pa_onWay 25 = .ok (.iconst 0, 1) := by decide +kernel
theorem d_Pa_onWay_26 : decode b_Pa_onWay 26 = .ok (.istore 5, 2) := by decide +kernel
theorem d_Pa_onWay_28 : decode b_Pa_onWay 28 = .ok (.iload 5, 2) := by decide +kernel
theorem d_Pa_onWay_30 : decode b_Pa_onWay 30 = .ok (.iload_n 3, 1) := by decide +kernel
theorem d_Pa_onWay_31 : decode b_Pa_onWay 31 = .ok (.if_icmp .ge 18, 3) := by decide +kernel
theorem d_Pa_onWay_34 : decode b_Pa_onWay 34 = .ok (.aload_n 0, 1) := by decide +kernel
theorem d_Pa_onWay_35 : decode b_Pa_onWay 35 = .ok (.iload 4, 2) := by decide +kernel
theorem d_Pa_onWay_37 : decode b_Pa_onWay 37 = .ok (.iload_n 2, 1) := by decide +kernel
theorem d_Pa_onWay_38 : decode b_Pa_onWay 38 = .ok (.invokevirtual 67, 3) := by decide +kernel
theorem d_Pa_onWay_41 : decode b_Pa_onWay 41 = .ok (.istore 4, 2) := by decide +kernel
theorem d_Pa_onWay_43 : decode b_Pa_onWay 43 = .ok (.iinc 5 1, 3) := by decide +kernel
theorem d_Pa_onWay_46 : decode b_Pa_onWay 46 = .ok (.goto (-18), 3) := by decide +kernel
theorem d_Pa_onWay_49 : decode b_Pa_onWay 49 = .ok (.iload 4, 2) := by decide +kernel
theorem d_Pa_onWay_51 : decode b_Pa_onWay 51 = .ok (.ireturn, 1) := by decide +kernel
theorem mf_Pa_onWay : zMF y_Pa_onWay b_Pa_onWay 6 (some .int) 3 := ⟨zGW_in 1023 (by decide +kernel) (by decide +kernel), zGW_in 131 (by decide +kernel) (by decide +kernel), by decide +kernel⟩
theorem in_Pa_onWay : Cond.instanceMethod y_Pa_onWay ∈ zGW := zGW_in 1021 (by decide +kernel) (by decide +kernel)
theorem se_Pa_onWay : Cond.selects y_Pa_onWay.cls y_Pa_onWay y_Pa_onWay ∈ zGW := zGW_in 1022 (by decide +kernel) (by decide +kernel)
def y_E_way : MethodName := ⟨zNm 0, "way", "(III)I"⟩
abbrev b_E_way : ByteArray := prog_1_method_22_code
theorem d_E_way_0 : decode b_E_way 0 = .ok (.aload_n 0, 1) := by decide +kernel
theorem d_E_way_1 : decode b_E_way 1 = .ok (.invokevirtual 226, 3) := by decide +kernel
theorem d_E_way_4 : decode b_E_way 4 = .ok (.aload_n 0, 1) := by decide +kernel
theorem d_E_way_5 : decode b_E_way 5 = .ok (.getfield 60, 3) := by decide +kernel
theorem d_E_way_8 : decode b_E_way 8 = .ok (.iload_n 1, 1) := by decide +kernel
theorem d_E_way_9 : decode b_E_way 9 = .ok (.iload_n 2, 1) := by decide +kernel
theorem d_E_way_10 : decode b_E_way 10 = .ok (.iload_n 3, 1) := by decide +kernel
theorem d_E_way_11 : decode b_E_way 11 = .ok (.invokevirtual 232, 3) := by decide +kernel
theorem d_E_way_14 : decode b_E_way 14 = .ok (.ireturn, 1) := by decide +kernel
theorem mf_E_way : zMF y_E_way b_E_way 4 (some .int) 3 := ⟨zGW_in 1019 (by decide +kernel) (by decide +kernel), zGW_in 124 (by decide +kernel) (by decide +kernel), by decide +kernel⟩
theorem in_E_way : Cond.instanceMethod y_E_way ∈ zGW := zGW_in 1017 (by decide +kernel) (by decide +kernel)
theorem se_E_way : Cond.selects y_E_way.cls y_E_way y_E_way ∈ zGW := zGW_in 1018 (by decide +kernel) (by decide +kernel)
theorem lk_5_66 : Cond.methodLink (zNm 5) 66 arraycopyName ∈ zGW := zGW_in 881 (by decide +kernel) (by decide +kernel)
theorem lk_2_35 : Cond.methodLink (zNm 2) 35 arraycopyName ∈ zGW := zGW_in 886 (by decide +kernel) (by decide +kernel)
theorem lk_4_50 : Cond.methodLink (zNm 4) 50 y_Pa_pair ∈ zGW := zGW_in 908 (by decide +kernel) (by decide +kernel)
theorem lk_4_31 : Cond.methodLink (zNm 4) 31 y_Pa_take ∈ zGW := zGW_in 900 (by decide +kernel) (by decide +kernel)
theorem lk_4_35 : Cond.methodLink (zNm 4) 35 y_Ps_pairOf ∈ zGW := zGW_in 904 (by decide +kernel) (by decide +kernel)
theorem lk_4_39 : Cond.methodLink (zNm 4) 39 y_Ps_farOf ∈ zGW := zGW_in 905 (by decide +kernel) (by decide +kernel)
theorem lk_4_43 : Cond.methodLink (zNm 4) 43 y_As_told ∈ zGW := zGW_in 906 (by decide +kernel) (by decide +kernel)
theorem zc_4_49 : Cond.constant (zNm 4) 49 (1000000 : Int32) ∈ zGW := zGW_in 907 (by decide +kernel) (by decide +kernel)
theorem lk_4_53 : Cond.methodLink (zNm 4) 53 y_Ps_isShut ∈ zGW := zGW_in 911 (by decide +kernel) (by decide +kernel)
theorem lk_4_57 : Cond.methodLink (zNm 4) 57 y_Pa_goBy ∈ zGW := zGW_in 912 (by decide +kernel) (by decide +kernel)
theorem zc_Lg_314 : Cond.constantLong "java/lang/Long" 314 (6148914691236517205 : Int64) ∈ zGW := zGW_in 923 (by decide +kernel) (by decide +kernel)
theorem zc_Lg_316 : Cond.constantLong "java/lang/Long" 316 (3689348814741910323 : Int64) ∈ zGW := zGW_in 924 (by decide +kernel) (by decide +kernel)
theorem zc_Lg_318 : Cond.constantLong "java/lang/Long" 318 (1085102592571150095 : Int64) ∈ zGW := zGW_in 925 (by decide +kernel) (by decide +kernel)
theorem lk_4_61 : Cond.methodLink (zNm 4) 61 y_Pa_has ∈ zGW := zGW_in 930 (by decide +kernel) (by decide +kernel)
theorem lk_0_351 : Cond.methodLink (zNm 0) 351 y_Lg_bitCount ∈ zGW := zGW_in 920 (by decide +kernel) (by decide +kernel)
theorem lk_0_229 : Cond.methodLink (zNm 0) 229 y_Pa_soonest ∈ zGW := zGW_in 926 (by decide +kernel) (by decide +kernel)
theorem lk_5_98 : Cond.methodLink (zNm 5) 98 y_Ps_has ∈ zGW := zGW_in 944 (by decide +kernel) (by decide +kernel)
theorem lk_5_102 : Cond.methodLink (zNm 5) 102 y_Ps_lawInForce ∈ zGW := zGW_in 945 (by decide +kernel) (by decide +kernel)
theorem lk_5_106 : Cond.methodLink (zNm 5) 106 y_Ps_isShut ∈ zGW := zGW_in 946 (by decide +kernel) (by decide +kernel)
theorem lk_5_109 : Cond.methodLink (zNm 5) 109 y_As_told ∈ zGW := zGW_in 947 (by decide +kernel) (by decide +kernel)
theorem lk_0_369 : Cond.methodLink (zNm 0) 369 y_Ps_goTo ∈ zGW := zGW_in 940 (by decide +kernel) (by decide +kernel)
theorem lk_0_373 : Cond.methodLink (zNm 0) 373 y_Ps_turnGate ∈ zGW := zGW_in 948 (by decide +kernel) (by decide +kernel)
theorem lk_0_376 : Cond.methodLink (zNm 0) 376 y_Ps_muddy ∈ zGW := zGW_in 952 (by decide +kernel) (by decide +kernel)
theorem lk_0_336 : Cond.methodLink (zNm 0) 336 y_Ps_nextDay ∈ zGW := zGW_in 956 (by decide +kernel) (by decide +kernel)
theorem lk_0_379 : Cond.methodLink (zNm 0) 379 y_Jo_add ∈ zGW := zGW_in 960 (by decide +kernel) (by decide +kernel)
theorem lk_0_389 : Cond.methodLink (zNm 0) 389 y_Tx_kindOf ∈ zGW := zGW_in 891 (by decide +kernel) (by decide +kernel)
theorem lk_0_392 : Cond.methodLink (zNm 0) 392 y_Tx_timesOf ∈ zGW := zGW_in 892 (by decide +kernel) (by decide +kernel)
theorem lk_0_322 : Cond.methodLink (zNm 0) 322 y_Pa_fill ∈ zGW := zGW_in 896 (by decide +kernel) (by decide +kernel)
theorem lk_0_398 : Cond.methodLink (zNm 0) 398 y_E_tellOrderWords ∈ zGW := zGW_in 916 (by decide +kernel) (by decide +kernel)
theorem lk_0_401 : Cond.methodLink (zNm 0) 401 y_Tx_value ∈ zGW := zGW_in 934 (by decide +kernel) (by decide +kernel)
theorem zc_0_405 : Cond.constantLong (zNm 0) 405 (-9000000000000000000 : Int64) ∈ zGW := zGW_in 935 (by decide +kernel) (by decide +kernel)
theorem lk_0_216 : Cond.methodLink (zNm 0) 216 y_E_act ∈ zGW := zGW_in 936 (by decide +kernel) (by decide +kernel)
theorem lk_0_183 : Cond.methodLink (zNm 0) 183 y_Re_faultIn ∈ zGW := zGW_in 654 (by decide +kernel) (by decide +kernel)
theorem lk_0_200 : Cond.methodLink (zNm 0) 200 y_Ps_copyFrom ∈ zGW := zGW_in 877 (by decide +kernel) (by decide +kernel)
theorem lk_0_204 : Cond.methodLink (zNm 0) 204 y_Jo_copyFrom ∈ zGW := zGW_in 882 (by decide +kernel) (by decide +kernel)
theorem lk_0_207 : Cond.methodLink (zNm 0) 207 y_E_run ∈ zGW := zGW_in 887 (by decide +kernel) (by decide +kernel)
theorem lk_0_210 : Cond.methodLink (zNm 0) 210 y_Ps_hasLaw ∈ zGW := zGW_in 976 (by decide +kernel) (by decide +kernel)
theorem lk_0_219 : Cond.methodLink (zNm 0) 219 y_E_answered ∈ zGW := zGW_in 984 (by decide +kernel) (by decide +kernel)
theorem lk_0_222 : Cond.methodLink (zNm 0) 222 y_Jo_takeBack ∈ zGW := zGW_in 1004 (by decide +kernel) (by decide +kernel)
theorem lk_0_226 : Cond.methodLink (zNm 0) 226 y_E_fillPaper ∈ zGW := zGW_in 1012 (by decide +kernel) (by decide +kernel)
theorem lk_4_64 : Cond.methodLink (zNm 4) 64 y_Pa_soonest ∈ zGW := zGW_in 1024 (by decide +kernel) (by decide +kernel)
theorem lk_4_67 : Cond.methodLink (zNm 4) 67 y_Pa_nextOnWay ∈ zGW := zGW_in 1025 (by decide +kernel) (by decide +kernel)
theorem lk_0_232 : Cond.methodLink (zNm 0) 232 y_Pa_onWay ∈ zGW := zGW_in 1020 (by decide +kernel) (by decide +kernel)
def f_Ps_copyFrom_158 (fu : Nat) (a0 : Nat) (a1 : Nat) (S : zSt) : Option zSt := some (zwI S a0 14 (zI S a1 14))
def f_Ps_copyFrom_134 (fu : Nat) (a0 : Nat) (a1 : Nat) : Nat → Int32 → zSt → Option zSt
  | 0, _, _ => none
  | n + 1, a2, S => if (6 : Int32) ≤ a2 then f_Ps_copyFrom_158 fu a0 a1 S else zgd (0 ≤ a2 ∧ a2.toNatClampNeg < 6) (zgd (0 ≤ a2 ∧ a2.toNatClampNeg < 6) (zgt (zR S (a1 + 5) a2.toNatClampNeg) S (f_Ps_copyFrom_134 fu a0 a1 n (a2 + (1 : Int32)) (zwR S (a0 + 5) a2.toNatClampNeg (zR S (a1 + 5) a2.toNatClampNeg)))))
def f_Ps_copyFrom (fu : Nat) (a0 : Nat) (a1 : Nat) (S : zSt) : Option zSt := f_Ps_copyFrom_134 fu a0 a1 fu (0 : Int32) (zwI (zcpI (zcpI (zwI (zwI (zwI (zwI (zwI (zwL (zwL (zcpI (zcpI (zwI S a0 0 (zI S a1 0)) (a1 + 1) (a0 + 1) 9) (a1 + 2) (a0 + 2) 36) a0 3 (zL (zcpI (zcpI (zwI S a0 0 (zI S a1 0)) (a1 + 1) (a0 + 1) 9) (a1 + 2) (a0 + 2) 36) a1 3)) a0 4 (zL (zwL (zcpI (zcpI (zwI S a0 0 (zI S a1 0)) (a1 + 1) (a0 + 1) 9) (a1 + 2) (a0 + 2) 36) a0 3 (zL (zcpI (zcpI (zwI S a0 0 (zI S a1 0)) (a1 + 1) (a0 + 1) 9) (a1 + 2) (a0 + 2) 36) a1 3)) a1 4)) a0 5 (zI (zwL (zwL (zcpI (zcpI (zwI S a0 0 (zI S a1 0)) (a1 + 1) (a0 + 1) 9) (a1 + 2) (a0 + 2) 36) a0 3 (zL (zcpI (zcpI (zwI S a0 0 (zI S a1 0)) (a1 + 1) (a0 + 1) 9) (a1 + 2) (a0 + 2) 36) a1 3)) a0 4 (zL (zwL (zcpI (zcpI (zwI S a0 0 (zI S a1 0)) (a1 + 1) (a0 + 1) 9) (a1 + 2) (a0 + 2) 36) a0 3 (zL (zcpI (zcpI (zwI S a0 0 (zI S a1 0)) (a1 + 1) (a0 + 1) 9) (a1 + 2) (a0 + 2) 36) a1 3)) a1 4)) a1 5)) a0 6 (zI (zwI (zwL (zwL (zcpI (zcpI (zwI S a0 0 (zI S a1 0)) (a1 + 1) (a0 + 1) 9) (a1 + 2) (a0 + 2) 36) a0 3 (zL (zcpI (zcpI (zwI S a0 0 (zI S a1 0)) (a1 + 1) (a0 + 1) 9) (a1 + 2) (a0 + 2) 36) a1 3)) a0 4 (zL (zwL (zcpI (zcpI (zwI S a0 0 (zI S a1 0)) (a1 + 1) (a0 + 1) 9) (a1 + 2) (a0 + 2) 36) a0 3 (zL (zcpI (zcpI (zwI S a0 0 (zI S a1 0)) (a1 + 1) (a0 + 1) 9) (a1 + 2) (a0 + 2) 36) a1 3)) a1 4)) a0 5 (zI (zwL (zwL (zcpI (zcpI (zwI S a0 0 (zI S a1 0)) (a1 + 1) (a0 + 1) 9) (a1 + 2) (a0 + 2) 36) a0 3 (zL (zcpI (zcpI (zwI S a0 0 (zI S a1 0)) (a1 + 1) (a0 + 1) 9) (a1 + 2) (a0 + 2) 36) a1 3)) a0 4 (zL (zwL (zcpI (zcpI (zwI S a0 0 (zI S a1 0)) (a1 + 1) (a0 + 1) 9) (a1 + 2) (a0 + 2) 36) a0 3 (zL (zcpI (zcpI (zwI S a0 0 (zI S a1 0)) (a1 + 1) (a0 + 1) 9) (a1 + 2) (a0 + 2) 36) a1 3)) a1 4)) a1 5)) a1 6)) a0 7 (zI (zwI (zwI (zwL (zwL (zcpI (zcpI (zwI S a0 0 (zI S a1 0)) (a1 + 1) (a0 + 1) 9) (a1 + 2) (a0 + 2) 36) a0 3 (zL (zcpI (zcpI (zwI S a0 0 (zI S a1 0)) (a1 + 1) (a0 + 1) 9) (a1 + 2) (a0 + 2) 36) a1 3)) a0 4 (zL (zwL (zcpI (zcpI (zwI S a0 0 (zI S a1 0)) (a1 + 1) (a0 + 1) 9) (a1 + 2) (a0 + 2) 36) a0 3 (zL (zcpI (zcpI (zwI S a0 0 (zI S a1 0)) (a1 + 1) (a0 + 1) 9) (a1 + 2) (a0 + 2) 36) a1 3)) a1 4)) a0 5 (zI (zwL (zwL (zcpI (zcpI (zwI S a0 0 (zI S a1 0)) (a1 + 1) (a0 + 1) 9) (a1 + 2) (a0 + 2) 36) a0 3 (zL (zcpI (zcpI (zwI S a0 0 (zI S a1 0)) (a1 + 1) (a0 + 1) 9) (a1 + 2) (a0 + 2) 36) a1 3)) a0 4 (zL (zwL (zcpI (zcpI (zwI S a0 0 (zI S a1 0)) (a1 + 1) (a0 + 1) 9) (a1 + 2) (a0 + 2) 36) a0 3 (zL (zcpI (zcpI (zwI S a0 0 (zI S a1 0)) (a1 + 1) (a0 + 1) 9) (a1 + 2) (a0 + 2) 36) a1 3)) a1 4)) a1 5)) a0 6 (zI (zwI (zwL (zwL (zcpI (zcpI (zwI S a0 0 (zI S a1 0)) (a1 + 1) (a0 + 1) 9) (a1 + 2) (a0 + 2) 36) a0 3 (zL (zcpI (zcpI (zwI S a0 0 (zI S a1 0)) (a1 + 1) (a0 + 1) 9) (a1 + 2) (a0 + 2) 36) a1 3)) a0 4 (zL (zwL (zcpI (zcpI (zwI S a0 0 (zI S a1 0)) (a1 + 1) (a0 + 1) 9) (a1 + 2) (a0 + 2) 36) a0 3 (zL (zcpI (zcpI (zwI S a0 0 (zI S a1 0)) (a1 + 1) (a0 + 1) 9) (a1 + 2) (a0 + 2) 36) a1 3)) a1 4)) a0 5 (zI (zwL (zwL (zcpI (zcpI (zwI S a0 0 (zI S a1 0)) (a1 + 1) (a0 + 1) 9) (a1 + 2) (a0 + 2) 36) a0 3 (zL (zcpI (zcpI (zwI S a0 0 (zI S a1 0)) (a1 + 1) (a0 + 1) 9) (a1 + 2) (a0 + 2) 36) a1 3)) a0 4 (zL (zwL (zcpI (zcpI (zwI S a0 0 (zI S a1 0)) (a1 + 1) (a0 + 1) 9) (a1 + 2) (a0 + 2) 36) a0 3 (zL (zcpI (zcpI (zwI S a0 0 (zI S a1 0)) (a1 + 1) (a0 + 1) 9) (a1 + 2) (a0 + 2) 36) a1 3)) a1 4)) a1 5)) a1 6)) a1 7)) a0 8 (zI (zwI (zwI (zwI (zwL (zwL (zcpI (zcpI (zwI S a0 0 (zI S a1 0)) (a1 + 1) (a0 + 1) 9) (a1 + 2) (a0 + 2) 36) a0 3 (zL (zcpI (zcpI (zwI S a0 0 (zI S a1 0)) (a1 + 1) (a0 + 1) 9) (a1 + 2) (a0 + 2) 36) a1 3)) a0 4 (zL (zwL (zcpI (zcpI (zwI S a0 0 (zI S a1 0)) (a1 + 1) (a0 + 1) 9) (a1 + 2) (a0 + 2) 36) a0 3 (zL (zcpI (zcpI (zwI S a0 0 (zI S a1 0)) (a1 + 1) (a0 + 1) 9) (a1 + 2) (a0 + 2) 36) a1 3)) a1 4)) a0 5 (zI (zwL (zwL (zcpI (zcpI (zwI S a0 0 (zI S a1 0)) (a1 + 1) (a0 + 1) 9) (a1 + 2) (a0 + 2) 36) a0 3 (zL (zcpI (zcpI (zwI S a0 0 (zI S a1 0)) (a1 + 1) (a0 + 1) 9) (a1 + 2) (a0 + 2) 36) a1 3)) a0 4 (zL (zwL (zcpI (zcpI (zwI S a0 0 (zI S a1 0)) (a1 + 1) (a0 + 1) 9) (a1 + 2) (a0 + 2) 36) a0 3 (zL (zcpI (zcpI (zwI S a0 0 (zI S a1 0)) (a1 + 1) (a0 + 1) 9) (a1 + 2) (a0 + 2) 36) a1 3)) a1 4)) a1 5)) a0 6 (zI (zwI (zwL (zwL (zcpI (zcpI (zwI S a0 0 (zI S a1 0)) (a1 + 1) (a0 + 1) 9) (a1 + 2) (a0 + 2) 36) a0 3 (zL (zcpI (zcpI (zwI S a0 0 (zI S a1 0)) (a1 + 1) (a0 + 1) 9) (a1 + 2) (a0 + 2) 36) a1 3)) a0 4 (zL (zwL (zcpI (zcpI (zwI S a0 0 (zI S a1 0)) (a1 + 1) (a0 + 1) 9) (a1 + 2) (a0 + 2) 36) a0 3 (zL (zcpI (zcpI (zwI S a0 0 (zI S a1 0)) (a1 + 1) (a0 + 1) 9) (a1 + 2) (a0 + 2) 36) a1 3)) a1 4)) a0 5 (zI (zwL (zwL (zcpI (zcpI (zwI S a0 0 (zI S a1 0)) (a1 + 1) (a0 + 1) 9) (a1 + 2) (a0 + 2) 36) a0 3 (zL (zcpI (zcpI (zwI S a0 0 (zI S a1 0)) (a1 + 1) (a0 + 1) 9) (a1 + 2) (a0 + 2) 36) a1 3)) a0 4 (zL (zwL (zcpI (zcpI (zwI S a0 0 (zI S a1 0)) (a1 + 1) (a0 + 1) 9) (a1 + 2) (a0 + 2) 36) a0 3 (zL (zcpI (zcpI (zwI S a0 0 (zI S a1 0)) (a1 + 1) (a0 + 1) 9) (a1 + 2) (a0 + 2) 36) a1 3)) a1 4)) a1 5)) a1 6)) a0 7 (zI (zwI (zwI (zwL (zwL (zcpI (zcpI (zwI S a0 0 (zI S a1 0)) (a1 + 1) (a0 + 1) 9) (a1 + 2) (a0 + 2) 36) a0 3 (zL (zcpI (zcpI (zwI S a0 0 (zI S a1 0)) (a1 + 1) (a0 + 1) 9) (a1 + 2) (a0 + 2) 36) a1 3)) a0 4 (zL (zwL (zcpI (zcpI (zwI S a0 0 (zI S a1 0)) (a1 + 1) (a0 + 1) 9) (a1 + 2) (a0 + 2) 36) a0 3 (zL (zcpI (zcpI (zwI S a0 0 (zI S a1 0)) (a1 + 1) (a0 + 1) 9) (a1 + 2) (a0 + 2) 36) a1 3)) a1 4)) a0 5 (zI (zwL (zwL (zcpI (zcpI (zwI S a0 0 (zI S a1 0)) (a1 + 1) (a0 + 1) 9) (a1 + 2) (a0 + 2) 36) a0 3 (zL (zcpI (zcpI (zwI S a0 0 (zI S a1 0)) (a1 + 1) (a0 + 1) 9) (a1 + 2) (a0 + 2) 36) a1 3)) a0 4 (zL (zwL (zcpI (zcpI (zwI S a0 0 (zI S a1 0)) (a1 + 1) (a0 + 1) 9) (a1 + 2) (a0 + 2) 36) a0 3 (zL (zcpI (zcpI (zwI S a0 0 (zI S a1 0)) (a1 + 1) (a0 + 1) 9) (a1 + 2) (a0 + 2) 36) a1 3)) a1 4)) a1 5)) a0 6 (zI (zwI (zwL (zwL (zcpI (zcpI (zwI S a0 0 (zI S a1 0)) (a1 + 1) (a0 + 1) 9) (a1 + 2) (a0 + 2) 36) a0 3 (zL (zcpI (zcpI (zwI S a0 0 (zI S a1 0)) (a1 + 1) (a0 + 1) 9) (a1 + 2) (a0 + 2) 36) a1 3)) a0 4 (zL (zwL (zcpI (zcpI (zwI S a0 0 (zI S a1 0)) (a1 + 1) (a0 + 1) 9) (a1 + 2) (a0 + 2) 36) a0 3 (zL (zcpI (zcpI (zwI S a0 0 (zI S a1 0)) (a1 + 1) (a0 + 1) 9) (a1 + 2) (a0 + 2) 36) a1 3)) a1 4)) a0 5 (zI (zwL (zwL (zcpI (zcpI (zwI S a0 0 (zI S a1 0)) (a1 + 1) (a0 + 1) 9) (a1 + 2) (a0 + 2) 36) a0 3 (zL (zcpI (zcpI (zwI S a0 0 (zI S a1 0)) (a1 + 1) (a0 + 1) 9) (a1 + 2) (a0 + 2) 36) a1 3)) a0 4 (zL (zwL (zcpI (zcpI (zwI S a0 0 (zI S a1 0)) (a1 + 1) (a0 + 1) 9) (a1 + 2) (a0 + 2) 36) a0 3 (zL (zcpI (zcpI (zwI S a0 0 (zI S a1 0)) (a1 + 1) (a0 + 1) 9) (a1 + 2) (a0 + 2) 36) a1 3)) a1 4)) a1 5)) a1 6)) a1 7)) a1 8)) a0 9 (zI (zwI (zwI (zwI (zwI (zwL (zwL (zcpI (zcpI (zwI S a0 0 (zI S a1 0)) (a1 + 1) (a0 + 1) 9) (a1 + 2) (a0 + 2) 36) a0 3 (zL (zcpI (zcpI (zwI S a0 0 (zI S a1 0)) (a1 + 1) (a0 + 1) 9) (a1 + 2) (a0 + 2) 36) a1 3)) a0 4 (zL (zwL (zcpI (zcpI (zwI S a0 0 (zI S a1 0)) (a1 + 1) (a0 + 1) 9) (a1 + 2) (a0 + 2) 36) a0 3 (zL (zcpI (zcpI (zwI S a0 0 (zI S a1 0)) (a1 + 1) (a0 + 1) 9) (a1 + 2) (a0 + 2) 36) a1 3)) a1 4)) a0 5 (zI (zwL (zwL (zcpI (zcpI (zwI S a0 0 (zI S a1 0)) (a1 + 1) (a0 + 1) 9) (a1 + 2) (a0 + 2) 36) a0 3 (zL (zcpI (zcpI (zwI S a0 0 (zI S a1 0)) (a1 + 1) (a0 + 1) 9) (a1 + 2) (a0 + 2) 36) a1 3)) a0 4 (zL (zwL (zcpI (zcpI (zwI S a0 0 (zI S a1 0)) (a1 + 1) (a0 + 1) 9) (a1 + 2) (a0 + 2) 36) a0 3 (zL (zcpI (zcpI (zwI S a0 0 (zI S a1 0)) (a1 + 1) (a0 + 1) 9) (a1 + 2) (a0 + 2) 36) a1 3)) a1 4)) a1 5)) a0 6 (zI (zwI (zwL (zwL (zcpI (zcpI (zwI S a0 0 (zI S a1 0)) (a1 + 1) (a0 + 1) 9) (a1 + 2) (a0 + 2) 36) a0 3 (zL (zcpI (zcpI (zwI S a0 0 (zI S a1 0)) (a1 + 1) (a0 + 1) 9) (a1 + 2) (a0 + 2) 36) a1 3)) a0 4 (zL (zwL (zcpI (zcpI (zwI S a0 0 (zI S a1 0)) (a1 + 1) (a0 + 1) 9) (a1 + 2) (a0 + 2) 36) a0 3 (zL (zcpI (zcpI (zwI S a0 0 (zI S a1 0)) (a1 + 1) (a0 + 1) 9) (a1 + 2) (a0 + 2) 36) a1 3)) a1 4)) a0 5 (zI (zwL (zwL (zcpI (zcpI (zwI S a0 0 (zI S a1 0)) (a1 + 1) (a0 + 1) 9) (a1 + 2) (a0 + 2) 36) a0 3 (zL (zcpI (zcpI (zwI S a0 0 (zI S a1 0)) (a1 + 1) (a0 + 1) 9) (a1 + 2) (a0 + 2) 36) a1 3)) a0 4 (zL (zwL (zcpI (zcpI (zwI S a0 0 (zI S a1 0)) (a1 + 1) (a0 + 1) 9) (a1 + 2) (a0 + 2) 36) a0 3 (zL (zcpI (zcpI (zwI S a0 0 (zI S a1 0)) (a1 + 1) (a0 + 1) 9) (a1 + 2) (a0 + 2) 36) a1 3)) a1 4)) a1 5)) a1 6)) a0 7 (zI (zwI (zwI (zwL (zwL (zcpI (zcpI (zwI S a0 0 (zI S a1 0)) (a1 + 1) (a0 + 1) 9) (a1 + 2) (a0 + 2) 36) a0 3 (zL (zcpI (zcpI (zwI S a0 0 (zI S a1 0)) (a1 + 1) (a0 + 1) 9) (a1 + 2) (a0 + 2) 36) a1 3)) a0 4 (zL (zwL (zcpI (zcpI (zwI S a0 0 (zI S a1 0)) (a1 + 1) (a0 + 1) 9) (a1 + 2) (a0 + 2) 36) a0 3 (zL (zcpI (zcpI (zwI S a0 0 (zI S a1 0)) (a1 + 1) (a0 + 1) 9) (a1 + 2) (a0 + 2) 36) a1 3)) a1 4)) a0 5 (zI (zwL (zwL (zcpI (zcpI (zwI S a0 0 (zI S a1 0)) (a1 + 1) (a0 + 1) 9) (a1 + 2) (a0 + 2) 36) a0 3 (zL (zcpI (zcpI (zwI S a0 0 (zI S a1 0)) (a1 + 1) (a0 + 1) 9) (a1 + 2) (a0 + 2) 36) a1 3)) a0 4 (zL (zwL (zcpI (zcpI (zwI S a0 0 (zI S a1 0)) (a1 + 1) (a0 + 1) 9) (a1 + 2) (a0 + 2) 36) a0 3 (zL (zcpI (zcpI (zwI S a0 0 (zI S a1 0)) (a1 + 1) (a0 + 1) 9) (a1 + 2) (a0 + 2) 36) a1 3)) a1 4)) a1 5)) a0 6 (zI (zwI (zwL (zwL (zcpI (zcpI (zwI S a0 0 (zI S a1 0)) (a1 + 1) (a0 + 1) 9) (a1 + 2) (a0 + 2) 36) a0 3 (zL (zcpI (zcpI (zwI S a0 0 (zI S a1 0)) (a1 + 1) (a0 + 1) 9) (a1 + 2) (a0 + 2) 36) a1 3)) a0 4 (zL (zwL (zcpI (zcpI (zwI S a0 0 (zI S a1 0)) (a1 + 1) (a0 + 1) 9) (a1 + 2) (a0 + 2) 36) a0 3 (zL (zcpI (zcpI (zwI S a0 0 (zI S a1 0)) (a1 + 1) (a0 + 1) 9) (a1 + 2) (a0 + 2) 36) a1 3)) a1 4)) a0 5 (zI (zwL (zwL (zcpI (zcpI (zwI S a0 0 (zI S a1 0)) (a1 + 1) (a0 + 1) 9) (a1 + 2) (a0 + 2) 36) a0 3 (zL (zcpI (zcpI (zwI S a0 0 (zI S a1 0)) (a1 + 1) (a0 + 1) 9) (a1 + 2) (a0 + 2) 36) a1 3)) a0 4 (zL (zwL (zcpI (zcpI (zwI S a0 0 (zI S a1 0)) (a1 + 1) (a0 + 1) 9) (a1 + 2) (a0 + 2) 36) a0 3 (zL (zcpI (zcpI (zwI S a0 0 (zI S a1 0)) (a1 + 1) (a0 + 1) 9) (a1 + 2) (a0 + 2) 36) a1 3)) a1 4)) a1 5)) a1 6)) a1 7)) a0 8 (zI (zwI (zwI (zwI (zwL (zwL (zcpI (zcpI (zwI S a0 0 (zI S a1 0)) (a1 + 1) (a0 + 1) 9) (a1 + 2) (a0 + 2) 36) a0 3 (zL (zcpI (zcpI (zwI S a0 0 (zI S a1 0)) (a1 + 1) (a0 + 1) 9) (a1 + 2) (a0 + 2) 36) a1 3)) a0 4 (zL (zwL (zcpI (zcpI (zwI S a0 0 (zI S a1 0)) (a1 + 1) (a0 + 1) 9) (a1 + 2) (a0 + 2) 36) a0 3 (zL (zcpI (zcpI (zwI S a0 0 (zI S a1 0)) (a1 + 1) (a0 + 1) 9) (a1 + 2) (a0 + 2) 36) a1 3)) a1 4)) a0 5 (zI (zwL (zwL (zcpI (zcpI (zwI S a0 0 (zI S a1 0)) (a1 + 1) (a0 + 1) 9) (a1 + 2) (a0 + 2) 36) a0 3 (zL (zcpI (zcpI (zwI S a0 0 (zI S a1 0)) (a1 + 1) (a0 + 1) 9) (a1 + 2) (a0 + 2) 36) a1 3)) a0 4 (zL (zwL (zcpI (zcpI (zwI S a0 0 (zI S a1 0)) (a1 + 1) (a0 + 1) 9) (a1 + 2) (a0 + 2) 36) a0 3 (zL (zcpI (zcpI (zwI S a0 0 (zI S a1 0)) (a1 + 1) (a0 + 1) 9) (a1 + 2) (a0 + 2) 36) a1 3)) a1 4)) a1 5)) a0 6 (zI (zwI (zwL (zwL (zcpI (zcpI (zwI S a0 0 (zI S a1 0)) (a1 + 1) (a0 + 1) 9) (a1 + 2) (a0 + 2) 36) a0 3 (zL (zcpI (zcpI (zwI S a0 0 (zI S a1 0)) (a1 + 1) (a0 + 1) 9) (a1 + 2) (a0 + 2) 36) a1 3)) a0 4 (zL (zwL (zcpI (zcpI (zwI S a0 0 (zI S a1 0)) (a1 + 1) (a0 + 1) 9) (a1 + 2) (a0 + 2) 36) a0 3 (zL (zcpI (zcpI (zwI S a0 0 (zI S a1 0)) (a1 + 1) (a0 + 1) 9) (a1 + 2) (a0 + 2) 36) a1 3)) a1 4)) a0 5 (zI (zwL (zwL (zcpI (zcpI (zwI S a0 0 (zI S a1 0)) (a1 + 1) (a0 + 1) 9) (a1 + 2) (a0 + 2) 36) a0 3 (zL (zcpI (zcpI (zwI S a0 0 (zI S a1 0)) (a1 + 1) (a0 + 1) 9) (a1 + 2) (a0 + 2) 36) a1 3)) a0 4 (zL (zwL (zcpI (zcpI (zwI S a0 0 (zI S a1 0)) (a1 + 1) (a0 + 1) 9) (a1 + 2) (a0 + 2) 36) a0 3 (zL (zcpI (zcpI (zwI S a0 0 (zI S a1 0)) (a1 + 1) (a0 + 1) 9) (a1 + 2) (a0 + 2) 36) a1 3)) a1 4)) a1 5)) a1 6)) a0 7 (zI (zwI (zwI (zwL (zwL (zcpI (zcpI (zwI S a0 0 (zI S a1 0)) (a1 + 1) (a0 + 1) 9) (a1 + 2) (a0 + 2) 36) a0 3 (zL (zcpI (zcpI (zwI S a0 0 (zI S a1 0)) (a1 + 1) (a0 + 1) 9) (a1 + 2) (a0 + 2) 36) a1 3)) a0 4 (zL (zwL (zcpI (zcpI (zwI S a0 0 (zI S a1 0)) (a1 + 1) (a0 + 1) 9) (a1 + 2) (a0 + 2) 36) a0 3 (zL (zcpI (zcpI (zwI S a0 0 (zI S a1 0)) (a1 + 1) (a0 + 1) 9) (a1 + 2) (a0 + 2) 36) a1 3)) a1 4)) a0 5 (zI (zwL (zwL (zcpI (zcpI (zwI S a0 0 (zI S a1 0)) (a1 + 1) (a0 + 1) 9) (a1 + 2) (a0 + 2) 36) a0 3 (zL (zcpI (zcpI (zwI S a0 0 (zI S a1 0)) (a1 + 1) (a0 + 1) 9) (a1 + 2) (a0 + 2) 36) a1 3)) a0 4 (zL (zwL (zcpI (zcpI (zwI S a0 0 (zI S a1 0)) (a1 + 1) (a0 + 1) 9) (a1 + 2) (a0 + 2) 36) a0 3 (zL (zcpI (zcpI (zwI S a0 0 (zI S a1 0)) (a1 + 1) (a0 + 1) 9) (a1 + 2) (a0 + 2) 36) a1 3)) a1 4)) a1 5)) a0 6 (zI (zwI (zwL (zwL (zcpI (zcpI (zwI S a0 0 (zI S a1 0)) (a1 + 1) (a0 + 1) 9) (a1 + 2) (a0 + 2) 36) a0 3 (zL (zcpI (zcpI (zwI S a0 0 (zI S a1 0)) (a1 + 1) (a0 + 1) 9) (a1 + 2) (a0 + 2) 36) a1 3)) a0 4 (zL (zwL (zcpI (zcpI (zwI S a0 0 (zI S a1 0)) (a1 + 1) (a0 + 1) 9) (a1 + 2) (a0 + 2) 36) a0 3 (zL (zcpI (zcpI (zwI S a0 0 (zI S a1 0)) (a1 + 1) (a0 + 1) 9) (a1 + 2) (a0 + 2) 36) a1 3)) a1 4)) a0 5 (zI (zwL (zwL (zcpI (zcpI (zwI S a0 0 (zI S a1 0)) (a1 + 1) (a0 + 1) 9) (a1 + 2) (a0 + 2) 36) a0 3 (zL (zcpI (zcpI (zwI S a0 0 (zI S a1 0)) (a1 + 1) (a0 + 1) 9) (a1 + 2) (a0 + 2) 36) a1 3)) a0 4 (zL (zwL (zcpI (zcpI (zwI S a0 0 (zI S a1 0)) (a1 + 1) (a0 + 1) 9) (a1 + 2) (a0 + 2) 36) a0 3 (zL (zcpI (zcpI (zwI S a0 0 (zI S a1 0)) (a1 + 1) (a0 + 1) 9) (a1 + 2) (a0 + 2) 36) a1 3)) a1 4)) a1 5)) a1 6)) a1 7)) a1 8)) a1 9)) (a1 + 3) (a0 + 3) 6) (a1 + 4) (a0 + 4) 6) a0 12 (zI (zcpI (zcpI (zwI (zwI (zwI (zwI (zwI (zwL (zwL (zcpI (zcpI (zwI S a0 0 (zI S a1 0)) (a1 + 1) (a0 + 1) 9) (a1 + 2) (a0 + 2) 36) a0 3 (zL (zcpI (zcpI (zwI S a0 0 (zI S a1 0)) (a1 + 1) (a0 + 1) 9) (a1 + 2) (a0 + 2) 36) a1 3)) a0 4 (zL (zwL (zcpI (zcpI (zwI S a0 0 (zI S a1 0)) (a1 + 1) (a0 + 1) 9) (a1 + 2) (a0 + 2) 36) a0 3 (zL (zcpI (zcpI (zwI S a0 0 (zI S a1 0)) (a1 + 1) (a0 + 1) 9) (a1 + 2) (a0 + 2) 36) a1 3)) a1 4)) a0 5 (zI (zwL (zwL (zcpI (zcpI (zwI S a0 0 (zI S a1 0)) (a1 + 1) (a0 + 1) 9) (a1 + 2) (a0 + 2) 36) a0 3 (zL (zcpI (zcpI (zwI S a0 0 (zI S a1 0)) (a1 + 1) (a0 + 1) 9) (a1 + 2) (a0 + 2) 36) a1 3)) a0 4 (zL (zwL (zcpI (zcpI (zwI S a0 0 (zI S a1 0)) (a1 + 1) (a0 + 1) 9) (a1 + 2) (a0 + 2) 36) a0 3 (zL (zcpI (zcpI (zwI S a0 0 (zI S a1 0)) (a1 + 1) (a0 + 1) 9) (a1 + 2) (a0 + 2) 36) a1 3)) a1 4)) a1 5)) a0 6 (zI (zwI (zwL (zwL (zcpI (zcpI (zwI S a0 0 (zI S a1 0)) (a1 + 1) (a0 + 1) 9) (a1 + 2) (a0 + 2) 36) a0 3 (zL (zcpI (zcpI (zwI S a0 0 (zI S a1 0)) (a1 + 1) (a0 + 1) 9) (a1 + 2) (a0 + 2) 36) a1 3)) a0 4 (zL (zwL (zcpI (zcpI (zwI S a0 0 (zI S a1 0)) (a1 + 1) (a0 + 1) 9) (a1 + 2) (a0 + 2) 36) a0 3 (zL (zcpI (zcpI (zwI S a0 0 (zI S a1 0)) (a1 + 1) (a0 + 1) 9) (a1 + 2) (a0 + 2) 36) a1 3)) a1 4)) a0 5 (zI (zwL (zwL (zcpI (zcpI (zwI S a0 0 (zI S a1 0)) (a1 + 1) (a0 + 1) 9) (a1 + 2) (a0 + 2) 36) a0 3 (zL (zcpI (zcpI (zwI S a0 0 (zI S a1 0)) (a1 + 1) (a0 + 1) 9) (a1 + 2) (a0 + 2) 36) a1 3)) a0 4 (zL (zwL (zcpI (zcpI (zwI S a0 0 (zI S a1 0)) (a1 + 1) (a0 + 1) 9) (a1 + 2) (a0 + 2) 36) a0 3 (zL (zcpI (zcpI (zwI S a0 0 (zI S a1 0)) (a1 + 1) (a0 + 1) 9) (a1 + 2) (a0 + 2) 36) a1 3)) a1 4)) a1 5)) a1 6)) a0 7 (zI (zwI (zwI (zwL (zwL (zcpI (zcpI (zwI S a0 0 (zI S a1 0)) (a1 + 1) (a0 + 1) 9) (a1 + 2) (a0 + 2) 36) a0 3 (zL (zcpI (zcpI (zwI S a0 0 (zI S a1 0)) (a1 + 1) (a0 + 1) 9) (a1 + 2) (a0 + 2) 36) a1 3)) a0 4 (zL (zwL (zcpI (zcpI (zwI S a0 0 (zI S a1 0)) (a1 + 1) (a0 + 1) 9) (a1 + 2) (a0 + 2) 36) a0 3 (zL (zcpI (zcpI (zwI S a0 0 (zI S a1 0)) (a1 + 1) (a0 + 1) 9) (a1 + 2) (a0 + 2) 36) a1 3)) a1 4)) a0 5 (zI (zwL (zwL (zcpI (zcpI (zwI S a0 0 (zI S a1 0)) (a1 + 1) (a0 + 1) 9) (a1 + 2) (a0 + 2) 36) a0 3 (zL (zcpI (zcpI (zwI S a0 0 (zI S a1 0)) (a1 + 1) (a0 + 1) 9) (a1 + 2) (a0 + 2) 36) a1 3)) a0 4 (zL (zwL (zcpI (zcpI (zwI S a0 0 (zI S a1 0)) (a1 + 1) (a0 + 1) 9) (a1 + 2) (a0 + 2) 36) a0 3 (zL (zcpI (zcpI (zwI S a0 0 (zI S a1 0)) (a1 + 1) (a0 + 1) 9) (a1 + 2) (a0 + 2) 36) a1 3)) a1 4)) a1 5)) a0 6 (zI (zwI (zwL (zwL (zcpI (zcpI (zwI S a0 0 (zI S a1 0)) (a1 + 1) (a0 + 1) 9) (a1 + 2) (a0 + 2) 36) a0 3 (zL (zcpI (zcpI (zwI S a0 0 (zI S a1 0)) (a1 + 1) (a0 + 1) 9) (a1 + 2) (a0 + 2) 36) a1 3)) a0 4 (zL (zwL (zcpI (zcpI (zwI S a0 0 (zI S a1 0)) (a1 + 1) (a0 + 1) 9) (a1 + 2) (a0 + 2) 36) a0 3 (zL (zcpI (zcpI (zwI S a0 0 (zI S a1 0)) (a1 + 1) (a0 + 1) 9) (a1 + 2) (a0 + 2) 36) a1 3)) a1 4)) a0 5 (zI (zwL (zwL (zcpI (zcpI (zwI S a0 0 (zI S a1 0)) (a1 + 1) (a0 + 1) 9) (a1 + 2) (a0 + 2) 36) a0 3 (zL (zcpI (zcpI (zwI S a0 0 (zI S a1 0)) (a1 + 1) (a0 + 1) 9) (a1 + 2) (a0 + 2) 36) a1 3)) a0 4 (zL (zwL (zcpI (zcpI (zwI S a0 0 (zI S a1 0)) (a1 + 1) (a0 + 1) 9) (a1 + 2) (a0 + 2) 36) a0 3 (zL (zcpI (zcpI (zwI S a0 0 (zI S a1 0)) (a1 + 1) (a0 + 1) 9) (a1 + 2) (a0 + 2) 36) a1 3)) a1 4)) a1 5)) a1 6)) a1 7)) a0 8 (zI (zwI (zwI (zwI (zwL (zwL (zcpI (zcpI (zwI S a0 0 (zI S a1 0)) (a1 + 1) (a0 + 1) 9) (a1 + 2) (a0 + 2) 36) a0 3 (zL (zcpI (zcpI (zwI S a0 0 (zI S a1 0)) (a1 + 1) (a0 + 1) 9) (a1 + 2) (a0 + 2) 36) a1 3)) a0 4 (zL (zwL (zcpI (zcpI (zwI S a0 0 (zI S a1 0)) (a1 + 1) (a0 + 1) 9) (a1 + 2) (a0 + 2) 36) a0 3 (zL (zcpI (zcpI (zwI S a0 0 (zI S a1 0)) (a1 + 1) (a0 + 1) 9) (a1 + 2) (a0 + 2) 36) a1 3)) a1 4)) a0 5 (zI (zwL (zwL (zcpI (zcpI (zwI S a0 0 (zI S a1 0)) (a1 + 1) (a0 + 1) 9) (a1 + 2) (a0 + 2) 36) a0 3 (zL (zcpI (zcpI (zwI S a0 0 (zI S a1 0)) (a1 + 1) (a0 + 1) 9) (a1 + 2) (a0 + 2) 36) a1 3)) a0 4 (zL (zwL (zcpI (zcpI (zwI S a0 0 (zI S a1 0)) (a1 + 1) (a0 + 1) 9) (a1 + 2) (a0 + 2) 36) a0 3 (zL (zcpI (zcpI (zwI S a0 0 (zI S a1 0)) (a1 + 1) (a0 + 1) 9) (a1 + 2) (a0 + 2) 36) a1 3)) a1 4)) a1 5)) a0 6 (zI (zwI (zwL (zwL (zcpI (zcpI (zwI S a0 0 (zI S a1 0)) (a1 + 1) (a0 + 1) 9) (a1 + 2) (a0 + 2) 36) a0 3 (zL (zcpI (zcpI (zwI S a0 0 (zI S a1 0)) (a1 + 1) (a0 + 1) 9) (a1 + 2) (a0 + 2) 36) a1 3)) a0 4 (zL (zwL (zcpI (zcpI (zwI S a0 0 (zI S a1 0)) (a1 + 1) (a0 + 1) 9) (a1 + 2) (a0 + 2) 36) a0 3 (zL (zcpI (zcpI (zwI S a0 0 (zI S a1 0)) (a1 + 1) (a0 + 1) 9) (a1 + 2) (a0 + 2) 36) a1 3)) a1 4)) a0 5 (zI (zwL (zwL (zcpI (zcpI (zwI S a0 0 (zI S a1 0)) (a1 + 1) (a0 + 1) 9) (a1 + 2) (a0 + 2) 36) a0 3 (zL (zcpI (zcpI (zwI S a0 0 (zI S a1 0)) (a1 + 1) (a0 + 1) 9) (a1 + 2) (a0 + 2) 36) a1 3)) a0 4 (zL (zwL (zcpI (zcpI (zwI S a0 0 (zI S a1 0)) (a1 + 1) (a0 + 1) 9) (a1 + 2) (a0 + 2) 36) a0 3 (zL (zcpI (zcpI (zwI S a0 0 (zI S a1 0)) (a1 + 1) (a0 + 1) 9) (a1 + 2) (a0 + 2) 36) a1 3)) a1 4)) a1 5)) a1 6)) a0 7 (zI (zwI (zwI (zwL (zwL (zcpI (zcpI (zwI S a0 0 (zI S a1 0)) (a1 + 1) (a0 + 1) 9) (a1 + 2) (a0 + 2) 36) a0 3 (zL (zcpI (zcpI (zwI S a0 0 (zI S a1 0)) (a1 + 1) (a0 + 1) 9) (a1 + 2) (a0 + 2) 36) a1 3)) a0 4 (zL (zwL (zcpI (zcpI (zwI S a0 0 (zI S a1 0)) (a1 + 1) (a0 + 1) 9) (a1 + 2) (a0 + 2) 36) a0 3 (zL (zcpI (zcpI (zwI S a0 0 (zI S a1 0)) (a1 + 1) (a0 + 1) 9) (a1 + 2) (a0 + 2) 36) a1 3)) a1 4)) a0 5 (zI (zwL (zwL (zcpI (zcpI (zwI S a0 0 (zI S a1 0)) (a1 + 1) (a0 + 1) 9) (a1 + 2) (a0 + 2) 36) a0 3 (zL (zcpI (zcpI (zwI S a0 0 (zI S a1 0)) (a1 + 1) (a0 + 1) 9) (a1 + 2) (a0 + 2) 36) a1 3)) a0 4 (zL (zwL (zcpI (zcpI (zwI S a0 0 (zI S a1 0)) (a1 + 1) (a0 + 1) 9) (a1 + 2) (a0 + 2) 36) a0 3 (zL (zcpI (zcpI (zwI S a0 0 (zI S a1 0)) (a1 + 1) (a0 + 1) 9) (a1 + 2) (a0 + 2) 36) a1 3)) a1 4)) a1 5)) a0 6 (zI (zwI (zwL (zwL (zcpI (zcpI (zwI S a0 0 (zI S a1 0)) (a1 + 1) (a0 + 1) 9) (a1 + 2) (a0 + 2) 36) a0 3 (zL (zcpI (zcpI (zwI S a0 0 (zI S a1 0)) (a1 + 1) (a0 + 1) 9) (a1 + 2) (a0 + 2) 36) a1 3)) a0 4 (zL (zwL (zcpI (zcpI (zwI S a0 0 (zI S a1 0)) (a1 + 1) (a0 + 1) 9) (a1 + 2) (a0 + 2) 36) a0 3 (zL (zcpI (zcpI (zwI S a0 0 (zI S a1 0)) (a1 + 1) (a0 + 1) 9) (a1 + 2) (a0 + 2) 36) a1 3)) a1 4)) a0 5 (zI (zwL (zwL (zcpI (zcpI (zwI S a0 0 (zI S a1 0)) (a1 + 1) (a0 + 1) 9) (a1 + 2) (a0 + 2) 36) a0 3 (zL (zcpI (zcpI (zwI S a0 0 (zI S a1 0)) (a1 + 1) (a0 + 1) 9) (a1 + 2) (a0 + 2) 36) a1 3)) a0 4 (zL (zwL (zcpI (zcpI (zwI S a0 0 (zI S a1 0)) (a1 + 1) (a0 + 1) 9) (a1 + 2) (a0 + 2) 36) a0 3 (zL (zcpI (zcpI (zwI S a0 0 (zI S a1 0)) (a1 + 1) (a0 + 1) 9) (a1 + 2) (a0 + 2) 36) a1 3)) a1 4)) a1 5)) a1 6)) a1 7)) a1 8)) a0 9 (zI (zwI (zwI (zwI (zwI (zwL (zwL (zcpI (zcpI (zwI S a0 0 (zI S a1 0)) (a1 + 1) (a0 + 1) 9) (a1 + 2) (a0 + 2) 36) a0 3 (zL (zcpI (zcpI (zwI S a0 0 (zI S a1 0)) (a1 + 1) (a0 + 1) 9) (a1 + 2) (a0 + 2) 36) a1 3)) a0 4 (zL (zwL (zcpI (zcpI (zwI S a0 0 (zI S a1 0)) (a1 + 1) (a0 + 1) 9) (a1 + 2) (a0 + 2) 36) a0 3 (zL (zcpI (zcpI (zwI S a0 0 (zI S a1 0)) (a1 + 1) (a0 + 1) 9) (a1 + 2) (a0 + 2) 36) a1 3)) a1 4)) a0 5 (zI (zwL (zwL (zcpI (zcpI (zwI S a0 0 (zI S a1 0)) (a1 + 1) (a0 + 1) 9) (a1 + 2) (a0 + 2) 36) a0 3 (zL (zcpI (zcpI (zwI S a0 0 (zI S a1 0)) (a1 + 1) (a0 + 1) 9) (a1 + 2) (a0 + 2) 36) a1 3)) a0 4 (zL (zwL (zcpI (zcpI (zwI S a0 0 (zI S a1 0)) (a1 + 1) (a0 + 1) 9) (a1 + 2) (a0 + 2) 36) a0 3 (zL (zcpI (zcpI (zwI S a0 0 (zI S a1 0)) (a1 + 1) (a0 + 1) 9) (a1 + 2) (a0 + 2) 36) a1 3)) a1 4)) a1 5)) a0 6 (zI (zwI (zwL (zwL (zcpI (zcpI (zwI S a0 0 (zI S a1 0)) (a1 + 1) (a0 + 1) 9) (a1 + 2) (a0 + 2) 36) a0 3 (zL (zcpI (zcpI (zwI S a0 0 (zI S a1 0)) (a1 + 1) (a0 + 1) 9) (a1 + 2) (a0 + 2) 36) a1 3)) a0 4 (zL (zwL (zcpI (zcpI (zwI S a0 0 (zI S a1 0)) (a1 + 1) (a0 + 1) 9) (a1 + 2) (a0 + 2) 36) a0 3 (zL (zcpI (zcpI (zwI S a0 0 (zI S a1 0)) (a1 + 1) (a0 + 1) 9) (a1 + 2) (a0 + 2) 36) a1 3)) a1 4)) a0 5 (zI (zwL (zwL (zcpI (zcpI (zwI S a0 0 (zI S a1 0)) (a1 + 1) (a0 + 1) 9) (a1 + 2) (a0 + 2) 36) a0 3 (zL (zcpI (zcpI (zwI S a0 0 (zI S a1 0)) (a1 + 1) (a0 + 1) 9) (a1 + 2) (a0 + 2) 36) a1 3)) a0 4 (zL (zwL (zcpI (zcpI (zwI S a0 0 (zI S a1 0)) (a1 + 1) (a0 + 1) 9) (a1 + 2) (a0 + 2) 36) a0 3 (zL (zcpI (zcpI (zwI S a0 0 (zI S a1 0)) (a1 + 1) (a0 + 1) 9) (a1 + 2) (a0 + 2) 36) a1 3)) a1 4)) a1 5)) a1 6)) a0 7 (zI (zwI (zwI (zwL (zwL (zcpI (zcpI (zwI S a0 0 (zI S a1 0)) (a1 + 1) (a0 + 1) 9) (a1 + 2) (a0 + 2) 36) a0 3 (zL (zcpI (zcpI (zwI S a0 0 (zI S a1 0)) (a1 + 1) (a0 + 1) 9) (a1 + 2) (a0 + 2) 36) a1 3)) a0 4 (zL (zwL (zcpI (zcpI (zwI S a0 0 (zI S a1 0)) (a1 + 1) (a0 + 1) 9) (a1 + 2) (a0 + 2) 36) a0 3 (zL (zcpI (zcpI (zwI S a0 0 (zI S a1 0)) (a1 + 1) (a0 + 1) 9) (a1 + 2) (a0 + 2) 36) a1 3)) a1 4)) a0 5 (zI (zwL (zwL (zcpI (zcpI (zwI S a0 0 (zI S a1 0)) (a1 + 1) (a0 + 1) 9) (a1 + 2) (a0 + 2) 36) a0 3 (zL (zcpI (zcpI (zwI S a0 0 (zI S a1 0)) (a1 + 1) (a0 + 1) 9) (a1 + 2) (a0 + 2) 36) a1 3)) a0 4 (zL (zwL (zcpI (zcpI (zwI S a0 0 (zI S a1 0)) (a1 + 1) (a0 + 1) 9) (a1 + 2) (a0 + 2) 36) a0 3 (zL (zcpI (zcpI (zwI S a0 0 (zI S a1 0)) (a1 + 1) (a0 + 1) 9) (a1 + 2) (a0 + 2) 36) a1 3)) a1 4)) a1 5)) a0 6 (zI (zwI (zwL (zwL (zcpI (zcpI (zwI S a0 0 (zI S a1 0)) (a1 + 1) (a0 + 1) 9) (a1 + 2) (a0 + 2) 36) a0 3 (zL (zcpI (zcpI (zwI S a0 0 (zI S a1 0)) (a1 + 1) (a0 + 1) 9) (a1 + 2) (a0 + 2) 36) a1 3)) a0 4 (zL (zwL (zcpI (zcpI (zwI S a0 0 (zI S a1 0)) (a1 + 1) (a0 + 1) 9) (a1 + 2) (a0 + 2) 36) a0 3 (zL (zcpI (zcpI (zwI S a0 0 (zI S a1 0)) (a1 + 1) (a0 + 1) 9) (a1 + 2) (a0 + 2) 36) a1 3)) a1 4)) a0 5 (zI (zwL (zwL (zcpI (zcpI (zwI S a0 0 (zI S a1 0)) (a1 + 1) (a0 + 1) 9) (a1 + 2) (a0 + 2) 36) a0 3 (zL (zcpI (zcpI (zwI S a0 0 (zI S a1 0)) (a1 + 1) (a0 + 1) 9) (a1 + 2) (a0 + 2) 36) a1 3)) a0 4 (zL (zwL (zcpI (zcpI (zwI S a0 0 (zI S a1 0)) (a1 + 1) (a0 + 1) 9) (a1 + 2) (a0 + 2) 36) a0 3 (zL (zcpI (zcpI (zwI S a0 0 (zI S a1 0)) (a1 + 1) (a0 + 1) 9) (a1 + 2) (a0 + 2) 36) a1 3)) a1 4)) a1 5)) a1 6)) a1 7)) a0 8 (zI (zwI (zwI (zwI (zwL (zwL (zcpI (zcpI (zwI S a0 0 (zI S a1 0)) (a1 + 1) (a0 + 1) 9) (a1 + 2) (a0 + 2) 36) a0 3 (zL (zcpI (zcpI (zwI S a0 0 (zI S a1 0)) (a1 + 1) (a0 + 1) 9) (a1 + 2) (a0 + 2) 36) a1 3)) a0 4 (zL (zwL (zcpI (zcpI (zwI S a0 0 (zI S a1 0)) (a1 + 1) (a0 + 1) 9) (a1 + 2) (a0 + 2) 36) a0 3 (zL (zcpI (zcpI (zwI S a0 0 (zI S a1 0)) (a1 + 1) (a0 + 1) 9) (a1 + 2) (a0 + 2) 36) a1 3)) a1 4)) a0 5 (zI (zwL (zwL (zcpI (zcpI (zwI S a0 0 (zI S a1 0)) (a1 + 1) (a0 + 1) 9) (a1 + 2) (a0 + 2) 36) a0 3 (zL (zcpI (zcpI (zwI S a0 0 (zI S a1 0)) (a1 + 1) (a0 + 1) 9) (a1 + 2) (a0 + 2) 36) a1 3)) a0 4 (zL (zwL (zcpI (zcpI (zwI S a0 0 (zI S a1 0)) (a1 + 1) (a0 + 1) 9) (a1 + 2) (a0 + 2) 36) a0 3 (zL (zcpI (zcpI (zwI S a0 0 (zI S a1 0)) (a1 + 1) (a0 + 1) 9) (a1 + 2) (a0 + 2) 36) a1 3)) a1 4)) a1 5)) a0 6 (zI (zwI (zwL (zwL (zcpI (zcpI (zwI S a0 0 (zI S a1 0)) (a1 + 1) (a0 + 1) 9) (a1 + 2) (a0 + 2) 36) a0 3 (zL (zcpI (zcpI (zwI S a0 0 (zI S a1 0)) (a1 + 1) (a0 + 1) 9) (a1 + 2) (a0 + 2) 36) a1 3)) a0 4 (zL (zwL (zcpI (zcpI (zwI S a0 0 (zI S a1 0)) (a1 + 1) (a0 + 1) 9) (a1 + 2) (a0 + 2) 36) a0 3 (zL (zcpI (zcpI (zwI S a0 0 (zI S a1 0)) (a1 + 1) (a0 + 1) 9) (a1 + 2) (a0 + 2) 36) a1 3)) a1 4)) a0 5 (zI (zwL (zwL (zcpI (zcpI (zwI S a0 0 (zI S a1 0)) (a1 + 1) (a0 + 1) 9) (a1 + 2) (a0 + 2) 36) a0 3 (zL (zcpI (zcpI (zwI S a0 0 (zI S a1 0)) (a1 + 1) (a0 + 1) 9) (a1 + 2) (a0 + 2) 36) a1 3)) a0 4 (zL (zwL (zcpI (zcpI (zwI S a0 0 (zI S a1 0)) (a1 + 1) (a0 + 1) 9) (a1 + 2) (a0 + 2) 36) a0 3 (zL (zcpI (zcpI (zwI S a0 0 (zI S a1 0)) (a1 + 1) (a0 + 1) 9) (a1 + 2) (a0 + 2) 36) a1 3)) a1 4)) a1 5)) a1 6)) a0 7 (zI (zwI (zwI (zwL (zwL (zcpI (zcpI (zwI S a0 0 (zI S a1 0)) (a1 + 1) (a0 + 1) 9) (a1 + 2) (a0 + 2) 36) a0 3 (zL (zcpI (zcpI (zwI S a0 0 (zI S a1 0)) (a1 + 1) (a0 + 1) 9) (a1 + 2) (a0 + 2) 36) a1 3)) a0 4 (zL (zwL (zcpI (zcpI (zwI S a0 0 (zI S a1 0)) (a1 + 1) (a0 + 1) 9) (a1 + 2) (a0 + 2) 36) a0 3 (zL (zcpI (zcpI (zwI S a0 0 (zI S a1 0)) (a1 + 1) (a0 + 1) 9) (a1 + 2) (a0 + 2) 36) a1 3)) a1 4)) a0 5 (zI (zwL (zwL (zcpI (zcpI (zwI S a0 0 (zI S a1 0)) (a1 + 1) (a0 + 1) 9) (a1 + 2) (a0 + 2) 36) a0 3 (zL (zcpI (zcpI (zwI S a0 0 (zI S a1 0)) (a1 + 1) (a0 + 1) 9) (a1 + 2) (a0 + 2) 36) a1 3)) a0 4 (zL (zwL (zcpI (zcpI (zwI S a0 0 (zI S a1 0)) (a1 + 1) (a0 + 1) 9) (a1 + 2) (a0 + 2) 36) a0 3 (zL (zcpI (zcpI (zwI S a0 0 (zI S a1 0)) (a1 + 1) (a0 + 1) 9) (a1 + 2) (a0 + 2) 36) a1 3)) a1 4)) a1 5)) a0 6 (zI (zwI (zwL (zwL (zcpI (zcpI (zwI S a0 0 (zI S a1 0)) (a1 + 1) (a0 + 1) 9) (a1 + 2) (a0 + 2) 36) a0 3 (zL (zcpI (zcpI (zwI S a0 0 (zI S a1 0)) (a1 + 1) (a0 + 1) 9) (a1 + 2) (a0 + 2) 36) a1 3)) a0 4 (zL (zwL (zcpI (zcpI (zwI S a0 0 (zI S a1 0)) (a1 + 1) (a0 + 1) 9) (a1 + 2) (a0 + 2) 36) a0 3 (zL (zcpI (zcpI (zwI S a0 0 (zI S a1 0)) (a1 + 1) (a0 + 1) 9) (a1 + 2) (a0 + 2) 36) a1 3)) a1 4)) a0 5 (zI (zwL (zwL (zcpI (zcpI (zwI S a0 0 (zI S a1 0)) (a1 + 1) (a0 + 1) 9) (a1 + 2) (a0 + 2) 36) a0 3 (zL (zcpI (zcpI (zwI S a0 0 (zI S a1 0)) (a1 + 1) (a0 + 1) 9) (a1 + 2) (a0 + 2) 36) a1 3)) a0 4 (zL (zwL (zcpI (zcpI (zwI S a0 0 (zI S a1 0)) (a1 + 1) (a0 + 1) 9) (a1 + 2) (a0 + 2) 36) a0 3 (zL (zcpI (zcpI (zwI S a0 0 (zI S a1 0)) (a1 + 1) (a0 + 1) 9) (a1 + 2) (a0 + 2) 36) a1 3)) a1 4)) a1 5)) a1 6)) a1 7)) a1 8)) a1 9)) (a1 + 3) (a0 + 3) 6) (a1 + 4) (a0 + 4) 6) a1 12))
set_option maxRecDepth 100000 in
set_option maxHeartbeats 4000000 in
theorem c_Ps_copyFrom_158 {p : Program} {l : Launch} {e : Env} {s : State} {m : MethodId} {args : Array Value} {below : List Frame} {meth : Method} {c : Code} {G : zG} (C : zC p s m args meth c G b_Ps_copyFrom 3 y_Ps_copyFrom.cls) (hret : meth.sig.returnType = none) {fu : Nat} {a0 : Nat} {a1 : Nat} {S1 : zSt} (ha0 : zK a0 = 5) (ga0 : a0 < zN0) (ha1 : zK a1 = 5) (ga1 : a1 < zN0) : ∀ (S : zSt) , f_Ps_copyFrom_158 fu a0 a1  S = some S1 → zJ p l e rm_Ps_copyFrom s m args below meth c G true 3 0 0 (zQm below G args s rm_Ps_copyFrom true none S1) S 158 [(0, zr (some a0)), (1, zr (some a1))] [] := by
  intro S h
  unfold f_Ps_copyFrom_158 at h
  refine z_aload_n C 0 rfl d_Ps_copyFrom_158 rfl ?_
  refine z_aload_n C 1 rfl d_Ps_copyFrom_159 rfl ?_
  refine z_getI C 5 (by decide) 14 (by decide) rfl (Or.inl ⟨rfl, ga1⟩) ha1 zfl_5_59 d_Ps_copyFrom_160 ?_
  refine z_putI C 5 (by decide) 14 (by decide) rfl (Or.inl rfl) (Or.inl ⟨rfl, ga0⟩) ha0 zfl_5_59 (Or.inl rfl) d_Ps_copyFrom_163 ?_
  cases h
  exact z_vret C hret ⟨Nat.zero_le _, Nat.zero_le _⟩ d_Ps_copyFrom_166
set_option maxRecDepth 100000 in
set_option maxHeartbeats 4000000 in
theorem c_Ps_copyFrom_134 {p : Program} {l : Launch} {e : Env} {s : State} {m : MethodId} {args : Array Value} {below : List Frame} {meth : Method} {c : Code} {G : zG} (C : zC p s m args meth c G b_Ps_copyFrom 3 y_Ps_copyFrom.cls) (hret : meth.sig.returnType = none) {fu : Nat} {a0 : Nat} {a1 : Nat} {S1 : zSt} (ha0 : zK a0 = 5) (ga0 : a0 < zN0) (ha1 : zK a1 = 5) (ga1 : a1 < zN0) : ∀ (n : Nat) (a2 : Int32) (S : zSt) , f_Ps_copyFrom_134 fu a0 a1 n a2 S = some S1 → zJ p l e rm_Ps_copyFrom s m args below meth c G true 3 0 0 (zQm below G args s rm_Ps_copyFrom true none S1) S 134 [(0, zr (some a0)), (1, zr (some a1)), (2, zi a2)] [] := by
  intro n
  induction n with
  | zero =>
    intro a2 S h
    cases h
  | succ n ih =>
    intro a2 S h
    rw [f_Ps_copyFrom_134] at h
    refine z_iload_n C 2 rfl d_Ps_copyFrom_134 rfl ?_
    refine z_bipush C (6 : Int32) (by decide) d_Ps_copyFrom_135 ?_
    rcases zite h with ⟨c1, h⟩ | ⟨c1, h⟩
    · refine z_icmp_get C 158 c1 d_Ps_copyFrom_137 (by decide) ?_
      refine zq_lsub [0, 1] [(0, zr (some a0)), (1, zr (some a1))] rfl ?_
      exact c_Ps_copyFrom_158 C hret ha0 ga0 ha1 ga1   S h
    · refine z_icmp_gef C 158 c1 d_Ps_copyFrom_137 (by decide) ?_
      refine z_aload_n C 0 rfl d_Ps_copyFrom_140 rfl ?_
      refine z_getF2 C 5 (by decide) 13 (by decide) rfl 5 6 rfl (a0 + 5) rfl (Or.inl ga0) ha0 zfl_5_55 d_Ps_copyFrom_141 ?_
      refine z_iload_n C 2 rfl d_Ps_copyFrom_144 rfl ?_
      refine z_aload_n C 1 rfl d_Ps_copyFrom_145 rfl ?_
      refine z_getF2 C 5 (by decide) 13 (by decide) rfl 5 6 rfl (a1 + 5) rfl (Or.inl ga1) ha1 zfl_5_55 d_Ps_copyFrom_146 ?_
      refine z_iload_n C 2 rfl d_Ps_copyFrom_149 rfl ?_
      refine z_fact (fun hSR => ?_)
      obtain ⟨g2, h⟩ := zgd_some h
      refine z_taloadS C (Or.inl ⟨rfl, (zko_5_5 ha1 ga1).1⟩) (zko_5_5 ha1 ga1).2 (zsa_5_5 hSR ha1 ga1) g2 d_Ps_copyFrom_150 ?_
      refine z_fact (fun hSR => ?_)
      obtain ⟨g3, h⟩ := zgd_some h
      obtain ⟨g4, h⟩ := zgt_some h
      refine z_tastoreS C (Or.inl ⟨rfl, (zko_5_5 ha0 ga0).1⟩) (zko_5_5 ha0 ga0).2 (zsa_5_5 hSR ha0 ga0) g3 g4 d_Ps_copyFrom_151 ?_
      refine z_iinc C 2 (a2 + (1 : Int32)) [(2, zi (a2 + (1 : Int32))), (0, zr (some a0)), (1, zr (some a1))] rfl d_Ps_copyFrom_152 (by first | rfl | decide) (by decide) rfl ?_
      refine z_goto C 134 d_Ps_copyFrom_155 (by decide) ?_
      refine zq_lsub [1, 2, 0] [(0, zr (some a0)), (1, zr (some a1)), (2, zi (a2 + (1 : Int32)))] rfl ?_
      exact ih (a2 + (1 : Int32)) (zwR S (a0 + 5) a2.toNatClampNeg (zR S (a1 + 5) a2.toNatClampNeg)) h
set_option maxRecDepth 100000 in
set_option maxHeartbeats 4000000 in
theorem m_Ps_copyFrom (l : Launch) {fu : Nat} {a0 : Nat} {a1 : Nat} {S : zSt} {S1 : zSt} (ha0 : zK a0 = 5) (ga0 : a0 < zN0) (ha1 : zK a1 = 5) (ga1 : a1 < zN0) (h : f_Ps_copyFrom fu a0 a1  S = some S1) : zPM l y_Ps_copyFrom b_Ps_copyFrom 3 none rm_Ps_copyFrom true true [zr (some a0), zr (some a1)] S none S1 := by
  refine zPM_of (by decide) (Nat.le_of_ble_eq_true rfl) (fun p e s m args below meth c G C hret hname => ?_)
  unfold f_Ps_copyFrom at h
  refine (?_ : zJ p l e rm_Ps_copyFrom s m args below meth c G true 3 0 0 (zQm below G args s rm_Ps_copyFrom true none S1) S 0 [(0, zr (some a0)), (1, zr (some a1))] [])
  refine z_aload_n C 0 rfl d_Ps_copyFrom_0 rfl ?_
  refine z_aload_n C 1 rfl d_Ps_copyFrom_1 rfl ?_
  refine z_getI C 5 (by decide) 0 (by decide) rfl (Or.inl ⟨rfl, ga1⟩) ha1 zfl_5_9 d_Ps_copyFrom_2 ?_
  refine z_putI C 5 (by decide) 0 (by decide) rfl (Or.inl rfl) (Or.inl ⟨rfl, ga0⟩) ha0 zfl_5_9 (Or.inl rfl) d_Ps_copyFrom_5 ?_
  refine z_aload_n C 1 rfl d_Ps_copyFrom_8 rfl ?_
  refine z_getF2 C 5 (by decide) 1 (by decide) rfl 1 9 rfl (a1 + 1) rfl (Or.inl ga1) ha1 zfl_5_15 d_Ps_copyFrom_9 ?_
  refine z_iconst C (0 : Int32) (by decide) d_Ps_copyFrom_12 ?_
  refine z_aload_n C 0 rfl d_Ps_copyFrom_13 rfl ?_
  refine z_getF2 C 5 (by decide) 1 (by decide) rfl 1 9 rfl (a0 + 1) rfl (Or.inl ga0) ha0 zfl_5_15 d_Ps_copyFrom_14 ?_
  refine z_iconst C (0 : Int32) (by decide) d_Ps_copyFrom_17 ?_
  refine z_bipush C (9 : Int32) (by decide) d_Ps_copyFrom_18 ?_
  refine z_fact (fun hSR => ?_)
  refine z_copyI C 9 (Or.inl ⟨rfl, (zko_5_1 ha1 ga1).1⟩) (zko_5_1 ha1 ga1).2 (zsa_5_1 hSR ha1 ga1) (Or.inl ⟨rfl, (zko_5_1 ha0 ga0).1⟩) (zko_5_1 ha0 ga0).2 (zsa_5_1 hSR ha0 ga0) (by decide) ⟨by decide, by decide⟩ (Nat.le_of_ble_eq_true rfl) lk_5_66 d_Ps_copyFrom_20 ?_
  refine z_aload_n C 1 rfl d_Ps_copyFrom_23 rfl ?_
  refine z_getF2 C 5 (by decide) 2 (by decide) rfl 2 36 rfl (a1 + 2) rfl (Or.inl ga1) ha1 zfl_5_19 d_Ps_copyFrom_24 ?_
  refine z_iconst C (0 : Int32) (by decide) d_Ps_copyFrom_27 ?_
  refine z_aload_n C 0 rfl d_Ps_copyFrom_28 rfl ?_
  refine z_getF2 C 5 (by decide) 2 (by decide) rfl 2 36 rfl (a0 + 2) rfl (Or.inl ga0) ha0 zfl_5_19 d_Ps_copyFrom_29 ?_
  refine z_iconst C (0 : Int32) (by decide) d_Ps_copyFrom_32 ?_
  refine z_bipush C (36 : Int32) (by decide) d_Ps_copyFrom_33 ?_
  refine z_fact (fun hSR => ?_)
  refine z_copyI C 36 (Or.inl ⟨rfl, (zko_5_2 ha1 ga1).1⟩) (zko_5_2 ha1 ga1).2 (zsa_5_2 hSR ha1 ga1) (Or.inl ⟨rfl, (zko_5_2 ha0 ga0).1⟩) (zko_5_2 ha0 ga0).2 (zsa_5_2 hSR ha0 ga0) (by decide) ⟨by decide, by decide⟩ (Nat.le_of_ble_eq_true rfl) lk_5_66 d_Ps_copyFrom_35 ?_
  refine z_aload_n C 0 rfl d_Ps_copyFrom_38 rfl ?_
  refine z_aload_n C 1 rfl d_Ps_copyFrom_39 rfl ?_
  refine z_getL C 5 (by decide) 3 (by decide) rfl (Or.inl ⟨rfl, ga1⟩) ha1 zfl_5_22 d_Ps_copyFrom_40 ?_
  refine z_putL C 5 (by decide) 3 (by decide) rfl (Or.inl ⟨rfl, ga0⟩) ha0 zfl_5_22 (Or.inl rfl) d_Ps_copyFrom_43 ?_
  refine z_aload_n C 0 rfl d_Ps_copyFrom_46 rfl ?_
  refine z_aload_n C 1 rfl d_Ps_copyFrom_47 rfl ?_
  refine z_getL C 5 (by decide) 4 (by decide) rfl (Or.inl ⟨rfl, ga1⟩) ha1 zfl_5_26 d_Ps_copyFrom_48 ?_
  refine z_putL C 5 (by decide) 4 (by decide) rfl (Or.inl ⟨rfl, ga0⟩) ha0 zfl_5_26 (Or.inl rfl) d_Ps_copyFrom_51 ?_
  refine z_aload_n C 0 rfl d_Ps_copyFrom_54 rfl ?_
  refine z_aload_n C 1 rfl d_Ps_copyFrom_55 rfl ?_
  refine z_getI C 5 (by decide) 5 (by decide) rfl (Or.inl ⟨rfl, ga1⟩) ha1 zfl_5_29 d_Ps_copyFrom_56 ?_
  refine z_putI C 5 (by decide) 5 (by decide) rfl (Or.inl rfl) (Or.inl ⟨rfl, ga0⟩) ha0 zfl_5_29 (Or.inl rfl) d_Ps_copyFrom_59 ?_
  refine z_aload_n C 0 rfl d_Ps_copyFrom_62 rfl ?_
  refine z_aload_n C 1 rfl d_Ps_copyFrom_63 rfl ?_
  refine z_getI C 5 (by decide) 6 (by decide) rfl (Or.inl ⟨rfl, ga1⟩) ha1 zfl_5_32 d_Ps_copyFrom_64 ?_
  refine z_putI C 5 (by decide) 6 (by decide) rfl (Or.inl rfl) (Or.inl ⟨rfl, ga0⟩) ha0 zfl_5_32 (Or.inl rfl) d_Ps_copyFrom_67 ?_
  refine z_aload_n C 0 rfl d_Ps_copyFrom_70 rfl ?_
  refine z_aload_n C 1 rfl d_Ps_copyFrom_71 rfl ?_
  refine z_getI C 5 (by decide) 7 (by decide) rfl (Or.inl ⟨rfl, ga1⟩) ha1 zfl_5_35 d_Ps_copyFrom_72 ?_
  refine z_putI C 5 (by decide) 7 (by decide) rfl (Or.inl rfl) (Or.inl ⟨rfl, ga0⟩) ha0 zfl_5_35 (Or.inl rfl) d_Ps_copyFrom_75 ?_
  refine z_aload_n C 0 rfl d_Ps_copyFrom_78 rfl ?_
  refine z_aload_n C 1 rfl d_Ps_copyFrom_79 rfl ?_
  refine z_getI C 5 (by decide) 8 (by decide) rfl (Or.inl ⟨rfl, ga1⟩) ha1 zfl_5_38 d_Ps_copyFrom_80 ?_
  refine z_putI C 5 (by decide) 8 (by decide) rfl (Or.inl rfl) (Or.inl ⟨rfl, ga0⟩) ha0 zfl_5_38 (Or.inl rfl) d_Ps_copyFrom_83 ?_
  refine z_aload_n C 0 rfl d_Ps_copyFrom_86 rfl ?_
  refine z_aload_n C 1 rfl d_Ps_copyFrom_87 rfl ?_
  refine z_getI C 5 (by decide) 9 (by decide) rfl (Or.inl ⟨rfl, ga1⟩) ha1 zfl_5_41 d_Ps_copyFrom_88 ?_
  refine z_putI C 5 (by decide) 9 (by decide) rfl (Or.inl rfl) (Or.inl ⟨rfl, ga0⟩) ha0 zfl_5_41 (Or.inl rfl) d_Ps_copyFrom_91 ?_
  refine z_aload_n C 1 rfl d_Ps_copyFrom_94 rfl ?_
  refine z_getF2 C 5 (by decide) 10 (by decide) rfl 3 6 rfl (a1 + 3) rfl (Or.inl ga1) ha1 zfl_5_44 d_Ps_copyFrom_95 ?_
  refine z_iconst C (0 : Int32) (by decide) d_Ps_copyFrom_98 ?_
  refine z_aload_n C 0 rfl d_Ps_copyFrom_99 rfl ?_
  refine z_getF2 C 5 (by decide) 10 (by decide) rfl 3 6 rfl (a0 + 3) rfl (Or.inl ga0) ha0 zfl_5_44 d_Ps_copyFrom_100 ?_
  refine z_iconst C (0 : Int32) (by decide) d_Ps_copyFrom_103 ?_
  refine z_bipush C (6 : Int32) (by decide) d_Ps_copyFrom_104 ?_
  refine z_fact (fun hSR => ?_)
  refine z_copyI C 6 (Or.inl ⟨rfl, (zko_5_3 ha1 ga1).1⟩) (zko_5_3 ha1 ga1).2 (zsa_5_3 hSR ha1 ga1) (Or.inl ⟨rfl, (zko_5_3 ha0 ga0).1⟩) (zko_5_3 ha0 ga0).2 (zsa_5_3 hSR ha0 ga0) (by decide) ⟨by decide, by decide⟩ (Nat.le_of_ble_eq_true rfl) lk_5_66 d_Ps_copyFrom_106 ?_
  refine z_aload_n C 1 rfl d_Ps_copyFrom_109 rfl ?_
  refine z_getF2 C 5 (by decide) 11 (by decide) rfl 4 6 rfl (a1 + 4) rfl (Or.inl ga1) ha1 zfl_5_47 d_Ps_copyFrom_110 ?_
  refine z_iconst C (0 : Int32) (by decide) d_Ps_copyFrom_113 ?_
  refine z_aload_n C 0 rfl d_Ps_copyFrom_114 rfl ?_
  refine z_getF2 C 5 (by decide) 11 (by decide) rfl 4 6 rfl (a0 + 4) rfl (Or.inl ga0) ha0 zfl_5_47 d_Ps_copyFrom_115 ?_
  refine z_iconst C (0 : Int32) (by decide) d_Ps_copyFrom_118 ?_
  refine z_bipush C (6 : Int32) (by decide) d_Ps_copyFrom_119 ?_
  refine z_fact (fun hSR => ?_)
  refine z_copyI C 6 (Or.inl ⟨rfl, (zko_5_4 ha1 ga1).1⟩) (zko_5_4 ha1 ga1).2 (zsa_5_4 hSR ha1 ga1) (Or.inl ⟨rfl, (zko_5_4 ha0 ga0).1⟩) (zko_5_4 ha0 ga0).2 (zsa_5_4 hSR ha0 ga0) (by decide) ⟨by decide, by decide⟩ (Nat.le_of_ble_eq_true rfl) lk_5_66 d_Ps_copyFrom_121 ?_
  refine z_aload_n C 0 rfl d_Ps_copyFrom_124 rfl ?_
  refine z_aload_n C 1 rfl d_Ps_copyFrom_125 rfl ?_
  refine z_getI C 5 (by decide) 12 (by decide) rfl (Or.inl ⟨rfl, ga1⟩) ha1 zfl_5_50 d_Ps_copyFrom_126 ?_
  refine z_putI C 5 (by decide) 12 (by decide) rfl (Or.inl rfl) (Or.inl ⟨rfl, ga0⟩) ha0 zfl_5_50 (Or.inl rfl) d_Ps_copyFrom_129 ?_
  refine z_iconst C (0 : Int32) (by decide) d_Ps_copyFrom_132 ?_
  refine z_istore_n C [(2, zi (0 : Int32)), (0, zr (some a0)), (1, zr (some a1))] d_Ps_copyFrom_133 rfl (by decide) rfl ?_
  refine zq_lsub [1, 2, 0] [(0, zr (some a0)), (1, zr (some a1)), (2, zi (0 : Int32))] rfl ?_
  exact c_Ps_copyFrom_134 C hret ha0 ga0 ha1 ga1 fu  (0 : Int32) (zwI (zcpI (zcpI (zwI (zwI (zwI (zwI (zwI (zwL (zwL (zcpI (zcpI (zwI S a0 0 (zI S a1 0)) (a1 + 1) (a0 + 1) 9) (a1 + 2) (a0 + 2) 36) a0 3 (zL (zcpI (zcpI (zwI S a0 0 (zI S a1 0)) (a1 + 1) (a0 + 1) 9) (a1 + 2) (a0 + 2) 36) a1 3)) a0 4 (zL (zwL (zcpI (zcpI (zwI S a0 0 (zI S a1 0)) (a1 + 1) (a0 + 1) 9) (a1 + 2) (a0 + 2) 36) a0 3 (zL (zcpI (zcpI (zwI S a0 0 (zI S a1 0)) (a1 + 1) (a0 + 1) 9) (a1 + 2) (a0 + 2) 36) a1 3)) a1 4)) a0 5 (zI (zwL (zwL (zcpI (zcpI (zwI S a0 0 (zI S a1 0)) (a1 + 1) (a0 + 1) 9) (a1 + 2) (a0 + 2) 36) a0 3 (zL (zcpI (zcpI (zwI S a0 0 (zI S a1 0)) (a1 + 1) (a0 + 1) 9) (a1 + 2) (a0 + 2) 36) a1 3)) a0 4 (zL (zwL (zcpI (zcpI (zwI S a0 0 (zI S a1 0)) (a1 + 1) (a0 + 1) 9) (a1 + 2) (a0 + 2) 36) a0 3 (zL (zcpI (zcpI (zwI S a0 0 (zI S a1 0)) (a1 + 1) (a0 + 1) 9) (a1 + 2) (a0 + 2) 36) a1 3)) a1 4)) a1 5)) a0 6 (zI (zwI (zwL (zwL (zcpI (zcpI (zwI S a0 0 (zI S a1 0)) (a1 + 1) (a0 + 1) 9) (a1 + 2) (a0 + 2) 36) a0 3 (zL (zcpI (zcpI (zwI S a0 0 (zI S a1 0)) (a1 + 1) (a0 + 1) 9) (a1 + 2) (a0 + 2) 36) a1 3)) a0 4 (zL (zwL (zcpI (zcpI (zwI S a0 0 (zI S a1 0)) (a1 + 1) (a0 + 1) 9) (a1 + 2) (a0 + 2) 36) a0 3 (zL (zcpI (zcpI (zwI S a0 0 (zI S a1 0)) (a1 + 1) (a0 + 1) 9) (a1 + 2) (a0 + 2) 36) a1 3)) a1 4)) a0 5 (zI (zwL (zwL (zcpI (zcpI (zwI S a0 0 (zI S a1 0)) (a1 + 1) (a0 + 1) 9) (a1 + 2) (a0 + 2) 36) a0 3 (zL (zcpI (zcpI (zwI S a0 0 (zI S a1 0)) (a1 + 1) (a0 + 1) 9) (a1 + 2) (a0 + 2) 36) a1 3)) a0 4 (zL (zwL (zcpI (zcpI (zwI S a0 0 (zI S a1 0)) (a1 + 1) (a0 + 1) 9) (a1 + 2) (a0 + 2) 36) a0 3 (zL (zcpI (zcpI (zwI S a0 0 (zI S a1 0)) (a1 + 1) (a0 + 1) 9) (a1 + 2) (a0 + 2) 36) a1 3)) a1 4)) a1 5)) a1 6)) a0 7 (zI (zwI (zwI (zwL (zwL (zcpI (zcpI (zwI S a0 0 (zI S a1 0)) (a1 + 1) (a0 + 1) 9) (a1 + 2) (a0 + 2) 36) a0 3 (zL (zcpI (zcpI (zwI S a0 0 (zI S a1 0)) (a1 + 1) (a0 + 1) 9) (a1 + 2) (a0 + 2) 36) a1 3)) a0 4 (zL (zwL (zcpI (zcpI (zwI S a0 0 (zI S a1 0)) (a1 + 1) (a0 + 1) 9) (a1 + 2) (a0 + 2) 36) a0 3 (zL (zcpI (zcpI (zwI S a0 0 (zI S a1 0)) (a1 + 1) (a0 + 1) 9) (a1 + 2) (a0 + 2) 36) a1 3)) a1 4)) a0 5 (zI (zwL (zwL (zcpI (zcpI (zwI S a0 0 (zI S a1 0)) (a1 + 1) (a0 + 1) 9) (a1 + 2) (a0 + 2) 36) a0 3 (zL (zcpI (zcpI (zwI S a0 0 (zI S a1 0)) (a1 + 1) (a0 + 1) 9) (a1 + 2) (a0 + 2) 36) a1 3)) a0 4 (zL (zwL (zcpI (zcpI (zwI S a0 0 (zI S a1 0)) (a1 + 1) (a0 + 1) 9) (a1 + 2) (a0 + 2) 36) a0 3 (zL (zcpI (zcpI (zwI S a0 0 (zI S a1 0)) (a1 + 1) (a0 + 1) 9) (a1 + 2) (a0 + 2) 36) a1 3)) a1 4)) a1 5)) a0 6 (zI (zwI (zwL (zwL (zcpI (zcpI (zwI S a0 0 (zI S a1 0)) (a1 + 1) (a0 + 1) 9) (a1 + 2) (a0 + 2) 36) a0 3 (zL (zcpI (zcpI (zwI S a0 0 (zI S a1 0)) (a1 + 1) (a0 + 1) 9) (a1 + 2) (a0 + 2) 36) a1 3)) a0 4 (zL (zwL (zcpI (zcpI (zwI S a0 0 (zI S a1 0)) (a1 + 1) (a0 + 1) 9) (a1 + 2) (a0 + 2) 36) a0 3 (zL (zcpI (zcpI (zwI S a0 0 (zI S a1 0)) (a1 + 1) (a0 + 1) 9) (a1 + 2) (a0 + 2) 36) a1 3)) a1 4)) a0 5 (zI (zwL (zwL (zcpI (zcpI (zwI S a0 0 (zI S a1 0)) (a1 + 1) (a0 + 1) 9) (a1 + 2) (a0 + 2) 36) a0 3 (zL (zcpI (zcpI (zwI S a0 0 (zI S a1 0)) (a1 + 1) (a0 + 1) 9) (a1 + 2) (a0 + 2) 36) a1 3)) a0 4 (zL (zwL (zcpI (zcpI (zwI S a0 0 (zI S a1 0)) (a1 + 1) (a0 + 1) 9) (a1 + 2) (a0 + 2) 36) a0 3 (zL (zcpI (zcpI (zwI S a0 0 (zI S a1 0)) (a1 + 1) (a0 + 1) 9) (a1 + 2) (a0 + 2) 36) a1 3)) a1 4)) a1 5)) a1 6)) a1 7)) a0 8 (zI (zwI (zwI (zwI (zwL (zwL (zcpI (zcpI (zwI S a0 0 (zI S a1 0)) (a1 + 1) (a0 + 1) 9) (a1 + 2) (a0 + 2) 36) a0 3 (zL (zcpI (zcpI (zwI S a0 0 (zI S a1 0)) (a1 + 1) (a0 + 1) 9) (a1 + 2) (a0 + 2) 36) a1 3)) a0 4 (zL (zwL (zcpI (zcpI (zwI S a0 0 (zI S a1 0)) (a1 + 1) (a0 + 1) 9) (a1 + 2) (a0 + 2) 36) a0 3 (zL (zcpI (zcpI (zwI S a0 0 (zI S a1 0)) (a1 + 1) (a0 + 1) 9) (a1 + 2) (a0 + 2) 36) a1 3)) a1 4)) a0 5 (zI (zwL (zwL (zcpI (zcpI (zwI S a0 0 (zI S a1 0)) (a1 + 1) (a0 + 1) 9) (a1 + 2) (a0 + 2) 36) a0 3 (zL (zcpI (zcpI (zwI S a0 0 (zI S a1 0)) (a1 + 1) (a0 + 1) 9) (a1 + 2) (a0 + 2) 36) a1 3)) a0 4 (zL (zwL (zcpI (zcpI (zwI S a0 0 (zI S a1 0)) (a1 + 1) (a0 + 1) 9) (a1 + 2) (a0 + 2) 36) a0 3 (zL (zcpI (zcpI (zwI S a0 0 (zI S a1 0)) (a1 + 1) (a0 + 1) 9) (a1 + 2) (a0 + 2) 36) a1 3)) a1 4)) a1 5)) a0 6 (zI (zwI (zwL (zwL (zcpI (zcpI (zwI S a0 0 (zI S a1 0)) (a1 + 1) (a0 + 1) 9) (a1 + 2) (a0 + 2) 36) a0 3 (zL (zcpI (zcpI (zwI S a0 0 (zI S a1 0)) (a1 + 1) (a0 + 1) 9) (a1 + 2) (a0 + 2) 36) a1 3)) a0 4 (zL (zwL (zcpI (zcpI (zwI S a0 0 (zI S a1 0)) (a1 + 1) (a0 + 1) 9) (a1 + 2) (a0 + 2) 36) a0 3 (zL (zcpI (zcpI (zwI S a0 0 (zI S a1 0)) (a1 + 1) (a0 + 1) 9) (a1 + 2) (a0 + 2) 36) a1 3)) a1 4)) a0 5 (zI (zwL (zwL (zcpI (zcpI (zwI S a0 0 (zI S a1 0)) (a1 + 1) (a0 + 1) 9) (a1 + 2) (a0 + 2) 36) a0 3 (zL (zcpI (zcpI (zwI S a0 0 (zI S a1 0)) (a1 + 1) (a0 + 1) 9) (a1 + 2) (a0 + 2) 36) a1 3)) a0 4 (zL (zwL (zcpI (zcpI (zwI S a0 0 (zI S a1 0)) (a1 + 1) (a0 + 1) 9) (a1 + 2) (a0 + 2) 36) a0 3 (zL (zcpI (zcpI (zwI S a0 0 (zI S a1 0)) (a1 + 1) (a0 + 1) 9) (a1 + 2) (a0 + 2) 36) a1 3)) a1 4)) a1 5)) a1 6)) a0 7 (zI (zwI (zwI (zwL (zwL (zcpI (zcpI (zwI S a0 0 (zI S a1 0)) (a1 + 1) (a0 + 1) 9) (a1 + 2) (a0 + 2) 36) a0 3 (zL (zcpI (zcpI (zwI S a0 0 (zI S a1 0)) (a1 + 1) (a0 + 1) 9) (a1 + 2) (a0 + 2) 36) a1 3)) a0 4 (zL (zwL (zcpI (zcpI (zwI S a0 0 (zI S a1 0)) (a1 + 1) (a0 + 1) 9) (a1 + 2) (a0 + 2) 36) a0 3 (zL (zcpI (zcpI (zwI S a0 0 (zI S a1 0)) (a1 + 1) (a0 + 1) 9) (a1 + 2) (a0 + 2) 36) a1 3)) a1 4)) a0 5 (zI (zwL (zwL (zcpI (zcpI (zwI S a0 0 (zI S a1 0)) (a1 + 1) (a0 + 1) 9) (a1 + 2) (a0 + 2) 36) a0 3 (zL (zcpI (zcpI (zwI S a0 0 (zI S a1 0)) (a1 + 1) (a0 + 1) 9) (a1 + 2) (a0 + 2) 36) a1 3)) a0 4 (zL (zwL (zcpI (zcpI (zwI S a0 0 (zI S a1 0)) (a1 + 1) (a0 + 1) 9) (a1 + 2) (a0 + 2) 36) a0 3 (zL (zcpI (zcpI (zwI S a0 0 (zI S a1 0)) (a1 + 1) (a0 + 1) 9) (a1 + 2) (a0 + 2) 36) a1 3)) a1 4)) a1 5)) a0 6 (zI (zwI (zwL (zwL (zcpI (zcpI (zwI S a0 0 (zI S a1 0)) (a1 + 1) (a0 + 1) 9) (a1 + 2) (a0 + 2) 36) a0 3 (zL (zcpI (zcpI (zwI S a0 0 (zI S a1 0)) (a1 + 1) (a0 + 1) 9) (a1 + 2) (a0 + 2) 36) a1 3)) a0 4 (zL (zwL (zcpI (zcpI (zwI S a0 0 (zI S a1 0)) (a1 + 1) (a0 + 1) 9) (a1 + 2) (a0 + 2) 36) a0 3 (zL (zcpI (zcpI (zwI S a0 0 (zI S a1 0)) (a1 + 1) (a0 + 1) 9) (a1 + 2) (a0 + 2) 36) a1 3)) a1 4)) a0 5 (zI (zwL (zwL (zcpI (zcpI (zwI S a0 0 (zI S a1 0)) (a1 + 1) (a0 + 1) 9) (a1 + 2) (a0 + 2) 36) a0 3 (zL (zcpI (zcpI (zwI S a0 0 (zI S a1 0)) (a1 + 1) (a0 + 1) 9) (a1 + 2) (a0 + 2) 36) a1 3)) a0 4 (zL (zwL (zcpI (zcpI (zwI S a0 0 (zI S a1 0)) (a1 + 1) (a0 + 1) 9) (a1 + 2) (a0 + 2) 36) a0 3 (zL (zcpI (zcpI (zwI S a0 0 (zI S a1 0)) (a1 + 1) (a0 + 1) 9) (a1 + 2) (a0 + 2) 36) a1 3)) a1 4)) a1 5)) a1 6)) a1 7)) a1 8)) a0 9 (zI (zwI (zwI (zwI (zwI (zwL (zwL (zcpI (zcpI (zwI S a0 0 (zI S a1 0)) (a1 + 1) (a0 + 1) 9) (a1 + 2) (a0 + 2) 36) a0 3 (zL (zcpI (zcpI (zwI S a0 0 (zI S a1 0)) (a1 + 1) (a0 + 1) 9) (a1 + 2) (a0 + 2) 36) a1 3)) a0 4 (zL (zwL (zcpI (zcpI (zwI S a0 0 (zI S a1 0)) (a1 + 1) (a0 + 1) 9) (a1 + 2) (a0 + 2) 36) a0 3 (zL (zcpI (zcpI (zwI S a0 0 (zI S a1 0)) (a1 + 1) (a0 + 1) 9) (a1 + 2) (a0 + 2) 36) a1 3)) a1 4)) a0 5 (zI (zwL (zwL (zcpI (zcpI (zwI S a0 0 (zI S a1 0)) (a1 + 1) (a0 + 1) 9) (a1 + 2) (a0 + 2) 36) a0 3 (zL (zcpI (zcpI (zwI S a0 0 (zI S a1 0)) (a1 + 1) (a0 + 1) 9) (a1 + 2) (a0 + 2) 36) a1 3)) a0 4 (zL (zwL (zcpI (zcpI (zwI S a0 0 (zI S a1 0)) (a1 + 1) (a0 + 1) 9) (a1 + 2) (a0 + 2) 36) a0 3 (zL (zcpI (zcpI (zwI S a0 0 (zI S a1 0)) (a1 + 1) (a0 + 1) 9) (a1 + 2) (a0 + 2) 36) a1 3)) a1 4)) a1 5)) a0 6 (zI (zwI (zwL (zwL (zcpI (zcpI (zwI S a0 0 (zI S a1 0)) (a1 + 1) (a0 + 1) 9) (a1 + 2) (a0 + 2) 36) a0 3 (zL (zcpI (zcpI (zwI S a0 0 (zI S a1 0)) (a1 + 1) (a0 + 1) 9) (a1 + 2) (a0 + 2) 36) a1 3)) a0 4 (zL (zwL (zcpI (zcpI (zwI S a0 0 (zI S a1 0)) (a1 + 1) (a0 + 1) 9) (a1 + 2) (a0 + 2) 36) a0 3 (zL (zcpI (zcpI (zwI S a0 0 (zI S a1 0)) (a1 + 1) (a0 + 1) 9) (a1 + 2) (a0 + 2) 36) a1 3)) a1 4)) a0 5 (zI (zwL (zwL (zcpI (zcpI (zwI S a0 0 (zI S a1 0)) (a1 + 1) (a0 + 1) 9) (a1 + 2) (a0 + 2) 36) a0 3 (zL (zcpI (zcpI (zwI S a0 0 (zI S a1 0)) (a1 + 1) (a0 + 1) 9) (a1 + 2) (a0 + 2) 36) a1 3)) a0 4 (zL (zwL (zcpI (zcpI (zwI S a0 0 (zI S a1 0)) (a1 + 1) (a0 + 1) 9) (a1 + 2) (a0 + 2) 36) a0 3 (zL (zcpI (zcpI (zwI S a0 0 (zI S a1 0)) (a1 + 1) (a0 + 1) 9) (a1 + 2) (a0 + 2) 36) a1 3)) a1 4)) a1 5)) a1 6)) a0 7 (zI (zwI (zwI (zwL (zwL (zcpI (zcpI (zwI S a0 0 (zI S a1 0)) (a1 + 1) (a0 + 1) 9) (a1 + 2) (a0 + 2) 36) a0 3 (zL (zcpI (zcpI (zwI S a0 0 (zI S a1 0)) (a1 + 1) (a0 + 1) 9) (a1 + 2) (a0 + 2) 36) a1 3)) a0 4 (zL (zwL (zcpI (zcpI (zwI S a0 0 (zI S a1 0)) (a1 + 1) (a0 + 1) 9) (a1 + 2) (a0 + 2) 36) a0 3 (zL (zcpI (zcpI (zwI S a0 0 (zI S a1 0)) (a1 + 1) (a0 + 1) 9) (a1 + 2) (a0 + 2) 36) a1 3)) a1 4)) a0 5 (zI (zwL (zwL (zcpI (zcpI (zwI S a0 0 (zI S a1 0)) (a1 + 1) (a0 + 1) 9) (a1 + 2) (a0 + 2) 36) a0 3 (zL (zcpI (zcpI (zwI S a0 0 (zI S a1 0)) (a1 + 1) (a0 + 1) 9) (a1 + 2) (a0 + 2) 36) a1 3)) a0 4 (zL (zwL (zcpI (zcpI (zwI S a0 0 (zI S a1 0)) (a1 + 1) (a0 + 1) 9) (a1 + 2) (a0 + 2) 36) a0 3 (zL (zcpI (zcpI (zwI S a0 0 (zI S a1 0)) (a1 + 1) (a0 + 1) 9) (a1 + 2) (a0 + 2) 36) a1 3)) a1 4)) a1 5)) a0 6 (zI (zwI (zwL (zwL (zcpI (zcpI (zwI S a0 0 (zI S a1 0)) (a1 + 1) (a0 + 1) 9) (a1 + 2) (a0 + 2) 36) a0 3 (zL (zcpI (zcpI (zwI S a0 0 (zI S a1 0)) (a1 + 1) (a0 + 1) 9) (a1 + 2) (a0 + 2) 36) a1 3)) a0 4 (zL (zwL (zcpI (zcpI (zwI S a0 0 (zI S a1 0)) (a1 + 1) (a0 + 1) 9) (a1 + 2) (a0 + 2) 36) a0 3 (zL (zcpI (zcpI (zwI S a0 0 (zI S a1 0)) (a1 + 1) (a0 + 1) 9) (a1 + 2) (a0 + 2) 36) a1 3)) a1 4)) a0 5 (zI (zwL (zwL (zcpI (zcpI (zwI S a0 0 (zI S a1 0)) (a1 + 1) (a0 + 1) 9) (a1 + 2) (a0 + 2) 36) a0 3 (zL (zcpI (zcpI (zwI S a0 0 (zI S a1 0)) (a1 + 1) (a0 + 1) 9) (a1 + 2) (a0 + 2) 36) a1 3)) a0 4 (zL (zwL (zcpI (zcpI (zwI S a0 0 (zI S a1 0)) (a1 + 1) (a0 + 1) 9) (a1 + 2) (a0 + 2) 36) a0 3 (zL (zcpI (zcpI (zwI S a0 0 (zI S a1 0)) (a1 + 1) (a0 + 1) 9) (a1 + 2) (a0 + 2) 36) a1 3)) a1 4)) a1 5)) a1 6)) a1 7)) a0 8 (zI (zwI (zwI (zwI (zwL (zwL (zcpI (zcpI (zwI S a0 0 (zI S a1 0)) (a1 + 1) (a0 + 1) 9) (a1 + 2) (a0 + 2) 36) a0 3 (zL (zcpI (zcpI (zwI S a0 0 (zI S a1 0)) (a1 + 1) (a0 + 1) 9) (a1 + 2) (a0 + 2) 36) a1 3)) a0 4 (zL (zwL (zcpI (zcpI (zwI S a0 0 (zI S a1 0)) (a1 + 1) (a0 + 1) 9) (a1 + 2) (a0 + 2) 36) a0 3 (zL (zcpI (zcpI (zwI S a0 0 (zI S a1 0)) (a1 + 1) (a0 + 1) 9) (a1 + 2) (a0 + 2) 36) a1 3)) a1 4)) a0 5 (zI (zwL (zwL (zcpI (zcpI (zwI S a0 0 (zI S a1 0)) (a1 + 1) (a0 + 1) 9) (a1 + 2) (a0 + 2) 36) a0 3 (zL (zcpI (zcpI (zwI S a0 0 (zI S a1 0)) (a1 + 1) (a0 + 1) 9) (a1 + 2) (a0 + 2) 36) a1 3)) a0 4 (zL (zwL (zcpI (zcpI (zwI S a0 0 (zI S a1 0)) (a1 + 1) (a0 + 1) 9) (a1 + 2) (a0 + 2) 36) a0 3 (zL (zcpI (zcpI (zwI S a0 0 (zI S a1 0)) (a1 + 1) (a0 + 1) 9) (a1 + 2) (a0 + 2) 36) a1 3)) a1 4)) a1 5)) a0 6 (zI (zwI (zwL (zwL (zcpI (zcpI (zwI S a0 0 (zI S a1 0)) (a1 + 1) (a0 + 1) 9) (a1 + 2) (a0 + 2) 36) a0 3 (zL (zcpI (zcpI (zwI S a0 0 (zI S a1 0)) (a1 + 1) (a0 + 1) 9) (a1 + 2) (a0 + 2) 36) a1 3)) a0 4 (zL (zwL (zcpI (zcpI (zwI S a0 0 (zI S a1 0)) (a1 + 1) (a0 + 1) 9) (a1 + 2) (a0 + 2) 36) a0 3 (zL (zcpI (zcpI (zwI S a0 0 (zI S a1 0)) (a1 + 1) (a0 + 1) 9) (a1 + 2) (a0 + 2) 36) a1 3)) a1 4)) a0 5 (zI (zwL (zwL (zcpI (zcpI (zwI S a0 0 (zI S a1 0)) (a1 + 1) (a0 + 1) 9) (a1 + 2) (a0 + 2) 36) a0 3 (zL (zcpI (zcpI (zwI S a0 0 (zI S a1 0)) (a1 + 1) (a0 + 1) 9) (a1 + 2) (a0 + 2) 36) a1 3)) a0 4 (zL (zwL (zcpI (zcpI (zwI S a0 0 (zI S a1 0)) (a1 + 1) (a0 + 1) 9) (a1 + 2) (a0 + 2) 36) a0 3 (zL (zcpI (zcpI (zwI S a0 0 (zI S a1 0)) (a1 + 1) (a0 + 1) 9) (a1 + 2) (a0 + 2) 36) a1 3)) a1 4)) a1 5)) a1 6)) a0 7 (zI (zwI (zwI (zwL (zwL (zcpI (zcpI (zwI S a0 0 (zI S a1 0)) (a1 + 1) (a0 + 1) 9) (a1 + 2) (a0 + 2) 36) a0 3 (zL (zcpI (zcpI (zwI S a0 0 (zI S a1 0)) (a1 + 1) (a0 + 1) 9) (a1 + 2) (a0 + 2) 36) a1 3)) a0 4 (zL (zwL (zcpI (zcpI (zwI S a0 0 (zI S a1 0)) (a1 + 1) (a0 + 1) 9) (a1 + 2) (a0 + 2) 36) a0 3 (zL (zcpI (zcpI (zwI S a0 0 (zI S a1 0)) (a1 + 1) (a0 + 1) 9) (a1 + 2) (a0 + 2) 36) a1 3)) a1 4)) a0 5 (zI (zwL (zwL (zcpI (zcpI (zwI S a0 0 (zI S a1 0)) (a1 + 1) (a0 + 1) 9) (a1 + 2) (a0 + 2) 36) a0 3 (zL (zcpI (zcpI (zwI S a0 0 (zI S a1 0)) (a1 + 1) (a0 + 1) 9) (a1 + 2) (a0 + 2) 36) a1 3)) a0 4 (zL (zwL (zcpI (zcpI (zwI S a0 0 (zI S a1 0)) (a1 + 1) (a0 + 1) 9) (a1 + 2) (a0 + 2) 36) a0 3 (zL (zcpI (zcpI (zwI S a0 0 (zI S a1 0)) (a1 + 1) (a0 + 1) 9) (a1 + 2) (a0 + 2) 36) a1 3)) a1 4)) a1 5)) a0 6 (zI (zwI (zwL (zwL (zcpI (zcpI (zwI S a0 0 (zI S a1 0)) (a1 + 1) (a0 + 1) 9) (a1 + 2) (a0 + 2) 36) a0 3 (zL (zcpI (zcpI (zwI S a0 0 (zI S a1 0)) (a1 + 1) (a0 + 1) 9) (a1 + 2) (a0 + 2) 36) a1 3)) a0 4 (zL (zwL (zcpI (zcpI (zwI S a0 0 (zI S a1 0)) (a1 + 1) (a0 + 1) 9) (a1 + 2) (a0 + 2) 36) a0 3 (zL (zcpI (zcpI (zwI S a0 0 (zI S a1 0)) (a1 + 1) (a0 + 1) 9) (a1 + 2) (a0 + 2) 36) a1 3)) a1 4)) a0 5 (zI (zwL (zwL (zcpI (zcpI (zwI S a0 0 (zI S a1 0)) (a1 + 1) (a0 + 1) 9) (a1 + 2) (a0 + 2) 36) a0 3 (zL (zcpI (zcpI (zwI S a0 0 (zI S a1 0)) (a1 + 1) (a0 + 1) 9) (a1 + 2) (a0 + 2) 36) a1 3)) a0 4 (zL (zwL (zcpI (zcpI (zwI S a0 0 (zI S a1 0)) (a1 + 1) (a0 + 1) 9) (a1 + 2) (a0 + 2) 36) a0 3 (zL (zcpI (zcpI (zwI S a0 0 (zI S a1 0)) (a1 + 1) (a0 + 1) 9) (a1 + 2) (a0 + 2) 36) a1 3)) a1 4)) a1 5)) a1 6)) a1 7)) a1 8)) a1 9)) (a1 + 3) (a0 + 3) 6) (a1 + 4) (a0 + 4) 6) a0 12 (zI (zcpI (zcpI (zwI (zwI (zwI (zwI (zwI (zwL (zwL (zcpI (zcpI (zwI S a0 0 (zI S a1 0)) (a1 + 1) (a0 + 1) 9) (a1 + 2) (a0 + 2) 36) a0 3 (zL (zcpI (zcpI (zwI S a0 0 (zI S a1 0)) (a1 + 1) (a0 + 1) 9) (a1 + 2) (a0 + 2) 36) a1 3)) a0 4 (zL (zwL (zcpI (zcpI (zwI S a0 0 (zI S a1 0)) (a1 + 1) (a0 + 1) 9) (a1 + 2) (a0 + 2) 36) a0 3 (zL (zcpI (zcpI (zwI S a0 0 (zI S a1 0)) (a1 + 1) (a0 + 1) 9) (a1 + 2) (a0 + 2) 36) a1 3)) a1 4)) a0 5 (zI (zwL (zwL (zcpI (zcpI (zwI S a0 0 (zI S a1 0)) (a1 + 1) (a0 + 1) 9) (a1 + 2) (a0 + 2) 36) a0 3 (zL (zcpI (zcpI (zwI S a0 0 (zI S a1 0)) (a1 + 1) (a0 + 1) 9) (a1 + 2) (a0 + 2) 36) a1 3)) a0 4 (zL (zwL (zcpI (zcpI (zwI S a0 0 (zI S a1 0)) (a1 + 1) (a0 + 1) 9) (a1 + 2) (a0 + 2) 36) a0 3 (zL (zcpI (zcpI (zwI S a0 0 (zI S a1 0)) (a1 + 1) (a0 + 1) 9) (a1 + 2) (a0 + 2) 36) a1 3)) a1 4)) a1 5)) a0 6 (zI (zwI (zwL (zwL (zcpI (zcpI (zwI S a0 0 (zI S a1 0)) (a1 + 1) (a0 + 1) 9) (a1 + 2) (a0 + 2) 36) a0 3 (zL (zcpI (zcpI (zwI S a0 0 (zI S a1 0)) (a1 + 1) (a0 + 1) 9) (a1 + 2) (a0 + 2) 36) a1 3)) a0 4 (zL (zwL (zcpI (zcpI (zwI S a0 0 (zI S a1 0)) (a1 + 1) (a0 + 1) 9) (a1 + 2) (a0 + 2) 36) a0 3 (zL (zcpI (zcpI (zwI S a0 0 (zI S a1 0)) (a1 + 1) (a0 + 1) 9) (a1 + 2) (a0 + 2) 36) a1 3)) a1 4)) a0 5 (zI (zwL (zwL (zcpI (zcpI (zwI S a0 0 (zI S a1 0)) (a1 + 1) (a0 + 1) 9) (a1 + 2) (a0 + 2) 36) a0 3 (zL (zcpI (zcpI (zwI S a0 0 (zI S a1 0)) (a1 + 1) (a0 + 1) 9) (a1 + 2) (a0 + 2) 36) a1 3)) a0 4 (zL (zwL (zcpI (zcpI (zwI S a0 0 (zI S a1 0)) (a1 + 1) (a0 + 1) 9) (a1 + 2) (a0 + 2) 36) a0 3 (zL (zcpI (zcpI (zwI S a0 0 (zI S a1 0)) (a1 + 1) (a0 + 1) 9) (a1 + 2) (a0 + 2) 36) a1 3)) a1 4)) a1 5)) a1 6)) a0 7 (zI (zwI (zwI (zwL (zwL (zcpI (zcpI (zwI S a0 0 (zI S a1 0)) (a1 + 1) (a0 + 1) 9) (a1 + 2) (a0 + 2) 36) a0 3 (zL (zcpI (zcpI (zwI S a0 0 (zI S a1 0)) (a1 + 1) (a0 + 1) 9) (a1 + 2) (a0 + 2) 36) a1 3)) a0 4 (zL (zwL (zcpI (zcpI (zwI S a0 0 (zI S a1 0)) (a1 + 1) (a0 + 1) 9) (a1 + 2) (a0 + 2) 36) a0 3 (zL (zcpI (zcpI (zwI S a0 0 (zI S a1 0)) (a1 + 1) (a0 + 1) 9) (a1 + 2) (a0 + 2) 36) a1 3)) a1 4)) a0 5 (zI (zwL (zwL (zcpI (zcpI (zwI S a0 0 (zI S a1 0)) (a1 + 1) (a0 + 1) 9) (a1 + 2) (a0 + 2) 36) a0 3 (zL (zcpI (zcpI (zwI S a0 0 (zI S a1 0)) (a1 + 1) (a0 + 1) 9) (a1 + 2) (a0 + 2) 36) a1 3)) a0 4 (zL (zwL (zcpI (zcpI (zwI S a0 0 (zI S a1 0)) (a1 + 1) (a0 + 1) 9) (a1 + 2) (a0 + 2) 36) a0 3 (zL (zcpI (zcpI (zwI S a0 0 (zI S a1 0)) (a1 + 1) (a0 + 1) 9) (a1 + 2) (a0 + 2) 36) a1 3)) a1 4)) a1 5)) a0 6 (zI (zwI (zwL (zwL (zcpI (zcpI (zwI S a0 0 (zI S a1 0)) (a1 + 1) (a0 + 1) 9) (a1 + 2) (a0 + 2) 36) a0 3 (zL (zcpI (zcpI (zwI S a0 0 (zI S a1 0)) (a1 + 1) (a0 + 1) 9) (a1 + 2) (a0 + 2) 36) a1 3)) a0 4 (zL (zwL (zcpI (zcpI (zwI S a0 0 (zI S a1 0)) (a1 + 1) (a0 + 1) 9) (a1 + 2) (a0 + 2) 36) a0 3 (zL (zcpI (zcpI (zwI S a0 0 (zI S a1 0)) (a1 + 1) (a0 + 1) 9) (a1 + 2) (a0 + 2) 36) a1 3)) a1 4)) a0 5 (zI (zwL (zwL (zcpI (zcpI (zwI S a0 0 (zI S a1 0)) (a1 + 1) (a0 + 1) 9) (a1 + 2) (a0 + 2) 36) a0 3 (zL (zcpI (zcpI (zwI S a0 0 (zI S a1 0)) (a1 + 1) (a0 + 1) 9) (a1 + 2) (a0 + 2) 36) a1 3)) a0 4 (zL (zwL (zcpI (zcpI (zwI S a0 0 (zI S a1 0)) (a1 + 1) (a0 + 1) 9) (a1 + 2) (a0 + 2) 36) a0 3 (zL (zcpI (zcpI (zwI S a0 0 (zI S a1 0)) (a1 + 1) (a0 + 1) 9) (a1 + 2) (a0 + 2) 36) a1 3)) a1 4)) a1 5)) a1 6)) a1 7)) a0 8 (zI (zwI (zwI (zwI (zwL (zwL (zcpI (zcpI (zwI S a0 0 (zI S a1 0)) (a1 + 1) (a0 + 1) 9) (a1 + 2) (a0 + 2) 36) a0 3 (zL (zcpI (zcpI (zwI S a0 0 (zI S a1 0)) (a1 + 1) (a0 + 1) 9) (a1 + 2) (a0 + 2) 36) a1 3)) a0 4 (zL (zwL (zcpI (zcpI (zwI S a0 0 (zI S a1 0)) (a1 + 1) (a0 + 1) 9) (a1 + 2) (a0 + 2) 36) a0 3 (zL (zcpI (zcpI (zwI S a0 0 (zI S a1 0)) (a1 + 1) (a0 + 1) 9) (a1 + 2) (a0 + 2) 36) a1 3)) a1 4)) a0 5 (zI (zwL (zwL (zcpI (zcpI (zwI S a0 0 (zI S a1 0)) (a1 + 1) (a0 + 1) 9) (a1 + 2) (a0 + 2) 36) a0 3 (zL (zcpI (zcpI (zwI S a0 0 (zI S a1 0)) (a1 + 1) (a0 + 1) 9) (a1 + 2) (a0 + 2) 36) a1 3)) a0 4 (zL (zwL (zcpI (zcpI (zwI S a0 0 (zI S a1 0)) (a1 + 1) (a0 + 1) 9) (a1 + 2) (a0 + 2) 36) a0 3 (zL (zcpI (zcpI (zwI S a0 0 (zI S a1 0)) (a1 + 1) (a0 + 1) 9) (a1 + 2) (a0 + 2) 36) a1 3)) a1 4)) a1 5)) a0 6 (zI (zwI (zwL (zwL (zcpI (zcpI (zwI S a0 0 (zI S a1 0)) (a1 + 1) (a0 + 1) 9) (a1 + 2) (a0 + 2) 36) a0 3 (zL (zcpI (zcpI (zwI S a0 0 (zI S a1 0)) (a1 + 1) (a0 + 1) 9) (a1 + 2) (a0 + 2) 36) a1 3)) a0 4 (zL (zwL (zcpI (zcpI (zwI S a0 0 (zI S a1 0)) (a1 + 1) (a0 + 1) 9) (a1 + 2) (a0 + 2) 36) a0 3 (zL (zcpI (zcpI (zwI S a0 0 (zI S a1 0)) (a1 + 1) (a0 + 1) 9) (a1 + 2) (a0 + 2) 36) a1 3)) a1 4)) a0 5 (zI (zwL (zwL (zcpI (zcpI (zwI S a0 0 (zI S a1 0)) (a1 + 1) (a0 + 1) 9) (a1 + 2) (a0 + 2) 36) a0 3 (zL (zcpI (zcpI (zwI S a0 0 (zI S a1 0)) (a1 + 1) (a0 + 1) 9) (a1 + 2) (a0 + 2) 36) a1 3)) a0 4 (zL (zwL (zcpI (zcpI (zwI S a0 0 (zI S a1 0)) (a1 + 1) (a0 + 1) 9) (a1 + 2) (a0 + 2) 36) a0 3 (zL (zcpI (zcpI (zwI S a0 0 (zI S a1 0)) (a1 + 1) (a0 + 1) 9) (a1 + 2) (a0 + 2) 36) a1 3)) a1 4)) a1 5)) a1 6)) a0 7 (zI (zwI (zwI (zwL (zwL (zcpI (zcpI (zwI S a0 0 (zI S a1 0)) (a1 + 1) (a0 + 1) 9) (a1 + 2) (a0 + 2) 36) a0 3 (zL (zcpI (zcpI (zwI S a0 0 (zI S a1 0)) (a1 + 1) (a0 + 1) 9) (a1 + 2) (a0 + 2) 36) a1 3)) a0 4 (zL (zwL (zcpI (zcpI (zwI S a0 0 (zI S a1 0)) (a1 + 1) (a0 + 1) 9) (a1 + 2) (a0 + 2) 36) a0 3 (zL (zcpI (zcpI (zwI S a0 0 (zI S a1 0)) (a1 + 1) (a0 + 1) 9) (a1 + 2) (a0 + 2) 36) a1 3)) a1 4)) a0 5 (zI (zwL (zwL (zcpI (zcpI (zwI S a0 0 (zI S a1 0)) (a1 + 1) (a0 + 1) 9) (a1 + 2) (a0 + 2) 36) a0 3 (zL (zcpI (zcpI (zwI S a0 0 (zI S a1 0)) (a1 + 1) (a0 + 1) 9) (a1 + 2) (a0 + 2) 36) a1 3)) a0 4 (zL (zwL (zcpI (zcpI (zwI S a0 0 (zI S a1 0)) (a1 + 1) (a0 + 1) 9) (a1 + 2) (a0 + 2) 36) a0 3 (zL (zcpI (zcpI (zwI S a0 0 (zI S a1 0)) (a1 + 1) (a0 + 1) 9) (a1 + 2) (a0 + 2) 36) a1 3)) a1 4)) a1 5)) a0 6 (zI (zwI (zwL (zwL (zcpI (zcpI (zwI S a0 0 (zI S a1 0)) (a1 + 1) (a0 + 1) 9) (a1 + 2) (a0 + 2) 36) a0 3 (zL (zcpI (zcpI (zwI S a0 0 (zI S a1 0)) (a1 + 1) (a0 + 1) 9) (a1 + 2) (a0 + 2) 36) a1 3)) a0 4 (zL (zwL (zcpI (zcpI (zwI S a0 0 (zI S a1 0)) (a1 + 1) (a0 + 1) 9) (a1 + 2) (a0 + 2) 36) a0 3 (zL (zcpI (zcpI (zwI S a0 0 (zI S a1 0)) (a1 + 1) (a0 + 1) 9) (a1 + 2) (a0 + 2) 36) a1 3)) a1 4)) a0 5 (zI (zwL (zwL (zcpI (zcpI (zwI S a0 0 (zI S a1 0)) (a1 + 1) (a0 + 1) 9) (a1 + 2) (a0 + 2) 36) a0 3 (zL (zcpI (zcpI (zwI S a0 0 (zI S a1 0)) (a1 + 1) (a0 + 1) 9) (a1 + 2) (a0 + 2) 36) a1 3)) a0 4 (zL (zwL (zcpI (zcpI (zwI S a0 0 (zI S a1 0)) (a1 + 1) (a0 + 1) 9) (a1 + 2) (a0 + 2) 36) a0 3 (zL (zcpI (zcpI (zwI S a0 0 (zI S a1 0)) (a1 + 1) (a0 + 1) 9) (a1 + 2) (a0 + 2) 36) a1 3)) a1 4)) a1 5)) a1 6)) a1 7)) a1 8)) a0 9 (zI (zwI (zwI (zwI (zwI (zwL (zwL (zcpI (zcpI (zwI S a0 0 (zI S a1 0)) (a1 + 1) (a0 + 1) 9) (a1 + 2) (a0 + 2) 36) a0 3 (zL (zcpI (zcpI (zwI S a0 0 (zI S a1 0)) (a1 + 1) (a0 + 1) 9) (a1 + 2) (a0 + 2) 36) a1 3)) a0 4 (zL (zwL (zcpI (zcpI (zwI S a0 0 (zI S a1 0)) (a1 + 1) (a0 + 1) 9) (a1 + 2) (a0 + 2) 36) a0 3 (zL (zcpI (zcpI (zwI S a0 0 (zI S a1 0)) (a1 + 1) (a0 + 1) 9) (a1 + 2) (a0 + 2) 36) a1 3)) a1 4)) a0 5 (zI (zwL (zwL (zcpI (zcpI (zwI S a0 0 (zI S a1 0)) (a1 + 1) (a0 + 1) 9) (a1 + 2) (a0 + 2) 36) a0 3 (zL (zcpI (zcpI (zwI S a0 0 (zI S a1 0)) (a1 + 1) (a0 + 1) 9) (a1 + 2) (a0 + 2) 36) a1 3)) a0 4 (zL (zwL (zcpI (zcpI (zwI S a0 0 (zI S a1 0)) (a1 + 1) (a0 + 1) 9) (a1 + 2) (a0 + 2) 36) a0 3 (zL (zcpI (zcpI (zwI S a0 0 (zI S a1 0)) (a1 + 1) (a0 + 1) 9) (a1 + 2) (a0 + 2) 36) a1 3)) a1 4)) a1 5)) a0 6 (zI (zwI (zwL (zwL (zcpI (zcpI (zwI S a0 0 (zI S a1 0)) (a1 + 1) (a0 + 1) 9) (a1 + 2) (a0 + 2) 36) a0 3 (zL (zcpI (zcpI (zwI S a0 0 (zI S a1 0)) (a1 + 1) (a0 + 1) 9) (a1 + 2) (a0 + 2) 36) a1 3)) a0 4 (zL (zwL (zcpI (zcpI (zwI S a0 0 (zI S a1 0)) (a1 + 1) (a0 + 1) 9) (a1 + 2) (a0 + 2) 36) a0 3 (zL (zcpI (zcpI (zwI S a0 0 (zI S a1 0)) (a1 + 1) (a0 + 1) 9) (a1 + 2) (a0 + 2) 36) a1 3)) a1 4)) a0 5 (zI (zwL (zwL (zcpI (zcpI (zwI S a0 0 (zI S a1 0)) (a1 + 1) (a0 + 1) 9) (a1 + 2) (a0 + 2) 36) a0 3 (zL (zcpI (zcpI (zwI S a0 0 (zI S a1 0)) (a1 + 1) (a0 + 1) 9) (a1 + 2) (a0 + 2) 36) a1 3)) a0 4 (zL (zwL (zcpI (zcpI (zwI S a0 0 (zI S a1 0)) (a1 + 1) (a0 + 1) 9) (a1 + 2) (a0 + 2) 36) a0 3 (zL (zcpI (zcpI (zwI S a0 0 (zI S a1 0)) (a1 + 1) (a0 + 1) 9) (a1 + 2) (a0 + 2) 36) a1 3)) a1 4)) a1 5)) a1 6)) a0 7 (zI (zwI (zwI (zwL (zwL (zcpI (zcpI (zwI S a0 0 (zI S a1 0)) (a1 + 1) (a0 + 1) 9) (a1 + 2) (a0 + 2) 36) a0 3 (zL (zcpI (zcpI (zwI S a0 0 (zI S a1 0)) (a1 + 1) (a0 + 1) 9) (a1 + 2) (a0 + 2) 36) a1 3)) a0 4 (zL (zwL (zcpI (zcpI (zwI S a0 0 (zI S a1 0)) (a1 + 1) (a0 + 1) 9) (a1 + 2) (a0 + 2) 36) a0 3 (zL (zcpI (zcpI (zwI S a0 0 (zI S a1 0)) (a1 + 1) (a0 + 1) 9) (a1 + 2) (a0 + 2) 36) a1 3)) a1 4)) a0 5 (zI (zwL (zwL (zcpI (zcpI (zwI S a0 0 (zI S a1 0)) (a1 + 1) (a0 + 1) 9) (a1 + 2) (a0 + 2) 36) a0 3 (zL (zcpI (zcpI (zwI S a0 0 (zI S a1 0)) (a1 + 1) (a0 + 1) 9) (a1 + 2) (a0 + 2) 36) a1 3)) a0 4 (zL (zwL (zcpI (zcpI (zwI S a0 0 (zI S a1 0)) (a1 + 1) (a0 + 1) 9) (a1 + 2) (a0 + 2) 36) a0 3 (zL (zcpI (zcpI (zwI S a0 0 (zI S a1 0)) (a1 + 1) (a0 + 1) 9) (a1 + 2) (a0 + 2) 36) a1 3)) a1 4)) a1 5)) a0 6 (zI (zwI (zwL (zwL (zcpI (zcpI (zwI S a0 0 (zI S a1 0)) (a1 + 1) (a0 + 1) 9) (a1 + 2) (a0 + 2) 36) a0 3 (zL (zcpI (zcpI (zwI S a0 0 (zI S a1 0)) (a1 + 1) (a0 + 1) 9) (a1 + 2) (a0 + 2) 36) a1 3)) a0 4 (zL (zwL (zcpI (zcpI (zwI S a0 0 (zI S a1 0)) (a1 + 1) (a0 + 1) 9) (a1 + 2) (a0 + 2) 36) a0 3 (zL (zcpI (zcpI (zwI S a0 0 (zI S a1 0)) (a1 + 1) (a0 + 1) 9) (a1 + 2) (a0 + 2) 36) a1 3)) a1 4)) a0 5 (zI (zwL (zwL (zcpI (zcpI (zwI S a0 0 (zI S a1 0)) (a1 + 1) (a0 + 1) 9) (a1 + 2) (a0 + 2) 36) a0 3 (zL (zcpI (zcpI (zwI S a0 0 (zI S a1 0)) (a1 + 1) (a0 + 1) 9) (a1 + 2) (a0 + 2) 36) a1 3)) a0 4 (zL (zwL (zcpI (zcpI (zwI S a0 0 (zI S a1 0)) (a1 + 1) (a0 + 1) 9) (a1 + 2) (a0 + 2) 36) a0 3 (zL (zcpI (zcpI (zwI S a0 0 (zI S a1 0)) (a1 + 1) (a0 + 1) 9) (a1 + 2) (a0 + 2) 36) a1 3)) a1 4)) a1 5)) a1 6)) a1 7)) a0 8 (zI (zwI (zwI (zwI (zwL (zwL (zcpI (zcpI (zwI S a0 0 (zI S a1 0)) (a1 + 1) (a0 + 1) 9) (a1 + 2) (a0 + 2) 36) a0 3 (zL (zcpI (zcpI (zwI S a0 0 (zI S a1 0)) (a1 + 1) (a0 + 1) 9) (a1 + 2) (a0 + 2) 36) a1 3)) a0 4 (zL (zwL (zcpI (zcpI (zwI S a0 0 (zI S a1 0)) (a1 + 1) (a0 + 1) 9) (a1 + 2) (a0 + 2) 36) a0 3 (zL (zcpI (zcpI (zwI S a0 0 (zI S a1 0)) (a1 + 1) (a0 + 1) 9) (a1 + 2) (a0 + 2) 36) a1 3)) a1 4)) a0 5 (zI (zwL (zwL (zcpI (zcpI (zwI S a0 0 (zI S a1 0)) (a1 + 1) (a0 + 1) 9) (a1 + 2) (a0 + 2) 36) a0 3 (zL (zcpI (zcpI (zwI S a0 0 (zI S a1 0)) (a1 + 1) (a0 + 1) 9) (a1 + 2) (a0 + 2) 36) a1 3)) a0 4 (zL (zwL (zcpI (zcpI (zwI S a0 0 (zI S a1 0)) (a1 + 1) (a0 + 1) 9) (a1 + 2) (a0 + 2) 36) a0 3 (zL (zcpI (zcpI (zwI S a0 0 (zI S a1 0)) (a1 + 1) (a0 + 1) 9) (a1 + 2) (a0 + 2) 36) a1 3)) a1 4)) a1 5)) a0 6 (zI (zwI (zwL (zwL (zcpI (zcpI (zwI S a0 0 (zI S a1 0)) (a1 + 1) (a0 + 1) 9) (a1 + 2) (a0 + 2) 36) a0 3 (zL (zcpI (zcpI (zwI S a0 0 (zI S a1 0)) (a1 + 1) (a0 + 1) 9) (a1 + 2) (a0 + 2) 36) a1 3)) a0 4 (zL (zwL (zcpI (zcpI (zwI S a0 0 (zI S a1 0)) (a1 + 1) (a0 + 1) 9) (a1 + 2) (a0 + 2) 36) a0 3 (zL (zcpI (zcpI (zwI S a0 0 (zI S a1 0)) (a1 + 1) (a0 + 1) 9) (a1 + 2) (a0 + 2) 36) a1 3)) a1 4)) a0 5 (zI (zwL (zwL (zcpI (zcpI (zwI S a0 0 (zI S a1 0)) (a1 + 1) (a0 + 1) 9) (a1 + 2) (a0 + 2) 36) a0 3 (zL (zcpI (zcpI (zwI S a0 0 (zI S a1 0)) (a1 + 1) (a0 + 1) 9) (a1 + 2) (a0 + 2) 36) a1 3)) a0 4 (zL (zwL (zcpI (zcpI (zwI S a0 0 (zI S a1 0)) (a1 + 1) (a0 + 1) 9) (a1 + 2) (a0 + 2) 36) a0 3 (zL (zcpI (zcpI (zwI S a0 0 (zI S a1 0)) (a1 + 1) (a0 + 1) 9) (a1 + 2) (a0 + 2) 36) a1 3)) a1 4)) a1 5)) a1 6)) a0 7 (zI (zwI (zwI (zwL (zwL (zcpI (zcpI (zwI S a0 0 (zI S a1 0)) (a1 + 1) (a0 + 1) 9) (a1 + 2) (a0 + 2) 36) a0 3 (zL (zcpI (zcpI (zwI S a0 0 (zI S a1 0)) (a1 + 1) (a0 + 1) 9) (a1 + 2) (a0 + 2) 36) a1 3)) a0 4 (zL (zwL (zcpI (zcpI (zwI S a0 0 (zI S a1 0)) (a1 + 1) (a0 + 1) 9) (a1 + 2) (a0 + 2) 36) a0 3 (zL (zcpI (zcpI (zwI S a0 0 (zI S a1 0)) (a1 + 1) (a0 + 1) 9) (a1 + 2) (a0 + 2) 36) a1 3)) a1 4)) a0 5 (zI (zwL (zwL (zcpI (zcpI (zwI S a0 0 (zI S a1 0)) (a1 + 1) (a0 + 1) 9) (a1 + 2) (a0 + 2) 36) a0 3 (zL (zcpI (zcpI (zwI S a0 0 (zI S a1 0)) (a1 + 1) (a0 + 1) 9) (a1 + 2) (a0 + 2) 36) a1 3)) a0 4 (zL (zwL (zcpI (zcpI (zwI S a0 0 (zI S a1 0)) (a1 + 1) (a0 + 1) 9) (a1 + 2) (a0 + 2) 36) a0 3 (zL (zcpI (zcpI (zwI S a0 0 (zI S a1 0)) (a1 + 1) (a0 + 1) 9) (a1 + 2) (a0 + 2) 36) a1 3)) a1 4)) a1 5)) a0 6 (zI (zwI (zwL (zwL (zcpI (zcpI (zwI S a0 0 (zI S a1 0)) (a1 + 1) (a0 + 1) 9) (a1 + 2) (a0 + 2) 36) a0 3 (zL (zcpI (zcpI (zwI S a0 0 (zI S a1 0)) (a1 + 1) (a0 + 1) 9) (a1 + 2) (a0 + 2) 36) a1 3)) a0 4 (zL (zwL (zcpI (zcpI (zwI S a0 0 (zI S a1 0)) (a1 + 1) (a0 + 1) 9) (a1 + 2) (a0 + 2) 36) a0 3 (zL (zcpI (zcpI (zwI S a0 0 (zI S a1 0)) (a1 + 1) (a0 + 1) 9) (a1 + 2) (a0 + 2) 36) a1 3)) a1 4)) a0 5 (zI (zwL (zwL (zcpI (zcpI (zwI S a0 0 (zI S a1 0)) (a1 + 1) (a0 + 1) 9) (a1 + 2) (a0 + 2) 36) a0 3 (zL (zcpI (zcpI (zwI S a0 0 (zI S a1 0)) (a1 + 1) (a0 + 1) 9) (a1 + 2) (a0 + 2) 36) a1 3)) a0 4 (zL (zwL (zcpI (zcpI (zwI S a0 0 (zI S a1 0)) (a1 + 1) (a0 + 1) 9) (a1 + 2) (a0 + 2) 36) a0 3 (zL (zcpI (zcpI (zwI S a0 0 (zI S a1 0)) (a1 + 1) (a0 + 1) 9) (a1 + 2) (a0 + 2) 36) a1 3)) a1 4)) a1 5)) a1 6)) a1 7)) a1 8)) a1 9)) (a1 + 3) (a0 + 3) 6) (a1 + 4) (a0 + 4) 6) a1 12)) h
def f_Jo_copyFrom (a0 : Nat) (a1 : Nat) (S : zSt) : Option zSt := some (zcpL (zcpL (zcpI (zcpI (zcpI (zwI (zwI S a0 0 (zI S a1 0)) a0 1 (zI (zwI S a0 0 (zI S a1 0)) a1 1)) (a1 + 1) (a0 + 1) 16) (a1 + 2) (a0 + 2) 16) (a1 + 3) (a0 + 3) 16) (a1 + 4) (a0 + 4) 16) (a1 + 5) (a0 + 5) 16)
set_option maxRecDepth 100000 in
set_option maxHeartbeats 4000000 in
theorem m_Jo_copyFrom (l : Launch) {a0 : Nat} {a1 : Nat} {S : zSt} {S1 : zSt} (ha0 : zK a0 = 2) (ga0 : a0 < zN0) (ha1 : zK a1 = 2) (ga1 : a1 < zN0) (h : f_Jo_copyFrom a0 a1  S = some S1) : zPM l y_Jo_copyFrom b_Jo_copyFrom 2 none rm_Jo_copyFrom true true [zr (some a0), zr (some a1)] S none S1 := by
  refine zPM_of (by decide) (Nat.le_of_ble_eq_true rfl) (fun p e s m args below meth c G C hret hname => ?_)
  unfold f_Jo_copyFrom at h
  refine (?_ : zJ p l e rm_Jo_copyFrom s m args below meth c G true 2 0 0 (zQm below G args s rm_Jo_copyFrom true none S1) S 0 [(0, zr (some a0)), (1, zr (some a1))] [])
  refine z_aload_n C 0 rfl d_Jo_copyFrom_0 rfl ?_
  refine z_aload_n C 1 rfl d_Jo_copyFrom_1 rfl ?_
  refine z_getI C 2 (by decide) 0 (by decide) rfl (Or.inl ⟨rfl, ga1⟩) ha1 zfl_2_11 d_Jo_copyFrom_2 ?_
  refine z_putI C 2 (by decide) 0 (by decide) rfl (Or.inl rfl) (Or.inl ⟨rfl, ga0⟩) ha0 zfl_2_11 (Or.inl rfl) d_Jo_copyFrom_5 ?_
  refine z_aload_n C 0 rfl d_Jo_copyFrom_8 rfl ?_
  refine z_aload_n C 1 rfl d_Jo_copyFrom_9 rfl ?_
  refine z_getI C 2 (by decide) 1 (by decide) rfl (Or.inl ⟨rfl, ga1⟩) ha1 zfl_2_15 d_Jo_copyFrom_10 ?_
  refine z_putI C 2 (by decide) 1 (by decide) rfl (Or.inl rfl) (Or.inl ⟨rfl, ga0⟩) ha0 zfl_2_15 (Or.inl rfl) d_Jo_copyFrom_13 ?_
  refine z_aload_n C 1 rfl d_Jo_copyFrom_16 rfl ?_
  refine z_getF2 C 2 (by decide) 2 (by decide) rfl 1 16 rfl (a1 + 1) rfl (Or.inl ga1) ha1 zfl_2_18 d_Jo_copyFrom_17 ?_
  refine z_iconst C (0 : Int32) (by decide) d_Jo_copyFrom_20 ?_
  refine z_aload_n C 0 rfl d_Jo_copyFrom_21 rfl ?_
  refine z_getF2 C 2 (by decide) 2 (by decide) rfl 1 16 rfl (a0 + 1) rfl (Or.inl ga0) ha0 zfl_2_18 d_Jo_copyFrom_22 ?_
  refine z_iconst C (0 : Int32) (by decide) d_Jo_copyFrom_25 ?_
  refine z_bipush C (16 : Int32) (by decide) d_Jo_copyFrom_26 ?_
  refine z_fact (fun hSR => ?_)
  refine z_copyI C 16 (Or.inl ⟨rfl, (zko_2_1 ha1 ga1).1⟩) (zko_2_1 ha1 ga1).2 (zsa_2_1 hSR ha1 ga1) (Or.inl ⟨rfl, (zko_2_1 ha0 ga0).1⟩) (zko_2_1 ha0 ga0).2 (zsa_2_1 hSR ha0 ga0) (by decide) ⟨by decide, by decide⟩ (Nat.le_of_ble_eq_true rfl) lk_2_35 d_Jo_copyFrom_28 ?_
  refine z_aload_n C 1 rfl d_Jo_copyFrom_31 rfl ?_
  refine z_getF2 C 2 (by decide) 3 (by decide) rfl 2 16 rfl (a1 + 2) rfl (Or.inl ga1) ha1 zfl_2_22 d_Jo_copyFrom_32 ?_
  refine z_iconst C (0 : Int32) (by decide) d_Jo_copyFrom_35 ?_
  refine z_aload_n C 0 rfl d_Jo_copyFrom_36 rfl ?_
  refine z_getF2 C 2 (by decide) 3 (by decide) rfl 2 16 rfl (a0 + 2) rfl (Or.inl ga0) ha0 zfl_2_22 d_Jo_copyFrom_37 ?_
  refine z_iconst C (0 : Int32) (by decide) d_Jo_copyFrom_40 ?_
  refine z_bipush C (16 : Int32) (by decide) d_Jo_copyFrom_41 ?_
  refine z_fact (fun hSR => ?_)
  refine z_copyI C 16 (Or.inl ⟨rfl, (zko_2_2 ha1 ga1).1⟩) (zko_2_2 ha1 ga1).2 (zsa_2_2 hSR ha1 ga1) (Or.inl ⟨rfl, (zko_2_2 ha0 ga0).1⟩) (zko_2_2 ha0 ga0).2 (zsa_2_2 hSR ha0 ga0) (by decide) ⟨by decide, by decide⟩ (Nat.le_of_ble_eq_true rfl) lk_2_35 d_Jo_copyFrom_43 ?_
  refine z_aload_n C 1 rfl d_Jo_copyFrom_46 rfl ?_
  refine z_getF2 C 2 (by decide) 4 (by decide) rfl 3 16 rfl (a1 + 3) rfl (Or.inl ga1) ha1 zfl_2_25 d_Jo_copyFrom_47 ?_
  refine z_iconst C (0 : Int32) (by decide) d_Jo_copyFrom_50 ?_
  refine z_aload_n C 0 rfl d_Jo_copyFrom_51 rfl ?_
  refine z_getF2 C 2 (by decide) 4 (by decide) rfl 3 16 rfl (a0 + 3) rfl (Or.inl ga0) ha0 zfl_2_25 d_Jo_copyFrom_52 ?_
  refine z_iconst C (0 : Int32) (by decide) d_Jo_copyFrom_55 ?_
  refine z_bipush C (16 : Int32) (by decide) d_Jo_copyFrom_56 ?_
  refine z_fact (fun hSR => ?_)
  refine z_copyI C 16 (Or.inl ⟨rfl, (zko_2_3 ha1 ga1).1⟩) (zko_2_3 ha1 ga1).2 (zsa_2_3 hSR ha1 ga1) (Or.inl ⟨rfl, (zko_2_3 ha0 ga0).1⟩) (zko_2_3 ha0 ga0).2 (zsa_2_3 hSR ha0 ga0) (by decide) ⟨by decide, by decide⟩ (Nat.le_of_ble_eq_true rfl) lk_2_35 d_Jo_copyFrom_58 ?_
  refine z_aload_n C 1 rfl d_Jo_copyFrom_61 rfl ?_
  refine z_getF2 C 2 (by decide) 5 (by decide) rfl 4 16 rfl (a1 + 4) rfl (Or.inl ga1) ha1 zfl_2_28 d_Jo_copyFrom_62 ?_
  refine z_iconst C (0 : Int32) (by decide) d_Jo_copyFrom_65 ?_
  refine z_aload_n C 0 rfl d_Jo_copyFrom_66 rfl ?_
  refine z_getF2 C 2 (by decide) 5 (by decide) rfl 4 16 rfl (a0 + 4) rfl (Or.inl ga0) ha0 zfl_2_28 d_Jo_copyFrom_67 ?_
  refine z_iconst C (0 : Int32) (by decide) d_Jo_copyFrom_70 ?_
  refine z_bipush C (16 : Int32) (by decide) d_Jo_copyFrom_71 ?_
  refine z_fact (fun hSR => ?_)
  refine z_copyL C 16 (Or.inl ⟨rfl, (zko_2_4 ha1 ga1).1⟩) (zko_2_4 ha1 ga1).2 (zsa_2_4 hSR ha1 ga1) (Or.inl ⟨rfl, (zko_2_4 ha0 ga0).1⟩) (zko_2_4 ha0 ga0).2 (zsa_2_4 hSR ha0 ga0) (by decide) ⟨by decide, by decide⟩ (Nat.le_of_ble_eq_true rfl) lk_2_35 d_Jo_copyFrom_73 ?_
  refine z_aload_n C 1 rfl d_Jo_copyFrom_76 rfl ?_
  refine z_getF2 C 2 (by decide) 6 (by decide) rfl 5 16 rfl (a1 + 5) rfl (Or.inl ga1) ha1 zfl_2_32 d_Jo_copyFrom_77 ?_
  refine z_iconst C (0 : Int32) (by decide) d_Jo_copyFrom_80 ?_
  refine z_aload_n C 0 rfl d_Jo_copyFrom_81 rfl ?_
  refine z_getF2 C 2 (by decide) 6 (by decide) rfl 5 16 rfl (a0 + 5) rfl (Or.inl ga0) ha0 zfl_2_32 d_Jo_copyFrom_82 ?_
  refine z_iconst C (0 : Int32) (by decide) d_Jo_copyFrom_85 ?_
  refine z_bipush C (16 : Int32) (by decide) d_Jo_copyFrom_86 ?_
  refine z_fact (fun hSR => ?_)
  refine z_copyL C 16 (Or.inl ⟨rfl, (zko_2_5 ha1 ga1).1⟩) (zko_2_5 ha1 ga1).2 (zsa_2_5 hSR ha1 ga1) (Or.inl ⟨rfl, (zko_2_5 ha0 ga0).1⟩) (zko_2_5 ha0 ga0).2 (zsa_2_5 hSR ha0 ga0) (by decide) ⟨by decide, by decide⟩ (Nat.le_of_ble_eq_true rfl) lk_2_35 d_Jo_copyFrom_88 ?_
  cases h
  exact z_vret C hret ⟨Nat.zero_le _, Nat.zero_le _⟩ d_Jo_copyFrom_91
def f_Tx_timesOf (a0 : Nat) (a1 : Int32) (S : zSt) : Option Int32 := if a1 < 0 then some (0 : Int32) else if (12 : Int32) ≤ a1 then some (0 : Int32) else zgd (0 ≤ a1 ∧ a1.toNatClampNeg < 12) (some (zI S (a0 + 2) a1.toNatClampNeg))
set_option maxRecDepth 100000 in
set_option maxHeartbeats 4000000 in
theorem m_Tx_timesOf (l : Launch) {a0 : Nat} {a1 : Int32} {S : zSt} {r : Int32} (ha0 : zK a0 = 10) (ga0 : a0 < zN S) (h : f_Tx_timesOf a0 a1 S = some r) : zPM l y_Tx_timesOf b_Tx_timesOf 2 (some .int) rm_Tx_timesOf true true [zr (some a0), zi a1] S (some (zi r)) S := by
  refine zPM_of (by decide) (Nat.le_of_ble_eq_true rfl) (fun p e s m args below meth c G C hret hname => ?_)
  unfold f_Tx_timesOf at h
  refine (?_ : zJ p l e rm_Tx_timesOf s m args below meth c G true 2 0 0 (zQm below G args s rm_Tx_timesOf true (some (zi r)) S) S 0 [(0, zr (some a0)), (1, zi a1)] [])
  refine z_iload_n C 1 rfl d_Tx_timesOf_0 rfl ?_
  rcases zite h with ⟨c1, h⟩ | ⟨c1, h⟩
  · refine z_if_ltt C 19 c1 d_Tx_timesOf_1 (by decide) ?_
    refine z_iconst C (0 : Int32) (by decide) d_Tx_timesOf_19 ?_
    cases h
    exact z_iret C .int hret rfl ⟨Nat.zero_le _, Nat.zero_le _⟩ d_Tx_timesOf_20
  · refine z_if_ltf C 19 c1 d_Tx_timesOf_1 (by decide) ?_
    refine z_iload_n C 1 rfl d_Tx_timesOf_4 rfl ?_
    refine z_bipush C (12 : Int32) (by decide) d_Tx_timesOf_5 ?_
    rcases zite h with ⟨c2, h⟩ | ⟨c2, h⟩
    · refine z_icmp_get C 19 c2 d_Tx_timesOf_7 (by decide) ?_
      refine z_iconst C (0 : Int32) (by decide) d_Tx_timesOf_19 ?_
      cases h
      exact z_iret C .int hret rfl ⟨Nat.zero_le _, Nat.zero_le _⟩ d_Tx_timesOf_20
    · refine z_icmp_gef C 19 c2 d_Tx_timesOf_7 (by decide) ?_
      refine z_aload_n C 0 rfl d_Tx_timesOf_10 rfl ?_
      refine z_getF2 C 10 (by decide) 5 (by decide) rfl 2 12 rfl (a0 + 2) rfl (Or.inr ga0) ha0 zfl_10_26 d_Tx_timesOf_11 ?_
      refine z_iload_n C 1 rfl d_Tx_timesOf_14 rfl ?_
      refine z_fact (fun hSR => ?_)
      obtain ⟨g3, h⟩ := zgd_some h
      refine z_ialoadS C (Or.inr (ztx_2 hSR ha0 ga0).1) (ztk_2 ha0) (ztx_2 hSR ha0 ga0).2 g3 d_Tx_timesOf_15 ?_
      refine z_goto C 20 d_Tx_timesOf_16 (by decide) ?_
      cases h
      exact z_iret C .int hret rfl ⟨Nat.zero_le _, Nat.zero_le _⟩ d_Tx_timesOf_20
def f_Pa_take (a1 : Nat) (S : zSt) : Option zSt := if (9 : Int32) ≤ (zI S a1 0) then some (zwI S 55 0 (9 : Int32)) else some (zwI S 55 0 (zI S a1 0))
set_option maxRecDepth 100000 in
set_option maxHeartbeats 4000000 in
theorem m_Pa_take (l : Launch) {a1 : Nat} {S : zSt} {S1 : zSt} (ha1 : zK a1 = 5) (ga1 : a1 < zN0) (h : f_Pa_take a1  S = some S1) : zPM l y_Pa_take b_Pa_take 2 none rm_Pa_take true true [zr (some 55), zr (some a1)] S none S1 := by
  refine zPM_of (by decide) (Nat.le_of_ble_eq_true rfl) (fun p e s m args below meth c G C hret hname => ?_)
  unfold f_Pa_take at h
  refine (?_ : zJ p l e rm_Pa_take s m args below meth c G true 2 0 0 (zQm below G args s rm_Pa_take true none S1) S 0 [(0, zr (some 55)), (1, zr (some a1))] [])
  refine z_aload_n C 0 rfl d_Pa_take_0 rfl ?_
  refine z_aload_n C 1 rfl d_Pa_take_1 rfl ?_
  refine z_getI C 5 (by decide) 0 (by decide) rfl (Or.inl ⟨rfl, ga1⟩) ha1 zfl_4_28 d_Pa_take_2 ?_
  refine z_bipush C (9 : Int32) (by decide) d_Pa_take_5 ?_
  rcases zite h with ⟨c1, h⟩ | ⟨c1, h⟩
  · refine z_icmp_get C 17 c1 d_Pa_take_7 (by decide) ?_
    refine z_bipush C (9 : Int32) (by decide) d_Pa_take_17 ?_
    refine z_putI C 4 (by decide) 0 (by decide) rfl (Or.inl rfl) zo_55 zk_55 zfl_4_9 (Or.inl rfl) d_Pa_take_19 ?_
    cases h
    exact z_vret C hret ⟨Nat.zero_le _, Nat.zero_le _⟩ d_Pa_take_22
  · refine z_icmp_gef C 17 c1 d_Pa_take_7 (by decide) ?_
    refine z_aload_n C 1 rfl d_Pa_take_10 rfl ?_
    refine z_getI C 5 (by decide) 0 (by decide) rfl (Or.inl ⟨rfl, ga1⟩) ha1 zfl_4_28 d_Pa_take_11 ?_
    refine z_goto C 19 d_Pa_take_14 (by decide) ?_
    refine z_putI C 4 (by decide) 0 (by decide) rfl (Or.inl rfl) zo_55 zk_55 zfl_4_9 (Or.inl rfl) d_Pa_take_19 ?_
    cases h
    exact z_vret C hret ⟨Nat.zero_le _, Nat.zero_le _⟩ d_Pa_take_22
def f_Pa_pair (a0 : Int32) (a1 : Int32) : Option Int32 := some ((a0 * (9 : Int32)) + a1)
set_option maxRecDepth 100000 in
set_option maxHeartbeats 4000000 in
theorem m_Pa_pair (l : Launch) {a0 : Int32} {a1 : Int32} {S : zSt} {r : Int32} (h : f_Pa_pair a0 a1 = some r) : zPM l y_Pa_pair b_Pa_pair 2 (some .int) rm_Pa_pair true true [zi a0, zi a1] S (some (zi r)) S := by
  refine zPM_of (by decide) (Nat.le_of_ble_eq_true rfl) (fun p e s m args below meth c G C hret hname => ?_)
  unfold f_Pa_pair at h
  refine (?_ : zJ p l e rm_Pa_pair s m args below meth c G true 2 0 0 (zQm below G args s rm_Pa_pair true (some (zi r)) S) S 0 [(0, zi a0), (1, zi a1)] [])
  refine z_iload_n C 0 rfl d_Pa_pair_0 rfl ?_
  refine z_bipush C (9 : Int32) (by decide) d_Pa_pair_1 ?_
  refine z_imul C d_Pa_pair_3 ?_
  refine z_iload_n C 1 rfl d_Pa_pair_4 rfl ?_
  refine z_iadd C d_Pa_pair_5 ?_
  cases h
  exact z_iret C .int hret rfl ⟨Nat.zero_le _, Nat.zero_le _⟩ d_Pa_pair_6
def f_Pa_goBy_12 (fu : Nat) (k2 : Int32 → Int32 → zSt → Option zSt) : Nat → Int32 → Int32 → Int32 → zSt → Option zSt
  | 0, _, _, _, _ => none
  | n + 1, a1, a2, a3, S => if (zI S 55 0) ≤ a3 then k2 a1 (a2 + (1 : Int32)) S else zb1 (f_Pa_pair a2 a1) (fun r3 => zgd (0 ≤ r3 ∧ r3.toNatClampNeg < 81) (zb1 (f_Pa_pair a1 a3) (fun r6 => zgd (0 ≤ r6 ∧ r6.toNatClampNeg < 81) (zb1 (f_Pa_pair a2 a3) (fun r9 => zgd (0 ≤ r9 ∧ r9.toNatClampNeg < 81) (if (zI S 58 r9.toNatClampNeg) ≤ ((zI S 58 r3.toNatClampNeg) + (zI S 58 r6.toNatClampNeg)) then f_Pa_goBy_12 fu k2 n a1 a2 (a3 + (1 : Int32)) S else zb1 (f_Pa_pair a2 a3) (fun r13 => zgd (0 ≤ r13 ∧ r13.toNatClampNeg < 81) (f_Pa_goBy_12 fu k2 n a1 a2 (a3 + (1 : Int32)) (zwI S 58 r13.toNatClampNeg ((zI S 58 r3.toNatClampNeg) + (zI S 58 r6.toNatClampNeg)))))))))))
def f_Pa_goBy_2 (fu : Nat) : Nat → Int32 → Int32 → zSt → Option zSt
  | 0, _, _, _ => none
  | n + 1, a1, a2, S => if (zI S 55 0) ≤ a2 then some S else f_Pa_goBy_12 fu (f_Pa_goBy_2 fu n) fu a1 a2 (0 : Int32) S
def f_Pa_goBy (fu : Nat) (a1 : Int32) (S : zSt) : Option zSt := f_Pa_goBy_2 fu fu a1 (0 : Int32) S
set_option maxRecDepth 100000 in
set_option maxHeartbeats 4000000 in
theorem c_Pa_goBy_12 {p : Program} {l : Launch} {e : Env} {s : State} {m : MethodId} {args : Array Value} {below : List Frame} {meth : Method} {c : Code} {G : zG} (C : zC p s m args meth c G b_Pa_goBy 5 y_Pa_goBy.cls) (hret : meth.sig.returnType = none) {fu : Nat} {S1 : zSt} {k2 : Int32 → Int32 → zSt → Option zSt} (hk2 : ∀ (a1 : Int32) (a2 : Int32) (S : zSt) , k2 a1 a2 S = some S1 → zJ p l e rm_Pa_goBy s m args below meth c G true 5 0 0 (zQm below G args s rm_Pa_goBy true none S1) S 2 [(0, zr (some 55)), (1, zi a1), (2, zi a2)] []) : ∀ (n : Nat) (a1 : Int32) (a2 : Int32) (a3 : Int32) (S : zSt) , f_Pa_goBy_12 fu k2 n a1 a2 a3 S = some S1 → zJ p l e rm_Pa_goBy s m args below meth c G true 5 0 0 (zQm below G args s rm_Pa_goBy true none S1) S 12 [(0, zr (some 55)), (1, zi a1), (2, zi a2), (3, zi a3)] [] := by
  intro n
  induction n with
  | zero =>
    intro a1 a2 a3 S h
    cases h
  | succ n ih =>
    intro a1 a2 a3 S h
    rw [f_Pa_goBy_12] at h
    refine z_iload_n C 3 rfl d_Pa_goBy_12 rfl ?_
    refine z_aload_n C 0 rfl d_Pa_goBy_13 rfl ?_
    refine z_getI C 4 (by decide) 0 (by decide) rfl zo_55 zk_55 zfl_4_9 d_Pa_goBy_14 ?_
    rcases zite h with ⟨c1, h⟩ | ⟨c1, h⟩
    · refine z_icmp_get C 76 c1 d_Pa_goBy_17 (by decide) ?_
      refine z_iinc C 2 (a2 + (1 : Int32)) [(2, zi (a2 + (1 : Int32))), (0, zr (some 55)), (1, zi a1), (3, zi a3)] rfl d_Pa_goBy_76 (by first | rfl | decide) (by decide) rfl ?_
      refine z_goto C 2 d_Pa_goBy_79 (by decide) ?_
      refine zq_lsub [1, 2, 0] [(0, zr (some 55)), (1, zi a1), (2, zi (a2 + (1 : Int32)))] rfl ?_
      exact hk2 a1 (a2 + (1 : Int32)) S h
    · refine z_icmp_gef C 76 c1 d_Pa_goBy_17 (by decide) ?_
      refine z_aload_n C 0 rfl d_Pa_goBy_20 rfl ?_
      refine z_getF2 C 4 (by decide) 3 (by decide) rfl 3 81 rfl (58) rfl zp_55 zk_55 zfl_4_22 d_Pa_goBy_21 ?_
      refine z_iload_n C 2 rfl d_Pa_goBy_24 rfl ?_
      refine z_iload_n C 1 rfl d_Pa_goBy_25 rfl ?_
      obtain ⟨r3, h2, h⟩ := zb1_some h
      refine z_cS C (m_Pa_pair l h2) mf_Pa_pair lk_4_50 st_Pa_pair ⟨rfl, rfl⟩ ⟨by decide, by decide⟩ ⟨Nat.zero_le _, Nat.zero_le _⟩ rfl _ [zr (some 58)] rfl (Nat.le_of_ble_eq_true rfl) d_Pa_goBy_26 ?_
      refine z_fact (fun hSR => ?_)
      obtain ⟨g4, h⟩ := zgd_some h
      refine z_ialoadS C zo_58 zk_58 (za_58 hSR) g4 d_Pa_goBy_29 ?_
      refine z_aload_n C 0 rfl d_Pa_goBy_30 rfl ?_
      refine z_getF2 C 4 (by decide) 3 (by decide) rfl 3 81 rfl (58) rfl zp_55 zk_55 zfl_4_22 d_Pa_goBy_31 ?_
      refine z_iload_n C 1 rfl d_Pa_goBy_34 rfl ?_
      refine z_iload_n C 3 rfl d_Pa_goBy_35 rfl ?_
      obtain ⟨r6, h5, h⟩ := zb1_some h
      refine z_cS C (m_Pa_pair l h5) mf_Pa_pair lk_4_50 st_Pa_pair ⟨rfl, rfl⟩ ⟨by decide, by decide⟩ ⟨Nat.zero_le _, Nat.zero_le _⟩ rfl _ [zr (some 58), zi (zI S 58 r3.toNatClampNeg)] rfl (Nat.le_of_ble_eq_true rfl) d_Pa_goBy_36 ?_
      refine z_fact (fun hSR => ?_)
      obtain ⟨g7, h⟩ := zgd_some h
      refine z_ialoadS C zo_58 zk_58 (za_58 hSR) g7 d_Pa_goBy_39 ?_
      refine z_iadd C d_Pa_goBy_40 ?_
      refine z_istore C [(4, zi ((zI S 58 r3.toNatClampNeg) + (zI S 58 r6.toNatClampNeg))), (0, zr (some 55)), (1, zi a1), (2, zi a2), (3, zi a3)] d_Pa_goBy_41 (by decide) rfl ?_
      refine z_iload C 0 rfl d_Pa_goBy_43 ?_
      refine z_aload_n C 1 rfl d_Pa_goBy_45 rfl ?_
      refine z_getF2 C 4 (by decide) 3 (by decide) rfl 3 81 rfl (58) rfl zp_55 zk_55 zfl_4_22 d_Pa_goBy_46 ?_
      refine z_iload_n C 3 rfl d_Pa_goBy_49 rfl ?_
      refine z_iload_n C 4 rfl d_Pa_goBy_50 rfl ?_
      obtain ⟨r9, h8, h⟩ := zb1_some h
      refine z_cS C (m_Pa_pair l h8) mf_Pa_pair lk_4_50 st_Pa_pair ⟨rfl, rfl⟩ ⟨by decide, by decide⟩ ⟨Nat.zero_le _, Nat.zero_le _⟩ rfl _ [zr (some 58), zi ((zI S 58 r3.toNatClampNeg) + (zI S 58 r6.toNatClampNeg))] rfl (Nat.le_of_ble_eq_true rfl) d_Pa_goBy_51 ?_
      refine z_fact (fun hSR => ?_)
      obtain ⟨g10, h⟩ := zgd_some h
      refine z_ialoadS C zo_58 zk_58 (za_58 hSR) g10 d_Pa_goBy_54 ?_
      rcases zite h with ⟨c11, h⟩ | ⟨c11, h⟩
      · refine z_icmp_get C 70 c11 d_Pa_goBy_55 (by decide) ?_
        refine z_iinc C 4 (a3 + (1 : Int32)) [(3, zi (a3 + (1 : Int32))), (4, zi ((zI S 58 r3.toNatClampNeg) + (zI S 58 r6.toNatClampNeg))), (0, zr (some 55)), (1, zi a1), (2, zi a2)] rfl d_Pa_goBy_70 (by first | rfl | decide) (by decide) rfl ?_
        refine z_goto C 12 d_Pa_goBy_73 (by decide) ?_
        refine zq_lsub [2, 3, 4, 0] [(0, zr (some 55)), (1, zi a1), (2, zi a2), (3, zi (a3 + (1 : Int32)))] rfl ?_
        exact ih a1 a2 (a3 + (1 : Int32)) S h
      · refine z_icmp_gef C 70 c11 d_Pa_goBy_55 (by decide) ?_
        refine z_aload_n C 1 rfl d_Pa_goBy_58 rfl ?_
        refine z_getF2 C 4 (by decide) 3 (by decide) rfl 3 81 rfl (58) rfl zp_55 zk_55 zfl_4_22 d_Pa_goBy_59 ?_
        refine z_iload_n C 3 rfl d_Pa_goBy_62 rfl ?_
        refine z_iload_n C 4 rfl d_Pa_goBy_63 rfl ?_
        obtain ⟨r13, h12, h⟩ := zb1_some h
        refine z_cS C (m_Pa_pair l h12) mf_Pa_pair lk_4_50 st_Pa_pair ⟨rfl, rfl⟩ ⟨by decide, by decide⟩ ⟨Nat.zero_le _, Nat.zero_le _⟩ rfl _ [zr (some 58)] rfl (Nat.le_of_ble_eq_true rfl) d_Pa_goBy_64 ?_
        refine z_iload C 0 rfl d_Pa_goBy_67 ?_
        refine z_fact (fun hSR => ?_)
        obtain ⟨g14, h⟩ := zgd_some h
        refine z_iastoreS C zo_58 zk_58 (za_58 hSR) g14 d_Pa_goBy_69 ?_
        refine z_iinc C 4 (a3 + (1 : Int32)) [(3, zi (a3 + (1 : Int32))), (4, zi ((zI S 58 r3.toNatClampNeg) + (zI S 58 r6.toNatClampNeg))), (0, zr (some 55)), (1, zi a1), (2, zi a2)] rfl d_Pa_goBy_70 (by first | rfl | decide) (by decide) rfl ?_
        refine z_goto C 12 d_Pa_goBy_73 (by decide) ?_
        refine zq_lsub [2, 3, 4, 0] [(0, zr (some 55)), (1, zi a1), (2, zi a2), (3, zi (a3 + (1 : Int32)))] rfl ?_
        exact ih a1 a2 (a3 + (1 : Int32)) (zwI S 58 r13.toNatClampNeg ((zI S 58 r3.toNatClampNeg) + (zI S 58 r6.toNatClampNeg))) h
set_option maxRecDepth 100000 in
set_option maxHeartbeats 4000000 in
theorem c_Pa_goBy_2 {p : Program} {l : Launch} {e : Env} {s : State} {m : MethodId} {args : Array Value} {below : List Frame} {meth : Method} {c : Code} {G : zG} (C : zC p s m args meth c G b_Pa_goBy 5 y_Pa_goBy.cls) (hret : meth.sig.returnType = none) {fu : Nat} {S1 : zSt} : ∀ (n : Nat) (a1 : Int32) (a2 : Int32) (S : zSt) , f_Pa_goBy_2 fu n a1 a2 S = some S1 → zJ p l e rm_Pa_goBy s m args below meth c G true 5 0 0 (zQm below G args s rm_Pa_goBy true none S1) S 2 [(0, zr (some 55)), (1, zi a1), (2, zi a2)] [] := by
  intro n
  induction n with
  | zero =>
    intro a1 a2 S h
    cases h
  | succ n ih =>
    intro a1 a2 S h
    rw [f_Pa_goBy_2] at h
    refine z_iload_n C 2 rfl d_Pa_goBy_2 rfl ?_
    refine z_aload_n C 0 rfl d_Pa_goBy_3 rfl ?_
    refine z_getI C 4 (by decide) 0 (by decide) rfl zo_55 zk_55 zfl_4_9 d_Pa_goBy_4 ?_
    rcases zite h with ⟨c1, h⟩ | ⟨c1, h⟩
    · refine z_icmp_get C 82 c1 d_Pa_goBy_7 (by decide) ?_
      cases h
      exact z_vret C hret ⟨Nat.zero_le _, Nat.zero_le _⟩ d_Pa_goBy_82
    · refine z_icmp_gef C 82 c1 d_Pa_goBy_7 (by decide) ?_
      refine z_iconst C (0 : Int32) (by decide) d_Pa_goBy_10 ?_
      refine z_istore_n C [(3, zi (0 : Int32)), (0, zr (some 55)), (1, zi a1), (2, zi a2)] d_Pa_goBy_11 rfl (by decide) rfl ?_
      refine zq_lsub [1, 2, 3, 0] [(0, zr (some 55)), (1, zi a1), (2, zi a2), (3, zi (0 : Int32))] rfl ?_
      exact c_Pa_goBy_12 C hret (fun z0 z1 zS zh => ih z0 z1 zS zh) fu  a1 a2 (0 : Int32) S h
set_option maxRecDepth 100000 in
set_option maxHeartbeats 4000000 in
theorem m_Pa_goBy (l : Launch) {fu : Nat} {a1 : Int32} {S : zSt} {S1 : zSt} (h : f_Pa_goBy fu a1 S = some S1) : zPM l y_Pa_goBy b_Pa_goBy 5 none rm_Pa_goBy true true [zr (some 55), zi a1] S none S1 := by
  refine zPM_of (by decide) (Nat.le_of_ble_eq_true rfl) (fun p e s m args below meth c G C hret hname => ?_)
  unfold f_Pa_goBy at h
  refine (?_ : zJ p l e rm_Pa_goBy s m args below meth c G true 5 0 0 (zQm below G args s rm_Pa_goBy true none S1) S 0 [(0, zr (some 55)), (1, zi a1)] [])
  refine z_iconst C (0 : Int32) (by decide) d_Pa_goBy_0 ?_
  refine z_istore_n C [(2, zi (0 : Int32)), (0, zr (some 55)), (1, zi a1)] d_Pa_goBy_1 rfl (by decide) rfl ?_
  refine zq_lsub [1, 2, 0] [(0, zr (some 55)), (1, zi a1), (2, zi (0 : Int32))] rfl ?_
  exact c_Pa_goBy_2 C hret fu  a1 (0 : Int32) S h
def f_Pa_fill_133 (fu : Nat) (a1 : Nat) (k8 : Option Nat → Int32 → zSt → Option zSt) (k20 : Option Nat → Int32 → Int32 → zSt → Option zSt) (a2 : Option Nat) (a4 : Int32) (a5 : Int32) (a9 : Int32) (k0 : Int32) (k1 : Int32) (S : zSt) : Option zSt := zgd (0 ≤ k1 ∧ k1.toNatClampNeg < 81) (if a4 = a5 then zgd (0 ≤ a9 ∧ a9.toNatClampNeg < 81) (k20 a2 a4 (a5 + (1 : Int32)) (zwI (zwI S 57 k1.toNatClampNeg k0) 58 a9.toNatClampNeg (0 : Int32))) else zgd (0 ≤ a9 ∧ a9.toNatClampNeg < 81) (zgd (0 ≤ a9 ∧ a9.toNatClampNeg < 81) (k20 a2 a4 (a5 + (1 : Int32)) (zwI (zwI S 57 k1.toNatClampNeg k0) 58 a9.toNatClampNeg (zI (zwI S 57 k1.toNatClampNeg k0) 57 a9.toNatClampNeg)))))
def f_Pa_fill_91 (fu : Nat) (a1 : Nat) (k8 : Option Nat → Int32 → zSt → Option zSt) (k20 : Option Nat → Int32 → Int32 → zSt → Option zSt) (a2 : Option Nat) (a4 : Int32) (a5 : Int32) (a6 : Int32) (k0 : Int32) (S : zSt) : Option zSt := zb1 (f_Pa_pair a4 a5) (fun r2 => zgd (0 ≤ r2 ∧ r2.toNatClampNeg < 81) (zb1 (f_Ps_isShut a1 a6 (zwI S 56 r2.toNatClampNeg k0)) (fun r5 => if r5 = 0 then f_Pa_fill_133 fu a1 k8 k20 a2 a4 a5 r2 k0 r2 (zwI S 56 r2.toNatClampNeg k0) else f_Pa_fill_133 fu a1 k8 k20 a2 a4 a5 r2 (1000000 : Int32) r2 (zwI S 56 r2.toNatClampNeg k0))))
def f_Pa_fill_68 (fu : Nat) (a1 : Nat) (k8 : Option Nat → Int32 → zSt → Option zSt) (k20 : Option Nat → Int32 → Int32 → zSt → Option zSt) (a2 : Option Nat) (a4 : Int32) (a5 : Int32) (a6 : Int32) (k0 : Int32) (S : zSt) : Option zSt := if k0 = 0 then zb2 (f_As_told fu a1 a2 (0 : Int32) a4 a5 S) (fun r3 S4 => f_Pa_fill_91 fu a1 k8 k20 a2 a4 a5 a6 r3 S4) else f_Pa_fill_91 fu a1 k8 k20 a2 a4 a5 a6 (1000000 : Int32) S
def f_Pa_fill_20 (fu : Nat) (a1 : Nat) (k8 : Option Nat → Int32 → zSt → Option zSt) : Nat → Option Nat → Int32 → Int32 → zSt → Option zSt
  | 0, _, _, _, _ => none
  | n + 1, a2, a4, a5, S => if (zI S 55 0) ≤ a5 then k8 a2 (a4 + (1 : Int32)) S else zb1 (f_Ps_pairOf a1 a4 a5 S) (fun r3 => zb1 (f_Ps_farOf a1 r3 S) (fun r5 => if r5 = 0 then f_Pa_fill_68 fu a1 k8 (f_Pa_fill_20 fu a1 k8 n) a2 a4 a5 r3 (1 : Int32) S else zb2 (f_As_told fu a1 a2 (3 : Int32) a4 a5 S) (fun r8 S9 => if r8 = (1 : Int32) then f_Pa_fill_68 fu a1 k8 (f_Pa_fill_20 fu a1 k8 n) a2 a4 a5 r3 (1 : Int32) S9 else f_Pa_fill_68 fu a1 k8 (f_Pa_fill_20 fu a1 k8 n) a2 a4 a5 r3 (0 : Int32) S9)))
def f_Pa_fill_174 (fu : Nat) (a1 : Nat) : Nat → Int32 → zSt → Option zSt
  | 0, _, _ => none
  | n + 1, a4, S => if (zI S 55 0) ≤ a4 then some S else zb1 (f_Pa_goBy fu a4 S) (fun S3 => f_Pa_fill_174 fu a1 n (a4 + (1 : Int32)) S3)
def f_Pa_fill_8 (fu : Nat) (a1 : Nat) : Nat → Option Nat → Int32 → zSt → Option zSt
  | 0, _, _, _ => none
  | n + 1, a2, a4, S => if (zI S 55 0) ≤ a4 then f_Pa_fill_174 fu a1 fu (0 : Int32) S else f_Pa_fill_20 fu a1 (f_Pa_fill_8 fu a1 n) fu a2 a4 (0 : Int32) S
def f_Pa_fill (fu : Nat) (a1 : Nat) (a2 : Option Nat) (S : zSt) : Option zSt := zb1 (f_Pa_take a1 S) (fun S2 => f_Pa_fill_8 fu a1 fu a2 (0 : Int32) S2)
set_option maxRecDepth 100000 in
set_option maxHeartbeats 4000000 in
theorem c_Pa_fill_133 {p : Program} {l : Launch} {e : Env} {s : State} {m : MethodId} {args : Array Value} {below : List Frame} {meth : Method} {c : Code} {G : zG} (C : zC p s m args meth c G b_Pa_fill 10 y_Pa_fill.cls) (hret : meth.sig.returnType = none) {fu : Nat} {a1 : Nat} {S1 : zSt} (ha1 : zK a1 = 5) (ga1 : a1 < zN0) {k8 : Option Nat → Int32 → zSt → Option zSt} (hk8 : ∀ (a2 : Option Nat) (a4 : Int32) (S : zSt) , k8 a2 a4 S = some S1 → zJ p l e rm_Pa_fill s m args below meth c G true 10 0 0 (zQm below G args s rm_Pa_fill true none S1) S 8 [(0, zr (some 55)), (1, zr (some a1)), (2, zr a2), (3, zr (some 52)), (4, zi a4)] []) {k20 : Option Nat → Int32 → Int32 → zSt → Option zSt} (hk20 : ∀ (a2 : Option Nat) (a4 : Int32) (a5 : Int32) (S : zSt) , k20 a2 a4 a5 S = some S1 → zJ p l e rm_Pa_fill s m args below meth c G true 10 0 0 (zQm below G args s rm_Pa_fill true none S1) S 20 [(0, zr (some 55)), (1, zr (some a1)), (2, zr a2), (3, zr (some 52)), (4, zi a4), (5, zi a5)] []) : ∀ (a2 : Option Nat) (a4 : Int32) (a5 : Int32) (a9 : Int32) (k0 : Int32) (k1 : Int32) (S : zSt) , f_Pa_fill_133 fu a1 k8 k20 a2 a4 a5 a9 k0 k1 S = some S1 → zJ p l e rm_Pa_fill s m args below meth c G true 10 0 0 (zQm below G args s rm_Pa_fill true none S1) S 133 [(0, zr (some 55)), (1, zr (some a1)), (2, zr a2), (3, zr (some 52)), (4, zi a4), (5, zi a5), (9, zi a9)] [zi k0, zi k1, zr (some 57)] := by
  intro a2 a4 a5 a9 k0 k1 S h
  unfold f_Pa_fill_133 at h
  refine z_fact (fun hSR => ?_)
  obtain ⟨g1, h⟩ := zgd_some h
  refine z_iastoreS C zo_57 zk_57 (za_57 hSR) g1 d_Pa_fill_133 ?_
  refine z_aload_n C 0 rfl d_Pa_fill_134 rfl ?_
  refine z_getF2 C 4 (by decide) 3 (by decide) rfl 3 81 rfl (58) rfl zp_55 zk_55 zfl_4_22 d_Pa_fill_135 ?_
  refine z_iload C 6 rfl d_Pa_fill_138 ?_
  refine z_iload C 4 rfl d_Pa_fill_140 ?_
  refine z_iload C 5 rfl d_Pa_fill_142 ?_
  rcases zite h with ⟨c2, h⟩ | ⟨c2, h⟩
  · refine z_icmp_nef C 151 c2 d_Pa_fill_144 (by decide) ?_
    refine z_iconst C (0 : Int32) (by decide) d_Pa_fill_147 ?_
    refine z_goto C 158 d_Pa_fill_148 (by decide) ?_
    refine z_fact (fun hSR => ?_)
    obtain ⟨g5, h⟩ := zgd_some h
    refine z_iastoreS C zo_58 zk_58 (za_58 hSR) g5 d_Pa_fill_158 ?_
    refine z_iinc C 5 (a5 + (1 : Int32)) [(5, zi (a5 + (1 : Int32))), (0, zr (some 55)), (1, zr (some a1)), (2, zr a2), (3, zr (some 52)), (4, zi a4), (9, zi a9)] rfl d_Pa_fill_159 (by first | rfl | decide) (by decide) rfl ?_
    refine z_goto C 20 d_Pa_fill_162 (by decide) ?_
    refine zq_lsub [1, 2, 3, 4, 5, 0] [(0, zr (some 55)), (1, zr (some a1)), (2, zr a2), (3, zr (some 52)), (4, zi a4), (5, zi (a5 + (1 : Int32)))] rfl ?_
    exact hk20 a2 a4 (a5 + (1 : Int32)) (zwI (zwI S 57 k1.toNatClampNeg k0) 58 a9.toNatClampNeg (0 : Int32)) h
  · refine z_icmp_net C 151 c2 d_Pa_fill_144 (by decide) ?_
    refine z_aload_n C 0 rfl d_Pa_fill_151 rfl ?_
    refine z_getF2 C 4 (by decide) 2 (by decide) rfl 2 81 rfl (57) rfl zp_55 zk_55 zfl_4_19 d_Pa_fill_152 ?_
    refine z_iload C 6 rfl d_Pa_fill_155 ?_
    refine z_fact (fun hSR => ?_)
    obtain ⟨g3, h⟩ := zgd_some h
    refine z_ialoadS C zo_57 zk_57 (za_57 hSR) g3 d_Pa_fill_157 ?_
    refine z_fact (fun hSR => ?_)
    obtain ⟨g4, h⟩ := zgd_some h
    refine z_iastoreS C zo_58 zk_58 (za_58 hSR) g4 d_Pa_fill_158 ?_
    refine z_iinc C 5 (a5 + (1 : Int32)) [(5, zi (a5 + (1 : Int32))), (0, zr (some 55)), (1, zr (some a1)), (2, zr a2), (3, zr (some 52)), (4, zi a4), (9, zi a9)] rfl d_Pa_fill_159 (by first | rfl | decide) (by decide) rfl ?_
    refine z_goto C 20 d_Pa_fill_162 (by decide) ?_
    refine zq_lsub [1, 2, 3, 4, 5, 0] [(0, zr (some 55)), (1, zr (some a1)), (2, zr a2), (3, zr (some 52)), (4, zi a4), (5, zi (a5 + (1 : Int32)))] rfl ?_
    exact hk20 a2 a4 (a5 + (1 : Int32)) (zwI (zwI S 57 k1.toNatClampNeg k0) 58 a9.toNatClampNeg (zI (zwI S 57 k1.toNatClampNeg k0) 57 a9.toNatClampNeg)) h
set_option maxRecDepth 100000 in
set_option maxHeartbeats 4000000 in
theorem c_Pa_fill_91 {p : Program} {l : Launch} {e : Env} {s : State} {m : MethodId} {args : Array Value} {below : List Frame} {meth : Method} {c : Code} {G : zG} (C : zC p s m args meth c G b_Pa_fill 10 y_Pa_fill.cls) (hret : meth.sig.returnType = none) {fu : Nat} {a1 : Nat} {S1 : zSt} (ha1 : zK a1 = 5) (ga1 : a1 < zN0) {k8 : Option Nat → Int32 → zSt → Option zSt} (hk8 : ∀ (a2 : Option Nat) (a4 : Int32) (S : zSt) , k8 a2 a4 S = some S1 → zJ p l e rm_Pa_fill s m args below meth c G true 10 0 0 (zQm below G args s rm_Pa_fill true none S1) S 8 [(0, zr (some 55)), (1, zr (some a1)), (2, zr a2), (3, zr (some 52)), (4, zi a4)] []) {k20 : Option Nat → Int32 → Int32 → zSt → Option zSt} (hk20 : ∀ (a2 : Option Nat) (a4 : Int32) (a5 : Int32) (S : zSt) , k20 a2 a4 a5 S = some S1 → zJ p l e rm_Pa_fill s m args below meth c G true 10 0 0 (zQm below G args s rm_Pa_fill true none S1) S 20 [(0, zr (some 55)), (1, zr (some a1)), (2, zr a2), (3, zr (some 52)), (4, zi a4), (5, zi a5)] []) : ∀ (a2 : Option Nat) (a4 : Int32) (a5 : Int32) (a6 : Int32) (k0 : Int32) (S : zSt) , f_Pa_fill_91 fu a1 k8 k20 a2 a4 a5 a6 k0 S = some S1 → zJ p l e rm_Pa_fill s m args below meth c G true 10 0 0 (zQm below G args s rm_Pa_fill true none S1) S 91 [(0, zr (some 55)), (1, zr (some a1)), (2, zr a2), (3, zr (some 52)), (4, zi a4), (5, zi a5), (6, zi a6)] [zi k0] := by
  intro a2 a4 a5 a6 k0 S h
  unfold f_Pa_fill_91 at h
  refine z_istore C [(8, zi k0), (0, zr (some 55)), (1, zr (some a1)), (2, zr a2), (3, zr (some 52)), (4, zi a4), (5, zi a5), (6, zi a6)] d_Pa_fill_91 (by decide) rfl ?_
  refine z_iload C 5 rfl d_Pa_fill_93 ?_
  refine z_iload C 6 rfl d_Pa_fill_95 ?_
  obtain ⟨r2, h1, h⟩ := zb1_some h
  refine z_cS C (m_Pa_pair l h1) mf_Pa_pair lk_4_50 st_Pa_pair ⟨rfl, rfl⟩ ⟨by decide, by decide⟩ ⟨Nat.zero_le _, Nat.zero_le _⟩ rfl _ [] rfl (Nat.le_of_ble_eq_true rfl) d_Pa_fill_97 ?_
  refine z_istore C [(9, zi r2), (8, zi k0), (0, zr (some 55)), (1, zr (some a1)), (2, zr a2), (3, zr (some 52)), (4, zi a4), (5, zi a5), (6, zi a6)] d_Pa_fill_100 (by decide) rfl ?_
  refine z_aload_n C 2 rfl d_Pa_fill_102 rfl ?_
  refine z_getF2 C 4 (by decide) 1 (by decide) rfl 1 81 rfl (56) rfl zp_55 zk_55 zfl_4_15 d_Pa_fill_103 ?_
  refine z_iload C 0 rfl d_Pa_fill_106 ?_
  refine z_iload C 1 rfl d_Pa_fill_108 ?_
  refine z_fact (fun hSR => ?_)
  obtain ⟨g3, h⟩ := zgd_some h
  refine z_iastoreS C zo_56 zk_56 (za_56 hSR) g3 d_Pa_fill_110 ?_
  refine z_aload_n C 2 rfl d_Pa_fill_111 rfl ?_
  refine z_getF2 C 4 (by decide) 2 (by decide) rfl 2 81 rfl (57) rfl zp_55 zk_55 zfl_4_19 d_Pa_fill_112 ?_
  refine z_iload C 0 rfl d_Pa_fill_115 ?_
  refine z_aload_n C 3 rfl d_Pa_fill_117 rfl ?_
  refine z_iload C 8 rfl d_Pa_fill_118 ?_
  obtain ⟨r5, h4, h⟩ := zb1_some h
  refine z_cV C 5 (by decide) (m_Ps_isShut l ha1 ga1 h4) mf_Ps_isShut lk_4_53 in_Ps_isShut se_Ps_isShut rfl (Or.inl ⟨rfl, ga1⟩) ha1 ⟨rfl, rfl⟩ ⟨by decide, by decide⟩ ⟨Nat.zero_le _, Nat.zero_le _⟩ rfl _ [zi r2, zr (some 57)] rfl (Nat.le_of_ble_eq_true rfl) d_Pa_fill_120 ?_
  rcases zite h with ⟨c6, h⟩ | ⟨c6, h⟩
  · refine z_if_eqt C 131 c6 d_Pa_fill_123 (by decide) ?_
    refine z_iload C 1 rfl d_Pa_fill_131 ?_
    refine zq_lsub [2, 3, 4, 5, 6, 7, 0] [(0, zr (some 55)), (1, zr (some a1)), (2, zr a2), (3, zr (some 52)), (4, zi a4), (5, zi a5), (9, zi r2)] rfl ?_
    exact c_Pa_fill_133 C hret ha1 ga1 hk8 hk20  a2 a4 a5 r2 k0 r2 (zwI S 56 r2.toNatClampNeg k0) h
  · refine z_if_eqf C 131 c6 d_Pa_fill_123 (by decide) ?_
    refine z_ldc C zc_4_49 d_Pa_fill_126 ?_
    refine z_goto C 133 d_Pa_fill_128 (by decide) ?_
    refine zq_lsub [2, 3, 4, 5, 6, 7, 0] [(0, zr (some 55)), (1, zr (some a1)), (2, zr a2), (3, zr (some 52)), (4, zi a4), (5, zi a5), (9, zi r2)] rfl ?_
    exact c_Pa_fill_133 C hret ha1 ga1 hk8 hk20  a2 a4 a5 r2 (1000000 : Int32) r2 (zwI S 56 r2.toNatClampNeg k0) h
set_option maxRecDepth 100000 in
set_option maxHeartbeats 4000000 in
theorem c_Pa_fill_68 {p : Program} {l : Launch} {e : Env} {s : State} {m : MethodId} {args : Array Value} {below : List Frame} {meth : Method} {c : Code} {G : zG} (C : zC p s m args meth c G b_Pa_fill 10 y_Pa_fill.cls) (hret : meth.sig.returnType = none) {fu : Nat} {a1 : Nat} {S1 : zSt} (ha1 : zK a1 = 5) (ga1 : a1 < zN0) {k8 : Option Nat → Int32 → zSt → Option zSt} (hk8 : ∀ (a2 : Option Nat) (a4 : Int32) (S : zSt) , k8 a2 a4 S = some S1 → zJ p l e rm_Pa_fill s m args below meth c G true 10 0 0 (zQm below G args s rm_Pa_fill true none S1) S 8 [(0, zr (some 55)), (1, zr (some a1)), (2, zr a2), (3, zr (some 52)), (4, zi a4)] []) {k20 : Option Nat → Int32 → Int32 → zSt → Option zSt} (hk20 : ∀ (a2 : Option Nat) (a4 : Int32) (a5 : Int32) (S : zSt) , k20 a2 a4 a5 S = some S1 → zJ p l e rm_Pa_fill s m args below meth c G true 10 0 0 (zQm below G args s rm_Pa_fill true none S1) S 20 [(0, zr (some 55)), (1, zr (some a1)), (2, zr a2), (3, zr (some 52)), (4, zi a4), (5, zi a5)] []) : ∀ (a2 : Option Nat) (a4 : Int32) (a5 : Int32) (a6 : Int32) (k0 : Int32) (S : zSt) , f_Pa_fill_68 fu a1 k8 k20 a2 a4 a5 a6 k0 S = some S1 → zJ p l e rm_Pa_fill s m args below meth c G true 10 0 0 (zQm below G args s rm_Pa_fill true none S1) S 68 [(0, zr (some 55)), (1, zr (some a1)), (2, zr a2), (3, zr (some 52)), (4, zi a4), (5, zi a5), (6, zi a6)] [zi k0] := by
  intro a2 a4 a5 a6 k0 S h
  unfold f_Pa_fill_68 at h
  refine z_istore C [(7, zi k0), (0, zr (some 55)), (1, zr (some a1)), (2, zr a2), (3, zr (some 52)), (4, zi a4), (5, zi a5), (6, zi a6)] d_Pa_fill_68 (by decide) rfl ?_
  refine z_iload C 0 rfl d_Pa_fill_70 ?_
  rcases zite h with ⟨c1, h⟩ | ⟨c1, h⟩
  · refine z_if_eqt C 80 c1 d_Pa_fill_72 (by decide) ?_
    refine z_aload_n C 4 rfl d_Pa_fill_80 rfl ?_
    refine z_aload_n C 2 rfl d_Pa_fill_81 rfl ?_
    refine z_aload_n C 3 rfl d_Pa_fill_82 rfl ?_
    refine z_iconst C (0 : Int32) (by decide) d_Pa_fill_83 ?_
    refine z_iload C 5 rfl d_Pa_fill_84 ?_
    refine z_iload C 6 rfl d_Pa_fill_86 ?_
    obtain ⟨r3, S4, h2, h⟩ := zb2_some h
    refine z_cV C 1 (by decide) (m_As_told l ha1 ga1 h2) mf_As_told lk_4_43 in_As_told se_As_told rfl zo_52 zk_52 ⟨rfl, rfl⟩ ⟨by decide, by decide⟩ ⟨Nat.zero_le _, Nat.zero_le _⟩ rfl _ [] rfl (Nat.le_of_ble_eq_true rfl) d_Pa_fill_88 ?_
    refine zq_lsub [1, 2, 3, 4, 5, 6, 7] [(0, zr (some 55)), (1, zr (some a1)), (2, zr a2), (3, zr (some 52)), (4, zi a4), (5, zi a5), (6, zi a6)] rfl ?_
    exact c_Pa_fill_91 C hret ha1 ga1 hk8 hk20  a2 a4 a5 a6 r3 S4 h
  · refine z_if_eqf C 80 c1 d_Pa_fill_72 (by decide) ?_
    refine z_ldc C zc_4_49 d_Pa_fill_75 ?_
    refine z_goto C 91 d_Pa_fill_77 (by decide) ?_
    refine zq_lsub [1, 2, 3, 4, 5, 6, 7] [(0, zr (some 55)), (1, zr (some a1)), (2, zr a2), (3, zr (some 52)), (4, zi a4), (5, zi a5), (6, zi a6)] rfl ?_
    exact c_Pa_fill_91 C hret ha1 ga1 hk8 hk20  a2 a4 a5 a6 (1000000 : Int32) S h
set_option maxRecDepth 100000 in
set_option maxHeartbeats 4000000 in
theorem c_Pa_fill_20 {p : Program} {l : Launch} {e : Env} {s : State} {m : MethodId} {args : Array Value} {below : List Frame} {meth : Method} {c : Code} {G : zG} (C : zC p s m args meth c G b_Pa_fill 10 y_Pa_fill.cls) (hret : meth.sig.returnType = none) {fu : Nat} {a1 : Nat} {S1 : zSt} (ha1 : zK a1 = 5) (ga1 : a1 < zN0) {k8 : Option Nat → Int32 → zSt → Option zSt} (hk8 : ∀ (a2 : Option Nat) (a4 : Int32) (S : zSt) , k8 a2 a4 S = some S1 → zJ p l e rm_Pa_fill s m args below meth c G true 10 0 0 (zQm below G args s rm_Pa_fill true none S1) S 8 [(0, zr (some 55)), (1, zr (some a1)), (2, zr a2), (3, zr (some 52)), (4, zi a4)] []) : ∀ (n : Nat) (a2 : Option Nat) (a4 : Int32) (a5 : Int32) (S : zSt) , f_Pa_fill_20 fu a1 k8 n a2 a4 a5 S = some S1 → zJ p l e rm_Pa_fill s m args below meth c G true 10 0 0 (zQm below G args s rm_Pa_fill true none S1) S 20 [(0, zr (some 55)), (1, zr (some a1)), (2, zr a2), (3, zr (some 52)), (4, zi a4), (5, zi a5)] [] := by
  intro n
  induction n with
  | zero =>
    intro a2 a4 a5 S h
    cases h
  | succ n ih =>
    intro a2 a4 a5 S h
    rw [f_Pa_fill_20] at h
    refine z_iload C 5 rfl d_Pa_fill_20 ?_
    refine z_aload_n C 0 rfl d_Pa_fill_22 rfl ?_
    refine z_getI C 4 (by decide) 0 (by decide) rfl zo_55 zk_55 zfl_4_9 d_Pa_fill_23 ?_
    rcases zite h with ⟨c1, h⟩ | ⟨c1, h⟩
    · refine z_icmp_get C 165 c1 d_Pa_fill_26 (by decide) ?_
      refine z_iinc C 4 (a4 + (1 : Int32)) [(4, zi (a4 + (1 : Int32))), (0, zr (some 55)), (1, zr (some a1)), (2, zr a2), (3, zr (some 52)), (5, zi a5)] rfl d_Pa_fill_165 (by first | rfl | decide) (by decide) rfl ?_
      refine z_goto C 8 d_Pa_fill_168 (by decide) ?_
      refine zq_lsub [1, 2, 3, 4, 0] [(0, zr (some 55)), (1, zr (some a1)), (2, zr a2), (3, zr (some 52)), (4, zi (a4 + (1 : Int32)))] rfl ?_
      exact hk8 a2 (a4 + (1 : Int32)) S h
    · refine z_icmp_gef C 165 c1 d_Pa_fill_26 (by decide) ?_
      refine z_aload_n C 1 rfl d_Pa_fill_29 rfl ?_
      refine z_iload C 4 rfl d_Pa_fill_30 ?_
      refine z_iload C 5 rfl d_Pa_fill_32 ?_
      obtain ⟨r3, h2, h⟩ := zb1_some h
      refine z_cV C 5 (by decide) (m_Ps_pairOf l ha1 ga1 h2) mf_Ps_pairOf lk_4_35 in_Ps_pairOf se_Ps_pairOf rfl (Or.inl ⟨rfl, ga1⟩) ha1 ⟨rfl, rfl⟩ ⟨by decide, by decide⟩ ⟨Nat.zero_le _, Nat.zero_le _⟩ rfl _ [] rfl (Nat.le_of_ble_eq_true rfl) d_Pa_fill_34 ?_
      refine z_istore C [(6, zi r3), (0, zr (some 55)), (1, zr (some a1)), (2, zr a2), (3, zr (some 52)), (4, zi a4), (5, zi a5)] d_Pa_fill_37 (by decide) rfl ?_
      refine z_aload_n C 2 rfl d_Pa_fill_39 rfl ?_
      refine z_iload C 0 rfl d_Pa_fill_40 ?_
      obtain ⟨r5, h4, h⟩ := zb1_some h
      refine z_cV C 5 (by decide) (m_Ps_farOf l ha1 ga1 h4) mf_Ps_farOf lk_4_39 in_Ps_farOf se_Ps_farOf rfl (Or.inl ⟨rfl, ga1⟩) ha1 ⟨rfl, rfl⟩ ⟨by decide, by decide⟩ ⟨Nat.zero_le _, Nat.zero_le _⟩ rfl _ [] rfl (Nat.le_of_ble_eq_true rfl) d_Pa_fill_42 ?_
      rcases zite h with ⟨c6, h⟩ | ⟨c6, h⟩
      · refine z_if_eqt C 63 c6 d_Pa_fill_45 (by decide) ?_
        refine z_iconst C (1 : Int32) (by decide) d_Pa_fill_63 ?_
        refine z_goto C 68 d_Pa_fill_64 (by decide) ?_
        refine zq_lsub [1, 2, 3, 4, 5, 6, 0] [(0, zr (some 55)), (1, zr (some a1)), (2, zr a2), (3, zr (some 52)), (4, zi a4), (5, zi a5), (6, zi r3)] rfl ?_
        exact c_Pa_fill_68 C hret ha1 ga1 hk8 (fun z0 z1 z2 zS zh => ih z0 z1 z2 zS zh)  a2 a4 a5 r3 (1 : Int32) S h
      · refine z_if_eqf C 63 c6 d_Pa_fill_45 (by decide) ?_
        refine z_aload_n C 4 rfl d_Pa_fill_48 rfl ?_
        refine z_aload_n C 2 rfl d_Pa_fill_49 rfl ?_
        refine z_aload_n C 3 rfl d_Pa_fill_50 rfl ?_
        refine z_iconst C (3 : Int32) (by decide) d_Pa_fill_51 ?_
        refine z_iload C 5 rfl d_Pa_fill_52 ?_
        refine z_iload C 6 rfl d_Pa_fill_54 ?_
        obtain ⟨r8, S9, h7, h⟩ := zb2_some h
        refine z_cV C 1 (by decide) (m_As_told l ha1 ga1 h7) mf_As_told lk_4_43 in_As_told se_As_told rfl zo_52 zk_52 ⟨rfl, rfl⟩ ⟨by decide, by decide⟩ ⟨Nat.zero_le _, Nat.zero_le _⟩ rfl _ [] rfl (Nat.le_of_ble_eq_true rfl) d_Pa_fill_56 ?_
        refine z_iconst C (1 : Int32) (by decide) d_Pa_fill_59 ?_
        rcases zite h with ⟨c10, h⟩ | ⟨c10, h⟩
        · refine z_icmp_nef C 67 c10 d_Pa_fill_60 (by decide) ?_
          refine z_iconst C (1 : Int32) (by decide) d_Pa_fill_63 ?_
          refine z_goto C 68 d_Pa_fill_64 (by decide) ?_
          refine zq_lsub [1, 2, 3, 4, 5, 6, 0] [(0, zr (some 55)), (1, zr (some a1)), (2, zr a2), (3, zr (some 52)), (4, zi a4), (5, zi a5), (6, zi r3)] rfl ?_
          exact c_Pa_fill_68 C hret ha1 ga1 hk8 (fun z0 z1 z2 zS zh => ih z0 z1 z2 zS zh)  a2 a4 a5 r3 (1 : Int32) S9 h
        · refine z_icmp_net C 67 c10 d_Pa_fill_60 (by decide) ?_
          refine z_iconst C (0 : Int32) (by decide) d_Pa_fill_67 ?_
          refine zq_lsub [1, 2, 3, 4, 5, 6, 0] [(0, zr (some 55)), (1, zr (some a1)), (2, zr a2), (3, zr (some 52)), (4, zi a4), (5, zi a5), (6, zi r3)] rfl ?_
          exact c_Pa_fill_68 C hret ha1 ga1 hk8 (fun z0 z1 z2 zS zh => ih z0 z1 z2 zS zh)  a2 a4 a5 r3 (0 : Int32) S9 h
set_option maxRecDepth 100000 in
set_option maxHeartbeats 4000000 in
theorem c_Pa_fill_174 {p : Program} {l : Launch} {e : Env} {s : State} {m : MethodId} {args : Array Value} {below : List Frame} {meth : Method} {c : Code} {G : zG} (C : zC p s m args meth c G b_Pa_fill 10 y_Pa_fill.cls) (hret : meth.sig.returnType = none) {fu : Nat} {a1 : Nat} {S1 : zSt} (ha1 : zK a1 = 5) (ga1 : a1 < zN0) : ∀ (n : Nat) (a4 : Int32) (S : zSt) , f_Pa_fill_174 fu a1 n a4 S = some S1 → zJ p l e rm_Pa_fill s m args below meth c G true 10 0 0 (zQm below G args s rm_Pa_fill true none S1) S 174 [(0, zr (some 55)), (4, zi a4)] [] := by
  intro n
  induction n with
  | zero =>
    intro a4 S h
    cases h
  | succ n ih =>
    intro a4 S h
    rw [f_Pa_fill_174] at h
    refine z_iload C 1 rfl d_Pa_fill_174 ?_
    refine z_aload_n C 0 rfl d_Pa_fill_176 rfl ?_
    refine z_getI C 4 (by decide) 0 (by decide) rfl zo_55 zk_55 zfl_4_9 d_Pa_fill_177 ?_
    rcases zite h with ⟨c1, h⟩ | ⟨c1, h⟩
    · refine z_icmp_get C 195 c1 d_Pa_fill_180 (by decide) ?_
      cases h
      exact z_vret C hret ⟨Nat.zero_le _, Nat.zero_le _⟩ d_Pa_fill_195
    · refine z_icmp_gef C 195 c1 d_Pa_fill_180 (by decide) ?_
      refine z_aload_n C 0 rfl d_Pa_fill_183 rfl ?_
      refine z_iload C 1 rfl d_Pa_fill_184 ?_
      obtain ⟨S3, h2, h⟩ := zb1_some h
      refine z_cV C 4 (by decide) (m_Pa_goBy l h2) mf_Pa_goBy lk_4_57 in_Pa_goBy se_Pa_goBy rfl zo_55 zk_55 ⟨rfl, rfl⟩ ⟨by decide, by decide⟩ ⟨Nat.zero_le _, Nat.zero_le _⟩ rfl _ [] rfl (Nat.le_of_ble_eq_true rfl) d_Pa_fill_186 ?_
      refine z_iinc C 1 (a4 + (1 : Int32)) [(4, zi (a4 + (1 : Int32))), (0, zr (some 55))] rfl d_Pa_fill_189 (by first | rfl | decide) (by decide) rfl ?_
      refine z_goto C 174 d_Pa_fill_192 (by decide) ?_
      refine zq_lsub [1, 0] [(0, zr (some 55)), (4, zi (a4 + (1 : Int32)))] rfl ?_
      exact ih (a4 + (1 : Int32)) S3 h
set_option maxRecDepth 100000 in
set_option maxHeartbeats 4000000 in
theorem c_Pa_fill_8 {p : Program} {l : Launch} {e : Env} {s : State} {m : MethodId} {args : Array Value} {below : List Frame} {meth : Method} {c : Code} {G : zG} (C : zC p s m args meth c G b_Pa_fill 10 y_Pa_fill.cls) (hret : meth.sig.returnType = none) {fu : Nat} {a1 : Nat} {S1 : zSt} (ha1 : zK a1 = 5) (ga1 : a1 < zN0) : ∀ (n : Nat) (a2 : Option Nat) (a4 : Int32) (S : zSt) , f_Pa_fill_8 fu a1 n a2 a4 S = some S1 → zJ p l e rm_Pa_fill s m args below meth c G true 10 0 0 (zQm below G args s rm_Pa_fill true none S1) S 8 [(0, zr (some 55)), (1, zr (some a1)), (2, zr a2), (3, zr (some 52)), (4, zi a4)] [] := by
  intro n
  induction n with
  | zero =>
    intro a2 a4 S h
    cases h
  | succ n ih =>
    intro a2 a4 S h
    rw [f_Pa_fill_8] at h
    refine z_iload C 4 rfl d_Pa_fill_8 ?_
    refine z_aload_n C 0 rfl d_Pa_fill_10 rfl ?_
    refine z_getI C 4 (by decide) 0 (by decide) rfl zo_55 zk_55 zfl_4_9 d_Pa_fill_11 ?_
    rcases zite h with ⟨c1, h⟩ | ⟨c1, h⟩
    · refine z_icmp_get C 171 c1 d_Pa_fill_14 (by decide) ?_
      refine z_iconst C (0 : Int32) (by decide) d_Pa_fill_171 ?_
      refine z_istore C [(4, zi (0 : Int32)), (0, zr (some 55)), (1, zr (some a1)), (2, zr a2), (3, zr (some 52))] d_Pa_fill_172 (by decide) rfl ?_
      refine zq_lsub [1, 0] [(0, zr (some 55)), (4, zi (0 : Int32))] rfl ?_
      exact c_Pa_fill_174 C hret ha1 ga1 fu  (0 : Int32) S h
    · refine z_icmp_gef C 171 c1 d_Pa_fill_14 (by decide) ?_
      refine z_iconst C (0 : Int32) (by decide) d_Pa_fill_17 ?_
      refine z_istore C [(5, zi (0 : Int32)), (0, zr (some 55)), (1, zr (some a1)), (2, zr a2), (3, zr (some 52)), (4, zi a4)] d_Pa_fill_18 (by decide) rfl ?_
      refine zq_lsub [1, 2, 3, 4, 5, 0] [(0, zr (some 55)), (1, zr (some a1)), (2, zr a2), (3, zr (some 52)), (4, zi a4), (5, zi (0 : Int32))] rfl ?_
      exact c_Pa_fill_20 C hret ha1 ga1 (fun z0 z1 zS zh => ih z0 z1 zS zh) fu  a2 a4 (0 : Int32) S h
set_option maxRecDepth 100000 in
set_option maxHeartbeats 4000000 in
theorem m_Pa_fill (l : Launch) {fu : Nat} {a1 : Nat} {a2 : Option Nat} {S : zSt} {S1 : zSt} (ha1 : zK a1 = 5) (ga1 : a1 < zN0) (h : f_Pa_fill fu a1 a2 S = some S1) : zPM l y_Pa_fill b_Pa_fill 10 none rm_Pa_fill true true [zr (some 55), zr (some a1), zr a2, zr (some 52)] S none S1 := by
  refine zPM_of (by decide) (Nat.le_of_ble_eq_true rfl) (fun p e s m args below meth c G C hret hname => ?_)
  unfold f_Pa_fill at h
  refine (?_ : zJ p l e rm_Pa_fill s m args below meth c G true 10 0 0 (zQm below G args s rm_Pa_fill true none S1) S 0 [(0, zr (some 55)), (1, zr (some a1)), (2, zr a2), (3, zr (some 52))] [])
  refine z_aload_n C 0 rfl d_Pa_fill_0 rfl ?_
  refine z_aload_n C 1 rfl d_Pa_fill_1 rfl ?_
  obtain ⟨S2, h1, h⟩ := zb1_some h
  refine z_cV C 4 (by decide) (m_Pa_take l ha1 ga1 h1) mf_Pa_take lk_4_31 in_Pa_take se_Pa_take rfl zo_55 zk_55 ⟨rfl, rfl⟩ ⟨by decide, by decide⟩ ⟨Nat.zero_le _, Nat.zero_le _⟩ rfl _ [] rfl (Nat.le_of_ble_eq_true rfl) d_Pa_fill_2 ?_
  refine z_iconst C (0 : Int32) (by decide) d_Pa_fill_5 ?_
  refine z_istore C [(4, zi (0 : Int32)), (0, zr (some 55)), (1, zr (some a1)), (2, zr a2), (3, zr (some 52))] d_Pa_fill_6 (by decide) rfl ?_
  refine zq_lsub [1, 2, 3, 4, 0] [(0, zr (some 55)), (1, zr (some a1)), (2, zr a2), (3, zr (some 52)), (4, zi (0 : Int32))] rfl ?_
  exact c_Pa_fill_8 C hret ha1 ga1 fu  a2 (0 : Int32) S2 h
def f_Lg_bitCount (a0 : Int64) : Option Int32 := some ((((((((((a0 - (((a0.toUInt64 >>> ((1 : Int32).toInt64.toUInt64 &&& Int64.toUInt64 63)).toInt64) &&& (6148914691236517205 : Int64))) &&& (3689348814741910323 : Int64)) + ((((a0 - (((a0.toUInt64 >>> ((1 : Int32).toInt64.toUInt64 &&& Int64.toUInt64 63)).toInt64) &&& (6148914691236517205 : Int64))).toUInt64 >>> ((2 : Int32).toInt64.toUInt64 &&& Int64.toUInt64 63)).toInt64) &&& (3689348814741910323 : Int64))) + (((((a0 - (((a0.toUInt64 >>> ((1 : Int32).toInt64.toUInt64 &&& Int64.toUInt64 63)).toInt64) &&& (6148914691236517205 : Int64))) &&& (3689348814741910323 : Int64)) + ((((a0 - (((a0.toUInt64 >>> ((1 : Int32).toInt64.toUInt64 &&& Int64.toUInt64 63)).toInt64) &&& (6148914691236517205 : Int64))).toUInt64 >>> ((2 : Int32).toInt64.toUInt64 &&& Int64.toUInt64 63)).toInt64) &&& (3689348814741910323 : Int64))).toUInt64 >>> ((4 : Int32).toInt64.toUInt64 &&& Int64.toUInt64 63)).toInt64)) &&& (1085102592571150095 : Int64)) + (((((((a0 - (((a0.toUInt64 >>> ((1 : Int32).toInt64.toUInt64 &&& Int64.toUInt64 63)).toInt64) &&& (6148914691236517205 : Int64))) &&& (3689348814741910323 : Int64)) + ((((a0 - (((a0.toUInt64 >>> ((1 : Int32).toInt64.toUInt64 &&& Int64.toUInt64 63)).toInt64) &&& (6148914691236517205 : Int64))).toUInt64 >>> ((2 : Int32).toInt64.toUInt64 &&& Int64.toUInt64 63)).toInt64) &&& (3689348814741910323 : Int64))) + (((((a0 - (((a0.toUInt64 >>> ((1 : Int32).toInt64.toUInt64 &&& Int64.toUInt64 63)).toInt64) &&& (6148914691236517205 : Int64))) &&& (3689348814741910323 : Int64)) + ((((a0 - (((a0.toUInt64 >>> ((1 : Int32).toInt64.toUInt64 &&& Int64.toUInt64 63)).toInt64) &&& (6148914691236517205 : Int64))).toUInt64 >>> ((2 : Int32).toInt64.toUInt64 &&& Int64.toUInt64 63)).toInt64) &&& (3689348814741910323 : Int64))).toUInt64 >>> ((4 : Int32).toInt64.toUInt64 &&& Int64.toUInt64 63)).toInt64)) &&& (1085102592571150095 : Int64)).toUInt64 >>> ((8 : Int32).toInt64.toUInt64 &&& Int64.toUInt64 63)).toInt64)) + ((((((((a0 - (((a0.toUInt64 >>> ((1 : Int32).toInt64.toUInt64 &&& Int64.toUInt64 63)).toInt64) &&& (6148914691236517205 : Int64))) &&& (3689348814741910323 : Int64)) + ((((a0 - (((a0.toUInt64 >>> ((1 : Int32).toInt64.toUInt64 &&& Int64.toUInt64 63)).toInt64) &&& (6148914691236517205 : Int64))).toUInt64 >>> ((2 : Int32).toInt64.toUInt64 &&& Int64.toUInt64 63)).toInt64) &&& (3689348814741910323 : Int64))) + (((((a0 - (((a0.toUInt64 >>> ((1 : Int32).toInt64.toUInt64 &&& Int64.toUInt64 63)).toInt64) &&& (6148914691236517205 : Int64))) &&& (3689348814741910323 : Int64)) + ((((a0 - (((a0.toUInt64 >>> ((1 : Int32).toInt64.toUInt64 &&& Int64.toUInt64 63)).toInt64) &&& (6148914691236517205 : Int64))).toUInt64 >>> ((2 : Int32).toInt64.toUInt64 &&& Int64.toUInt64 63)).toInt64) &&& (3689348814741910323 : Int64))).toUInt64 >>> ((4 : Int32).toInt64.toUInt64 &&& Int64.toUInt64 63)).toInt64)) &&& (1085102592571150095 : Int64)) + (((((((a0 - (((a0.toUInt64 >>> ((1 : Int32).toInt64.toUInt64 &&& Int64.toUInt64 63)).toInt64) &&& (6148914691236517205 : Int64))) &&& (3689348814741910323 : Int64)) + ((((a0 - (((a0.toUInt64 >>> ((1 : Int32).toInt64.toUInt64 &&& Int64.toUInt64 63)).toInt64) &&& (6148914691236517205 : Int64))).toUInt64 >>> ((2 : Int32).toInt64.toUInt64 &&& Int64.toUInt64 63)).toInt64) &&& (3689348814741910323 : Int64))) + (((((a0 - (((a0.toUInt64 >>> ((1 : Int32).toInt64.toUInt64 &&& Int64.toUInt64 63)).toInt64) &&& (6148914691236517205 : Int64))) &&& (3689348814741910323 : Int64)) + ((((a0 - (((a0.toUInt64 >>> ((1 : Int32).toInt64.toUInt64 &&& Int64.toUInt64 63)).toInt64) &&& (6148914691236517205 : Int64))).toUInt64 >>> ((2 : Int32).toInt64.toUInt64 &&& Int64.toUInt64 63)).toInt64) &&& (3689348814741910323 : Int64))).toUInt64 >>> ((4 : Int32).toInt64.toUInt64 &&& Int64.toUInt64 63)).toInt64)) &&& (1085102592571150095 : Int64)).toUInt64 >>> ((8 : Int32).toInt64.toUInt64 &&& Int64.toUInt64 63)).toInt64)).toUInt64 >>> ((16 : Int32).toInt64.toUInt64 &&& Int64.toUInt64 63)).toInt64)) + (((((((((a0 - (((a0.toUInt64 >>> ((1 : Int32).toInt64.toUInt64 &&& Int64.toUInt64 63)).toInt64) &&& (6148914691236517205 : Int64))) &&& (3689348814741910323 : Int64)) + ((((a0 - (((a0.toUInt64 >>> ((1 : Int32).toInt64.toUInt64 &&& Int64.toUInt64 63)).toInt64) &&& (6148914691236517205 : Int64))).toUInt64 >>> ((2 : Int32).toInt64.toUInt64 &&& Int64.toUInt64 63)).toInt64) &&& (3689348814741910323 : Int64))) + (((((a0 - (((a0.toUInt64 >>> ((1 : Int32).toInt64.toUInt64 &&& Int64.toUInt64 63)).toInt64) &&& (6148914691236517205 : Int64))) &&& (3689348814741910323 : Int64)) + ((((a0 - (((a0.toUInt64 >>> ((1 : Int32).toInt64.toUInt64 &&& Int64.toUInt64 63)).toInt64) &&& (6148914691236517205 : Int64))).toUInt64 >>> ((2 : Int32).toInt64.toUInt64 &&& Int64.toUInt64 63)).toInt64) &&& (3689348814741910323 : Int64))).toUInt64 >>> ((4 : Int32).toInt64.toUInt64 &&& Int64.toUInt64 63)).toInt64)) &&& (1085102592571150095 : Int64)) + (((((((a0 - (((a0.toUInt64 >>> ((1 : Int32).toInt64.toUInt64 &&& Int64.toUInt64 63)).toInt64) &&& (6148914691236517205 : Int64))) &&& (3689348814741910323 : Int64)) + ((((a0 - (((a0.toUInt64 >>> ((1 : Int32).toInt64.toUInt64 &&& Int64.toUInt64 63)).toInt64) &&& (6148914691236517205 : Int64))).toUInt64 >>> ((2 : Int32).toInt64.toUInt64 &&& Int64.toUInt64 63)).toInt64) &&& (3689348814741910323 : Int64))) + (((((a0 - (((a0.toUInt64 >>> ((1 : Int32).toInt64.toUInt64 &&& Int64.toUInt64 63)).toInt64) &&& (6148914691236517205 : Int64))) &&& (3689348814741910323 : Int64)) + ((((a0 - (((a0.toUInt64 >>> ((1 : Int32).toInt64.toUInt64 &&& Int64.toUInt64 63)).toInt64) &&& (6148914691236517205 : Int64))).toUInt64 >>> ((2 : Int32).toInt64.toUInt64 &&& Int64.toUInt64 63)).toInt64) &&& (3689348814741910323 : Int64))).toUInt64 >>> ((4 : Int32).toInt64.toUInt64 &&& Int64.toUInt64 63)).toInt64)) &&& (1085102592571150095 : Int64)).toUInt64 >>> ((8 : Int32).toInt64.toUInt64 &&& Int64.toUInt64 63)).toInt64)) + ((((((((a0 - (((a0.toUInt64 >>> ((1 : Int32).toInt64.toUInt64 &&& Int64.toUInt64 63)).toInt64) &&& (6148914691236517205 : Int64))) &&& (3689348814741910323 : Int64)) + ((((a0 - (((a0.toUInt64 >>> ((1 : Int32).toInt64.toUInt64 &&& Int64.toUInt64 63)).toInt64) &&& (6148914691236517205 : Int64))).toUInt64 >>> ((2 : Int32).toInt64.toUInt64 &&& Int64.toUInt64 63)).toInt64) &&& (3689348814741910323 : Int64))) + (((((a0 - (((a0.toUInt64 >>> ((1 : Int32).toInt64.toUInt64 &&& Int64.toUInt64 63)).toInt64) &&& (6148914691236517205 : Int64))) &&& (3689348814741910323 : Int64)) + ((((a0 - (((a0.toUInt64 >>> ((1 : Int32).toInt64.toUInt64 &&& Int64.toUInt64 63)).toInt64) &&& (6148914691236517205 : Int64))).toUInt64 >>> ((2 : Int32).toInt64.toUInt64 &&& Int64.toUInt64 63)).toInt64) &&& (3689348814741910323 : Int64))).toUInt64 >>> ((4 : Int32).toInt64.toUInt64 &&& Int64.toUInt64 63)).toInt64)) &&& (1085102592571150095 : Int64)) + (((((((a0 - (((a0.toUInt64 >>> ((1 : Int32).toInt64.toUInt64 &&& Int64.toUInt64 63)).toInt64) &&& (6148914691236517205 : Int64))) &&& (3689348814741910323 : Int64)) + ((((a0 - (((a0.toUInt64 >>> ((1 : Int32).toInt64.toUInt64 &&& Int64.toUInt64 63)).toInt64) &&& (6148914691236517205 : Int64))).toUInt64 >>> ((2 : Int32).toInt64.toUInt64 &&& Int64.toUInt64 63)).toInt64) &&& (3689348814741910323 : Int64))) + (((((a0 - (((a0.toUInt64 >>> ((1 : Int32).toInt64.toUInt64 &&& Int64.toUInt64 63)).toInt64) &&& (6148914691236517205 : Int64))) &&& (3689348814741910323 : Int64)) + ((((a0 - (((a0.toUInt64 >>> ((1 : Int32).toInt64.toUInt64 &&& Int64.toUInt64 63)).toInt64) &&& (6148914691236517205 : Int64))).toUInt64 >>> ((2 : Int32).toInt64.toUInt64 &&& Int64.toUInt64 63)).toInt64) &&& (3689348814741910323 : Int64))).toUInt64 >>> ((4 : Int32).toInt64.toUInt64 &&& Int64.toUInt64 63)).toInt64)) &&& (1085102592571150095 : Int64)).toUInt64 >>> ((8 : Int32).toInt64.toUInt64 &&& Int64.toUInt64 63)).toInt64)).toUInt64 >>> ((16 : Int32).toInt64.toUInt64 &&& Int64.toUInt64 63)).toInt64)).toUInt64 >>> ((32 : Int32).toInt64.toUInt64 &&& Int64.toUInt64 63)).toInt64)).toInt32) &&& (127 : Int32))
set_option maxRecDepth 100000 in
set_option maxHeartbeats 4000000 in
theorem m_Lg_bitCount (l : Launch) {a0 : Int64} {S : zSt} {r : Int32} (h : f_Lg_bitCount a0 = some r) : zPM l y_Lg_bitCount b_Lg_bitCount 2 (some .int) rm_Lg_bitCount true true [zl a0] S (some (zi r)) S := by
  refine zPM_of (by decide) (Nat.le_of_ble_eq_true rfl) (fun p e s m args below meth c G C hret hname => ?_)
  unfold f_Lg_bitCount at h
  refine (?_ : zJ p l e rm_Lg_bitCount s m args below meth c G true 2 0 0 (zQm below G args s rm_Lg_bitCount true (some (zi r)) S) S 0 [(0, zl a0)] [])
  refine z_lload_n C 0 rfl d_Lg_bitCount_0 rfl ?_
  refine z_lload_n C 0 rfl d_Lg_bitCount_1 rfl ?_
  refine z_iconst C (1 : Int32) (by decide) d_Lg_bitCount_2 ?_
  refine z_lushr C d_Lg_bitCount_3 ?_
  refine z_ldc2 C zc_Lg_314 d_Lg_bitCount_4 ?_
  refine z_land C d_Lg_bitCount_7 ?_
  refine z_lsub C d_Lg_bitCount_8 ?_
  refine z_lstore_n C [(0, zl (a0 - (((a0.toUInt64 >>> ((1 : Int32).toInt64.toUInt64 &&& Int64.toUInt64 63)).toInt64) &&& (6148914691236517205 : Int64))))] d_Lg_bitCount_9 rfl (by decide) rfl ?_
  refine z_lload_n C 0 rfl d_Lg_bitCount_10 rfl ?_
  refine z_ldc2 C zc_Lg_316 d_Lg_bitCount_11 ?_
  refine z_land C d_Lg_bitCount_14 ?_
  refine z_lload_n C 0 rfl d_Lg_bitCount_15 rfl ?_
  refine z_iconst C (2 : Int32) (by decide) d_Lg_bitCount_16 ?_
  refine z_lushr C d_Lg_bitCount_17 ?_
  refine z_ldc2 C zc_Lg_316 d_Lg_bitCount_18 ?_
  refine z_land C d_Lg_bitCount_21 ?_
  refine z_ladd C d_Lg_bitCount_22 ?_
  refine z_lstore_n C [(0, zl (((a0 - (((a0.toUInt64 >>> ((1 : Int32).toInt64.toUInt64 &&& Int64.toUInt64 63)).toInt64) &&& (6148914691236517205 : Int64))) &&& (3689348814741910323 : Int64)) + ((((a0 - (((a0.toUInt64 >>> ((1 : Int32).toInt64.toUInt64 &&& Int64.toUInt64 63)).toInt64) &&& (6148914691236517205 : Int64))).toUInt64 >>> ((2 : Int32).toInt64.toUInt64 &&& Int64.toUInt64 63)).toInt64) &&& (3689348814741910323 : Int64))))] d_Lg_bitCount_23 rfl (by decide) rfl ?_
  refine z_lload_n C 0 rfl d_Lg_bitCount_24 rfl ?_
  refine z_lload_n C 0 rfl d_Lg_bitCount_25 rfl ?_
  refine z_iconst C (4 : Int32) (by decide) d_Lg_bitCount_26 ?_
  refine z_lushr C d_Lg_bitCount_27 ?_
  refine z_ladd C d_Lg_bitCount_28 ?_
  refine z_ldc2 C zc_Lg_318 d_Lg_bitCount_29 ?_
  refine z_land C d_Lg_bitCount_32 ?_
  refine z_lstore_n C [(0, zl (((((a0 - (((a0.toUInt64 >>> ((1 : Int32).toInt64.toUInt64 &&& Int64.toUInt64 63)).toInt64) &&& (6148914691236517205 : Int64))) &&& (3689348814741910323 : Int64)) + ((((a0 - (((a0.toUInt64 >>> ((1 : Int32).toInt64.toUInt64 &&& Int64.toUInt64 63)).toInt64) &&& (6148914691236517205 : Int64))).toUInt64 >>> ((2 : Int32).toInt64.toUInt64 &&& Int64.toUInt64 63)).toInt64) &&& (3689348814741910323 : Int64))) + (((((a0 - (((a0.toUInt64 >>> ((1 : Int32).toInt64.toUInt64 &&& Int64.toUInt64 63)).toInt64) &&& (6148914691236517205 : Int64))) &&& (3689348814741910323 : Int64)) + ((((a0 - (((a0.toUInt64 >>> ((1 : Int32).toInt64.toUInt64 &&& Int64.toUInt64 63)).toInt64) &&& (6148914691236517205 : Int64))).toUInt64 >>> ((2 : Int32).toInt64.toUInt64 &&& Int64.toUInt64 63)).toInt64) &&& (3689348814741910323 : Int64))).toUInt64 >>> ((4 : Int32).toInt64.toUInt64 &&& Int64.toUInt64 63)).toInt64)) &&& (1085102592571150095 : Int64)))] d_Lg_bitCount_33 rfl (by decide) rfl ?_
  refine z_lload_n C 0 rfl d_Lg_bitCount_34 rfl ?_
  refine z_lload_n C 0 rfl d_Lg_bitCount_35 rfl ?_
  refine z_bipush C (8 : Int32) (by decide) d_Lg_bitCount_36 ?_
  refine z_lushr C d_Lg_bitCount_38 ?_
  refine z_ladd C d_Lg_bitCount_39 ?_
  refine z_lstore_n C [(0, zl ((((((a0 - (((a0.toUInt64 >>> ((1 : Int32).toInt64.toUInt64 &&& Int64.toUInt64 63)).toInt64) &&& (6148914691236517205 : Int64))) &&& (3689348814741910323 : Int64)) + ((((a0 - (((a0.toUInt64 >>> ((1 : Int32).toInt64.toUInt64 &&& Int64.toUInt64 63)).toInt64) &&& (6148914691236517205 : Int64))).toUInt64 >>> ((2 : Int32).toInt64.toUInt64 &&& Int64.toUInt64 63)).toInt64) &&& (3689348814741910323 : Int64))) + (((((a0 - (((a0.toUInt64 >>> ((1 : Int32).toInt64.toUInt64 &&& Int64.toUInt64 63)).toInt64) &&& (6148914691236517205 : Int64))) &&& (3689348814741910323 : Int64)) + ((((a0 - (((a0.toUInt64 >>> ((1 : Int32).toInt64.toUInt64 &&& Int64.toUInt64 63)).toInt64) &&& (6148914691236517205 : Int64))).toUInt64 >>> ((2 : Int32).toInt64.toUInt64 &&& Int64.toUInt64 63)).toInt64) &&& (3689348814741910323 : Int64))).toUInt64 >>> ((4 : Int32).toInt64.toUInt64 &&& Int64.toUInt64 63)).toInt64)) &&& (1085102592571150095 : Int64)) + (((((((a0 - (((a0.toUInt64 >>> ((1 : Int32).toInt64.toUInt64 &&& Int64.toUInt64 63)).toInt64) &&& (6148914691236517205 : Int64))) &&& (3689348814741910323 : Int64)) + ((((a0 - (((a0.toUInt64 >>> ((1 : Int32).toInt64.toUInt64 &&& Int64.toUInt64 63)).toInt64) &&& (6148914691236517205 : Int64))).toUInt64 >>> ((2 : Int32).toInt64.toUInt64 &&& Int64.toUInt64 63)).toInt64) &&& (3689348814741910323 : Int64))) + (((((a0 - (((a0.toUInt64 >>> ((1 : Int32).toInt64.toUInt64 &&& Int64.toUInt64 63)).toInt64) &&& (6148914691236517205 : Int64))) &&& (3689348814741910323 : Int64)) + ((((a0 - (((a0.toUInt64 >>> ((1 : Int32).toInt64.toUInt64 &&& Int64.toUInt64 63)).toInt64) &&& (6148914691236517205 : Int64))).toUInt64 >>> ((2 : Int32).toInt64.toUInt64 &&& Int64.toUInt64 63)).toInt64) &&& (3689348814741910323 : Int64))).toUInt64 >>> ((4 : Int32).toInt64.toUInt64 &&& Int64.toUInt64 63)).toInt64)) &&& (1085102592571150095 : Int64)).toUInt64 >>> ((8 : Int32).toInt64.toUInt64 &&& Int64.toUInt64 63)).toInt64)))] d_Lg_bitCount_40 rfl (by decide) rfl ?_
  refine z_lload_n C 0 rfl d_Lg_bitCount_41 rfl ?_
  refine z_lload_n C 0 rfl d_Lg_bitCount_42 rfl ?_
  refine z_bipush C (16 : Int32) (by decide) d_Lg_bitCount_43 ?_
  refine z_lushr C d_Lg_bitCount_45 ?_
  refine z_ladd C d_Lg_bitCount_46 ?_
  refine z_lstore_n C [(0, zl (((((((a0 - (((a0.toUInt64 >>> ((1 : Int32).toInt64.toUInt64 &&& Int64.toUInt64 63)).toInt64) &&& (6148914691236517205 : Int64))) &&& (3689348814741910323 : Int64)) + ((((a0 - (((a0.toUInt64 >>> ((1 : Int32).toInt64.toUInt64 &&& Int64.toUInt64 63)).toInt64) &&& (6148914691236517205 : Int64))).toUInt64 >>> ((2 : Int32).toInt64.toUInt64 &&& Int64.toUInt64 63)).toInt64) &&& (3689348814741910323 : Int64))) + (((((a0 - (((a0.toUInt64 >>> ((1 : Int32).toInt64.toUInt64 &&& Int64.toUInt64 63)).toInt64) &&& (6148914691236517205 : Int64))) &&& (3689348814741910323 : Int64)) + ((((a0 - (((a0.toUInt64 >>> ((1 : Int32).toInt64.toUInt64 &&& Int64.toUInt64 63)).toInt64) &&& (6148914691236517205 : Int64))).toUInt64 >>> ((2 : Int32).toInt64.toUInt64 &&& Int64.toUInt64 63)).toInt64) &&& (3689348814741910323 : Int64))).toUInt64 >>> ((4 : Int32).toInt64.toUInt64 &&& Int64.toUInt64 63)).toInt64)) &&& (1085102592571150095 : Int64)) + (((((((a0 - (((a0.toUInt64 >>> ((1 : Int32).toInt64.toUInt64 &&& Int64.toUInt64 63)).toInt64) &&& (6148914691236517205 : Int64))) &&& (3689348814741910323 : Int64)) + ((((a0 - (((a0.toUInt64 >>> ((1 : Int32).toInt64.toUInt64 &&& Int64.toUInt64 63)).toInt64) &&& (6148914691236517205 : Int64))).toUInt64 >>> ((2 : Int32).toInt64.toUInt64 &&& Int64.toUInt64 63)).toInt64) &&& (3689348814741910323 : Int64))) + (((((a0 - (((a0.toUInt64 >>> ((1 : Int32).toInt64.toUInt64 &&& Int64.toUInt64 63)).toInt64) &&& (6148914691236517205 : Int64))) &&& (3689348814741910323 : Int64)) + ((((a0 - (((a0.toUInt64 >>> ((1 : Int32).toInt64.toUInt64 &&& Int64.toUInt64 63)).toInt64) &&& (6148914691236517205 : Int64))).toUInt64 >>> ((2 : Int32).toInt64.toUInt64 &&& Int64.toUInt64 63)).toInt64) &&& (3689348814741910323 : Int64))).toUInt64 >>> ((4 : Int32).toInt64.toUInt64 &&& Int64.toUInt64 63)).toInt64)) &&& (1085102592571150095 : Int64)).toUInt64 >>> ((8 : Int32).toInt64.toUInt64 &&& Int64.toUInt64 63)).toInt64)) + ((((((((a0 - (((a0.toUInt64 >>> ((1 : Int32).toInt64.toUInt64 &&& Int64.toUInt64 63)).toInt64) &&& (6148914691236517205 : Int64))) &&& (3689348814741910323 : Int64)) + ((((a0 - (((a0.toUInt64 >>> ((1 : Int32).toInt64.toUInt64 &&& Int64.toUInt64 63)).toInt64) &&& (6148914691236517205 : Int64))).toUInt64 >>> ((2 : Int32).toInt64.toUInt64 &&& Int64.toUInt64 63)).toInt64) &&& (3689348814741910323 : Int64))) + (((((a0 - (((a0.toUInt64 >>> ((1 : Int32).toInt64.toUInt64 &&& Int64.toUInt64 63)).toInt64) &&& (6148914691236517205 : Int64))) &&& (3689348814741910323 : Int64)) + ((((a0 - (((a0.toUInt64 >>> ((1 : Int32).toInt64.toUInt64 &&& Int64.toUInt64 63)).toInt64) &&& (6148914691236517205 : Int64))).toUInt64 >>> ((2 : Int32).toInt64.toUInt64 &&& Int64.toUInt64 63)).toInt64) &&& (3689348814741910323 : Int64))).toUInt64 >>> ((4 : Int32).toInt64.toUInt64 &&& Int64.toUInt64 63)).toInt64)) &&& (1085102592571150095 : Int64)) + (((((((a0 - (((a0.toUInt64 >>> ((1 : Int32).toInt64.toUInt64 &&& Int64.toUInt64 63)).toInt64) &&& (6148914691236517205 : Int64))) &&& (3689348814741910323 : Int64)) + ((((a0 - (((a0.toUInt64 >>> ((1 : Int32).toInt64.toUInt64 &&& Int64.toUInt64 63)).toInt64) &&& (6148914691236517205 : Int64))).toUInt64 >>> ((2 : Int32).toInt64.toUInt64 &&& Int64.toUInt64 63)).toInt64) &&& (3689348814741910323 : Int64))) + (((((a0 - (((a0.toUInt64 >>> ((1 : Int32).toInt64.toUInt64 &&& Int64.toUInt64 63)).toInt64) &&& (6148914691236517205 : Int64))) &&& (3689348814741910323 : Int64)) + ((((a0 - (((a0.toUInt64 >>> ((1 : Int32).toInt64.toUInt64 &&& Int64.toUInt64 63)).toInt64) &&& (6148914691236517205 : Int64))).toUInt64 >>> ((2 : Int32).toInt64.toUInt64 &&& Int64.toUInt64 63)).toInt64) &&& (3689348814741910323 : Int64))).toUInt64 >>> ((4 : Int32).toInt64.toUInt64 &&& Int64.toUInt64 63)).toInt64)) &&& (1085102592571150095 : Int64)).toUInt64 >>> ((8 : Int32).toInt64.toUInt64 &&& Int64.toUInt64 63)).toInt64)).toUInt64 >>> ((16 : Int32).toInt64.toUInt64 &&& Int64.toUInt64 63)).toInt64)))] d_Lg_bitCount_47 rfl (by decide) rfl ?_
  refine z_lload_n C 0 rfl d_Lg_bitCount_48 rfl ?_
  refine z_lload_n C 0 rfl d_Lg_bitCount_49 rfl ?_
  refine z_bipush C (32 : Int32) (by decide) d_Lg_bitCount_50 ?_
  refine z_lushr C d_Lg_bitCount_52 ?_
  refine z_ladd C d_Lg_bitCount_53 ?_
  refine z_lstore_n C [(0, zl ((((((((a0 - (((a0.toUInt64 >>> ((1 : Int32).toInt64.toUInt64 &&& Int64.toUInt64 63)).toInt64) &&& (6148914691236517205 : Int64))) &&& (3689348814741910323 : Int64)) + ((((a0 - (((a0.toUInt64 >>> ((1 : Int32).toInt64.toUInt64 &&& Int64.toUInt64 63)).toInt64) &&& (6148914691236517205 : Int64))).toUInt64 >>> ((2 : Int32).toInt64.toUInt64 &&& Int64.toUInt64 63)).toInt64) &&& (3689348814741910323 : Int64))) + (((((a0 - (((a0.toUInt64 >>> ((1 : Int32).toInt64.toUInt64 &&& Int64.toUInt64 63)).toInt64) &&& (6148914691236517205 : Int64))) &&& (3689348814741910323 : Int64)) + ((((a0 - (((a0.toUInt64 >>> ((1 : Int32).toInt64.toUInt64 &&& Int64.toUInt64 63)).toInt64) &&& (6148914691236517205 : Int64))).toUInt64 >>> ((2 : Int32).toInt64.toUInt64 &&& Int64.toUInt64 63)).toInt64) &&& (3689348814741910323 : Int64))).toUInt64 >>> ((4 : Int32).toInt64.toUInt64 &&& Int64.toUInt64 63)).toInt64)) &&& (1085102592571150095 : Int64)) + (((((((a0 - (((a0.toUInt64 >>> ((1 : Int32).toInt64.toUInt64 &&& Int64.toUInt64 63)).toInt64) &&& (6148914691236517205 : Int64))) &&& (3689348814741910323 : Int64)) + ((((a0 - (((a0.toUInt64 >>> ((1 : Int32).toInt64.toUInt64 &&& Int64.toUInt64 63)).toInt64) &&& (6148914691236517205 : Int64))).toUInt64 >>> ((2 : Int32).toInt64.toUInt64 &&& Int64.toUInt64 63)).toInt64) &&& (3689348814741910323 : Int64))) + (((((a0 - (((a0.toUInt64 >>> ((1 : Int32).toInt64.toUInt64 &&& Int64.toUInt64 63)).toInt64) &&& (6148914691236517205 : Int64))) &&& (3689348814741910323 : Int64)) + ((((a0 - (((a0.toUInt64 >>> ((1 : Int32).toInt64.toUInt64 &&& Int64.toUInt64 63)).toInt64) &&& (6148914691236517205 : Int64))).toUInt64 >>> ((2 : Int32).toInt64.toUInt64 &&& Int64.toUInt64 63)).toInt64) &&& (3689348814741910323 : Int64))).toUInt64 >>> ((4 : Int32).toInt64.toUInt64 &&& Int64.toUInt64 63)).toInt64)) &&& (1085102592571150095 : Int64)).toUInt64 >>> ((8 : Int32).toInt64.toUInt64 &&& Int64.toUInt64 63)).toInt64)) + ((((((((a0 - (((a0.toUInt64 >>> ((1 : Int32).toInt64.toUInt64 &&& Int64.toUInt64 63)).toInt64) &&& (6148914691236517205 : Int64))) &&& (3689348814741910323 : Int64)) + ((((a0 - (((a0.toUInt64 >>> ((1 : Int32).toInt64.toUInt64 &&& Int64.toUInt64 63)).toInt64) &&& (6148914691236517205 : Int64))).toUInt64 >>> ((2 : Int32).toInt64.toUInt64 &&& Int64.toUInt64 63)).toInt64) &&& (3689348814741910323 : Int64))) + (((((a0 - (((a0.toUInt64 >>> ((1 : Int32).toInt64.toUInt64 &&& Int64.toUInt64 63)).toInt64) &&& (6148914691236517205 : Int64))) &&& (3689348814741910323 : Int64)) + ((((a0 - (((a0.toUInt64 >>> ((1 : Int32).toInt64.toUInt64 &&& Int64.toUInt64 63)).toInt64) &&& (6148914691236517205 : Int64))).toUInt64 >>> ((2 : Int32).toInt64.toUInt64 &&& Int64.toUInt64 63)).toInt64) &&& (3689348814741910323 : Int64))).toUInt64 >>> ((4 : Int32).toInt64.toUInt64 &&& Int64.toUInt64 63)).toInt64)) &&& (1085102592571150095 : Int64)) + (((((((a0 - (((a0.toUInt64 >>> ((1 : Int32).toInt64.toUInt64 &&& Int64.toUInt64 63)).toInt64) &&& (6148914691236517205 : Int64))) &&& (3689348814741910323 : Int64)) + ((((a0 - (((a0.toUInt64 >>> ((1 : Int32).toInt64.toUInt64 &&& Int64.toUInt64 63)).toInt64) &&& (6148914691236517205 : Int64))).toUInt64 >>> ((2 : Int32).toInt64.toUInt64 &&& Int64.toUInt64 63)).toInt64) &&& (3689348814741910323 : Int64))) + (((((a0 - (((a0.toUInt64 >>> ((1 : Int32).toInt64.toUInt64 &&& Int64.toUInt64 63)).toInt64) &&& (6148914691236517205 : Int64))) &&& (3689348814741910323 : Int64)) + ((((a0 - (((a0.toUInt64 >>> ((1 : Int32).toInt64.toUInt64 &&& Int64.toUInt64 63)).toInt64) &&& (6148914691236517205 : Int64))).toUInt64 >>> ((2 : Int32).toInt64.toUInt64 &&& Int64.toUInt64 63)).toInt64) &&& (3689348814741910323 : Int64))).toUInt64 >>> ((4 : Int32).toInt64.toUInt64 &&& Int64.toUInt64 63)).toInt64)) &&& (1085102592571150095 : Int64)).toUInt64 >>> ((8 : Int32).toInt64.toUInt64 &&& Int64.toUInt64 63)).toInt64)).toUInt64 >>> ((16 : Int32).toInt64.toUInt64 &&& Int64.toUInt64 63)).toInt64)) + (((((((((a0 - (((a0.toUInt64 >>> ((1 : Int32).toInt64.toUInt64 &&& Int64.toUInt64 63)).toInt64) &&& (6148914691236517205 : Int64))) &&& (3689348814741910323 : Int64)) + ((((a0 - (((a0.toUInt64 >>> ((1 : Int32).toInt64.toUInt64 &&& Int64.toUInt64 63)).toInt64) &&& (6148914691236517205 : Int64))).toUInt64 >>> ((2 : Int32).toInt64.toUInt64 &&& Int64.toUInt64 63)).toInt64) &&& (3689348814741910323 : Int64))) + (((((a0 - (((a0.toUInt64 >>> ((1 : Int32).toInt64.toUInt64 &&& Int64.toUInt64 63)).toInt64) &&& (6148914691236517205 : Int64))) &&& (3689348814741910323 : Int64)) + ((((a0 - (((a0.toUInt64 >>> ((1 : Int32).toInt64.toUInt64 &&& Int64.toUInt64 63)).toInt64) &&& (6148914691236517205 : Int64))).toUInt64 >>> ((2 : Int32).toInt64.toUInt64 &&& Int64.toUInt64 63)).toInt64) &&& (3689348814741910323 : Int64))).toUInt64 >>> ((4 : Int32).toInt64.toUInt64 &&& Int64.toUInt64 63)).toInt64)) &&& (1085102592571150095 : Int64)) + (((((((a0 - (((a0.toUInt64 >>> ((1 : Int32).toInt64.toUInt64 &&& Int64.toUInt64 63)).toInt64) &&& (6148914691236517205 : Int64))) &&& (3689348814741910323 : Int64)) + ((((a0 - (((a0.toUInt64 >>> ((1 : Int32).toInt64.toUInt64 &&& Int64.toUInt64 63)).toInt64) &&& (6148914691236517205 : Int64))).toUInt64 >>> ((2 : Int32).toInt64.toUInt64 &&& Int64.toUInt64 63)).toInt64) &&& (3689348814741910323 : Int64))) + (((((a0 - (((a0.toUInt64 >>> ((1 : Int32).toInt64.toUInt64 &&& Int64.toUInt64 63)).toInt64) &&& (6148914691236517205 : Int64))) &&& (3689348814741910323 : Int64)) + ((((a0 - (((a0.toUInt64 >>> ((1 : Int32).toInt64.toUInt64 &&& Int64.toUInt64 63)).toInt64) &&& (6148914691236517205 : Int64))).toUInt64 >>> ((2 : Int32).toInt64.toUInt64 &&& Int64.toUInt64 63)).toInt64) &&& (3689348814741910323 : Int64))).toUInt64 >>> ((4 : Int32).toInt64.toUInt64 &&& Int64.toUInt64 63)).toInt64)) &&& (1085102592571150095 : Int64)).toUInt64 >>> ((8 : Int32).toInt64.toUInt64 &&& Int64.toUInt64 63)).toInt64)) + ((((((((a0 - (((a0.toUInt64 >>> ((1 : Int32).toInt64.toUInt64 &&& Int64.toUInt64 63)).toInt64) &&& (6148914691236517205 : Int64))) &&& (3689348814741910323 : Int64)) + ((((a0 - (((a0.toUInt64 >>> ((1 : Int32).toInt64.toUInt64 &&& Int64.toUInt64 63)).toInt64) &&& (6148914691236517205 : Int64))).toUInt64 >>> ((2 : Int32).toInt64.toUInt64 &&& Int64.toUInt64 63)).toInt64) &&& (3689348814741910323 : Int64))) + (((((a0 - (((a0.toUInt64 >>> ((1 : Int32).toInt64.toUInt64 &&& Int64.toUInt64 63)).toInt64) &&& (6148914691236517205 : Int64))) &&& (3689348814741910323 : Int64)) + ((((a0 - (((a0.toUInt64 >>> ((1 : Int32).toInt64.toUInt64 &&& Int64.toUInt64 63)).toInt64) &&& (6148914691236517205 : Int64))).toUInt64 >>> ((2 : Int32).toInt64.toUInt64 &&& Int64.toUInt64 63)).toInt64) &&& (3689348814741910323 : Int64))).toUInt64 >>> ((4 : Int32).toInt64.toUInt64 &&& Int64.toUInt64 63)).toInt64)) &&& (1085102592571150095 : Int64)) + (((((((a0 - (((a0.toUInt64 >>> ((1 : Int32).toInt64.toUInt64 &&& Int64.toUInt64 63)).toInt64) &&& (6148914691236517205 : Int64))) &&& (3689348814741910323 : Int64)) + ((((a0 - (((a0.toUInt64 >>> ((1 : Int32).toInt64.toUInt64 &&& Int64.toUInt64 63)).toInt64) &&& (6148914691236517205 : Int64))).toUInt64 >>> ((2 : Int32).toInt64.toUInt64 &&& Int64.toUInt64 63)).toInt64) &&& (3689348814741910323 : Int64))) + (((((a0 - (((a0.toUInt64 >>> ((1 : Int32).toInt64.toUInt64 &&& Int64.toUInt64 63)).toInt64) &&& (6148914691236517205 : Int64))) &&& (3689348814741910323 : Int64)) + ((((a0 - (((a0.toUInt64 >>> ((1 : Int32).toInt64.toUInt64 &&& Int64.toUInt64 63)).toInt64) &&& (6148914691236517205 : Int64))).toUInt64 >>> ((2 : Int32).toInt64.toUInt64 &&& Int64.toUInt64 63)).toInt64) &&& (3689348814741910323 : Int64))).toUInt64 >>> ((4 : Int32).toInt64.toUInt64 &&& Int64.toUInt64 63)).toInt64)) &&& (1085102592571150095 : Int64)).toUInt64 >>> ((8 : Int32).toInt64.toUInt64 &&& Int64.toUInt64 63)).toInt64)).toUInt64 >>> ((16 : Int32).toInt64.toUInt64 &&& Int64.toUInt64 63)).toInt64)).toUInt64 >>> ((32 : Int32).toInt64.toUInt64 &&& Int64.toUInt64 63)).toInt64)))] d_Lg_bitCount_54 rfl (by decide) rfl ?_
  refine z_lload_n C 0 rfl d_Lg_bitCount_55 rfl ?_
  refine z_l2i C d_Lg_bitCount_56 ?_
  refine z_bipush C (127 : Int32) (by decide) d_Lg_bitCount_57 ?_
  refine z_iand C d_Lg_bitCount_59 ?_
  cases h
  exact z_iret C .int hret rfl ⟨Nat.zero_le _, Nat.zero_le _⟩ d_Lg_bitCount_60
def f_Pa_has (a1 : Int32) (S : zSt) : Option Int32 := if a1 < 0 then some (0 : Int32) else if (zI S 55 0) ≤ a1 then some (0 : Int32) else some (1 : Int32)
set_option maxRecDepth 100000 in
set_option maxHeartbeats 4000000 in
theorem m_Pa_has (l : Launch) {a1 : Int32} {S : zSt} {r : Int32} (h : f_Pa_has a1 S = some r) : zPM l y_Pa_has b_Pa_has 2 (some .boolean) rm_Pa_has true true [zr (some 55), zi a1] S (some (zi r)) S := by
  refine zPM_of (by decide) (Nat.le_of_ble_eq_true rfl) (fun p e s m args below meth c G C hret hname => ?_)
  unfold f_Pa_has at h
  refine (?_ : zJ p l e rm_Pa_has s m args below meth c G true 2 0 0 (zQm below G args s rm_Pa_has true (some (zi r)) S) S 0 [(0, zr (some 55)), (1, zi a1)] [])
  refine z_iload_n C 1 rfl d_Pa_has_0 rfl ?_
  rcases zite h with ⟨c1, h⟩ | ⟨c1, h⟩
  · refine z_if_ltt C 16 c1 d_Pa_has_1 (by decide) ?_
    refine z_iconst C (0 : Int32) (by decide) d_Pa_has_16 ?_
    cases h
    exact z_iret C .boolean hret rfl ⟨Nat.zero_le _, Nat.zero_le _⟩ d_Pa_has_17
  · refine z_if_ltf C 16 c1 d_Pa_has_1 (by decide) ?_
    refine z_iload_n C 1 rfl d_Pa_has_4 rfl ?_
    refine z_aload_n C 0 rfl d_Pa_has_5 rfl ?_
    refine z_getI C 4 (by decide) 0 (by decide) rfl zo_55 zk_55 zfl_4_9 d_Pa_has_6 ?_
    rcases zite h with ⟨c2, h⟩ | ⟨c2, h⟩
    · refine z_icmp_get C 16 c2 d_Pa_has_9 (by decide) ?_
      refine z_iconst C (0 : Int32) (by decide) d_Pa_has_16 ?_
      cases h
      exact z_iret C .boolean hret rfl ⟨Nat.zero_le _, Nat.zero_le _⟩ d_Pa_has_17
    · refine z_icmp_gef C 16 c2 d_Pa_has_9 (by decide) ?_
      refine z_iconst C (1 : Int32) (by decide) d_Pa_has_12 ?_
      refine z_goto C 17 d_Pa_has_13 (by decide) ?_
      cases h
      exact z_iret C .boolean hret rfl ⟨Nat.zero_le _, Nat.zero_le _⟩ d_Pa_has_17
def f_Pa_soonest (a1 : Int32) (a2 : Int32) (S : zSt) : Option Int32 := zb1 (f_Pa_has a1 S) (fun r2 => if r2 = 0 then if (1000000 : Int32) ≤ (1000000 : Int32) then some (-1 : Int32) else some (1000000 : Int32) else zb1 (f_Pa_has a2 S) (fun r6 => if r6 = 0 then if (1000000 : Int32) ≤ (1000000 : Int32) then some (-1 : Int32) else some (1000000 : Int32) else zb1 (f_Pa_pair a1 a2) (fun r10 => zgd (0 ≤ r10 ∧ r10.toNatClampNeg < 81) (if (1000000 : Int32) ≤ (zI S 58 r10.toNatClampNeg) then some (-1 : Int32) else some (zI S 58 r10.toNatClampNeg)))))
set_option maxRecDepth 100000 in
set_option maxHeartbeats 4000000 in
theorem m_Pa_soonest (l : Launch) {a1 : Int32} {a2 : Int32} {S : zSt} {r : Int32} (h : f_Pa_soonest a1 a2 S = some r) : zPM l y_Pa_soonest b_Pa_soonest 4 (some .int) rm_Pa_soonest true true [zr (some 55), zi a1, zi a2] S (some (zi r)) S := by
  refine zPM_of (by decide) (Nat.le_of_ble_eq_true rfl) (fun p e s m args below meth c G C hret hname => ?_)
  unfold f_Pa_soonest at h
  refine (?_ : zJ p l e rm_Pa_soonest s m args below meth c G true 4 0 0 (zQm below G args s rm_Pa_soonest true (some (zi r)) S) S 0 [(0, zr (some 55)), (1, zi a1), (2, zi a2)] [])
  refine z_aload_n C 0 rfl d_Pa_soonest_0 rfl ?_
  refine z_iload_n C 1 rfl d_Pa_soonest_1 rfl ?_
  obtain ⟨r2, h1, h⟩ := zb1_some h
  refine z_cV C 4 (by decide) (m_Pa_has l h1) mf_Pa_has lk_4_61 in_Pa_has se_Pa_has rfl zo_55 zk_55 ⟨rfl, rfl⟩ ⟨by decide, by decide⟩ ⟨Nat.zero_le _, Nat.zero_le _⟩ rfl _ [] rfl (Nat.le_of_ble_eq_true rfl) d_Pa_soonest_2 ?_
  rcases zite h with ⟨c3, h⟩ | ⟨c3, h⟩
  · refine z_if_eqt C 29 c3 d_Pa_soonest_5 (by decide) ?_
    refine z_ldc C zc_4_49 d_Pa_soonest_29 ?_
    refine z_istore_n C [(3, zi (1000000 : Int32)), (0, zr (some 55)), (1, zi a1), (2, zi a2)] d_Pa_soonest_31 rfl (by decide) rfl ?_
    refine z_iload_n C 0 rfl d_Pa_soonest_32 rfl ?_
    refine z_ldc C zc_4_49 d_Pa_soonest_33 ?_
    rcases zite h with ⟨c4, h⟩ | ⟨c4, h⟩
    · refine z_icmp_get C 42 c4 d_Pa_soonest_35 (by decide) ?_
      refine z_iconst C (-1 : Int32) (by decide) d_Pa_soonest_42 ?_
      cases h
      exact z_iret C .int hret rfl ⟨Nat.zero_le _, Nat.zero_le _⟩ d_Pa_soonest_43
    · refine z_icmp_gef C 42 c4 d_Pa_soonest_35 (by decide) ?_
      refine z_iload_n C 0 rfl d_Pa_soonest_38 rfl ?_
      refine z_goto C 43 d_Pa_soonest_39 (by decide) ?_
      cases h
      exact z_iret C .int hret rfl ⟨Nat.zero_le _, Nat.zero_le _⟩ d_Pa_soonest_43
  · refine z_if_eqf C 29 c3 d_Pa_soonest_5 (by decide) ?_
    refine z_aload_n C 0 rfl d_Pa_soonest_8 rfl ?_
    refine z_iload_n C 2 rfl d_Pa_soonest_9 rfl ?_
    obtain ⟨r6, h5, h⟩ := zb1_some h
    refine z_cV C 4 (by decide) (m_Pa_has l h5) mf_Pa_has lk_4_61 in_Pa_has se_Pa_has rfl zo_55 zk_55 ⟨rfl, rfl⟩ ⟨by decide, by decide⟩ ⟨Nat.zero_le _, Nat.zero_le _⟩ rfl _ [] rfl (Nat.le_of_ble_eq_true rfl) d_Pa_soonest_10 ?_
    rcases zite h with ⟨c7, h⟩ | ⟨c7, h⟩
    · refine z_if_eqt C 29 c7 d_Pa_soonest_13 (by decide) ?_
      refine z_ldc C zc_4_49 d_Pa_soonest_29 ?_
      refine z_istore_n C [(3, zi (1000000 : Int32)), (0, zr (some 55)), (1, zi a1), (2, zi a2)] d_Pa_soonest_31 rfl (by decide) rfl ?_
      refine z_iload_n C 0 rfl d_Pa_soonest_32 rfl ?_
      refine z_ldc C zc_4_49 d_Pa_soonest_33 ?_
      rcases zite h with ⟨c8, h⟩ | ⟨c8, h⟩
      · refine z_icmp_get C 42 c8 d_Pa_soonest_35 (by decide) ?_
        refine z_iconst C (-1 : Int32) (by decide) d_Pa_soonest_42 ?_
        cases h
        exact z_iret C .int hret rfl ⟨Nat.zero_le _, Nat.zero_le _⟩ d_Pa_soonest_43
      · refine z_icmp_gef C 42 c8 d_Pa_soonest_35 (by decide) ?_
        refine z_iload_n C 0 rfl d_Pa_soonest_38 rfl ?_
        refine z_goto C 43 d_Pa_soonest_39 (by decide) ?_
        cases h
        exact z_iret C .int hret rfl ⟨Nat.zero_le _, Nat.zero_le _⟩ d_Pa_soonest_43
    · refine z_if_eqf C 29 c7 d_Pa_soonest_13 (by decide) ?_
      refine z_aload_n C 0 rfl d_Pa_soonest_16 rfl ?_
      refine z_getF2 C 4 (by decide) 3 (by decide) rfl 3 81 rfl (58) rfl zp_55 zk_55 zfl_4_22 d_Pa_soonest_17 ?_
      refine z_iload_n C 1 rfl d_Pa_soonest_20 rfl ?_
      refine z_iload_n C 2 rfl d_Pa_soonest_21 rfl ?_
      obtain ⟨r10, h9, h⟩ := zb1_some h
      refine z_cS C (m_Pa_pair l h9) mf_Pa_pair lk_4_50 st_Pa_pair ⟨rfl, rfl⟩ ⟨by decide, by decide⟩ ⟨Nat.zero_le _, Nat.zero_le _⟩ rfl _ [zr (some 58)] rfl (Nat.le_of_ble_eq_true rfl) d_Pa_soonest_22 ?_
      refine z_fact (fun hSR => ?_)
      obtain ⟨g11, h⟩ := zgd_some h
      refine z_ialoadS C zo_58 zk_58 (za_58 hSR) g11 d_Pa_soonest_25 ?_
      refine z_goto C 31 d_Pa_soonest_26 (by decide) ?_
      refine z_istore_n C [(3, zi (zI S 58 r10.toNatClampNeg)), (0, zr (some 55)), (1, zi a1), (2, zi a2)] d_Pa_soonest_31 rfl (by decide) rfl ?_
      refine z_iload_n C 0 rfl d_Pa_soonest_32 rfl ?_
      refine z_ldc C zc_4_49 d_Pa_soonest_33 ?_
      rcases zite h with ⟨c12, h⟩ | ⟨c12, h⟩
      · refine z_icmp_get C 42 c12 d_Pa_soonest_35 (by decide) ?_
        refine z_iconst C (-1 : Int32) (by decide) d_Pa_soonest_42 ?_
        cases h
        exact z_iret C .int hret rfl ⟨Nat.zero_le _, Nat.zero_le _⟩ d_Pa_soonest_43
      · refine z_icmp_gef C 42 c12 d_Pa_soonest_35 (by decide) ?_
        refine z_iload_n C 0 rfl d_Pa_soonest_38 rfl ?_
        refine z_goto C 43 d_Pa_soonest_39 (by decide) ?_
        cases h
        exact z_iret C .int hret rfl ⟨Nat.zero_le _, Nat.zero_le _⟩ d_Pa_soonest_43
def f_E_tellOrderWords_58 (fu : Nat) : Nat → Int32 → zSt → Option zSt
  | 0, _, _ => none
  | n + 1, a3, S => if (9 : Int32) ≤ a3 then some S else zb1 (f_Ps_mudOf 1 a3 S) (fun r3 => zgd (0 ≤ ((5 : Int32) + a3) ∧ ((5 : Int32) + a3).toNatClampNeg < 23) (zb1 (f_Pa_soonest (zI (zwI S 69 ((5 : Int32) + a3).toNatClampNeg r3) 1 5) a3 (zwI S 69 ((5 : Int32) + a3).toNatClampNeg r3)) (fun r6 => zgd (0 ≤ ((14 : Int32) + a3) ∧ ((14 : Int32) + a3).toNatClampNeg < 23) (f_E_tellOrderWords_58 fu n (a3 + (1 : Int32)) (zwI (zwI S 69 ((5 : Int32) + a3).toNatClampNeg r3) 69 ((14 : Int32) + a3).toNatClampNeg r6)))))
def f_E_tellOrderWords (fu : Nat) (a1 : Int32) (a2 : Int32) (S : zSt) : Option zSt := zb1 (f_Lg_bitCount (zL (zwI (zwI (zwI (zwI S 69 (0 : Int32).toNatClampNeg (zI S 1 6)) 69 (1 : Int32).toNatClampNeg a1) 69 (2 : Int32).toNatClampNeg a2) 69 (3 : Int32).toNatClampNeg (zI (zwI (zwI (zwI S 69 (0 : Int32).toNatClampNeg (zI S 1 6)) 69 (1 : Int32).toNatClampNeg a1) 69 (2 : Int32).toNatClampNeg a2) 1 5)) 1 4)) (fun r2 => f_E_tellOrderWords_58 fu fu (0 : Int32) (zwI (zwI (zwI (zwI (zwI S 69 (0 : Int32).toNatClampNeg (zI S 1 6)) 69 (1 : Int32).toNatClampNeg a1) 69 (2 : Int32).toNatClampNeg a2) 69 (3 : Int32).toNatClampNeg (zI (zwI (zwI (zwI S 69 (0 : Int32).toNatClampNeg (zI S 1 6)) 69 (1 : Int32).toNatClampNeg a1) 69 (2 : Int32).toNatClampNeg a2) 1 5)) 69 (4 : Int32).toNatClampNeg r2))
set_option maxRecDepth 100000 in
set_option maxHeartbeats 4000000 in
theorem c_E_tellOrderWords_58 {p : Program} {l : Launch} {e : Env} {s : State} {m : MethodId} {args : Array Value} {below : List Frame} {meth : Method} {c : Code} {G : zG} (C : zC p s m args meth c G b_E_tellOrderWords 4 y_E_tellOrderWords.cls) (hret : meth.sig.returnType = none) {fu : Nat} {S1 : zSt} : ∀ (n : Nat) (a3 : Int32) (S : zSt) , f_E_tellOrderWords_58 fu n a3 S = some S1 → zJ p l e rm_E_tellOrderWords s m args below meth c G true 4 0 0 (zQm below G args s rm_E_tellOrderWords true none S1) S 58 [(0, zr (some 0)), (3, zi a3)] [] := by
  intro n
  induction n with
  | zero =>
    intro a3 S h
    cases h
  | succ n ih =>
    intro a3 S h
    rw [f_E_tellOrderWords_58] at h
    refine z_iload_n C 1 rfl d_E_tellOrderWords_58 rfl ?_
    refine z_bipush C (9 : Int32) (by decide) d_E_tellOrderWords_59 ?_
    rcases zite h with ⟨c1, h⟩ | ⟨c1, h⟩
    · refine z_icmp_get C 110 c1 d_E_tellOrderWords_61 (by decide) ?_
      cases h
      exact z_vret C hret ⟨Nat.zero_le _, Nat.zero_le _⟩ d_E_tellOrderWords_110
    · refine z_icmp_gef C 110 c1 d_E_tellOrderWords_61 (by decide) ?_
      refine z_aload_n C 0 rfl d_E_tellOrderWords_64 rfl ?_
      refine z_getF2 C 0 (by decide) 13 (by decide) rfl 69 23 rfl (69) rfl zp_0 zk_0 zfl_0_85 d_E_tellOrderWords_65 ?_
      refine z_iconst C (5 : Int32) (by decide) d_E_tellOrderWords_68 ?_
      refine z_iload_n C 1 rfl d_E_tellOrderWords_69 rfl ?_
      refine z_iadd C d_E_tellOrderWords_70 ?_
      refine z_aload_n C 0 rfl d_E_tellOrderWords_71 rfl ?_
      refine z_getF2 C 0 (by decide) 0 (by decide) rfl 1 0 rfl (1) rfl zp_0 zk_0 zfl_0_12 d_E_tellOrderWords_72 ?_
      refine z_iload_n C 1 rfl d_E_tellOrderWords_75 rfl ?_
      obtain ⟨r3, h2, h⟩ := zb1_some h
      refine z_cV C 5 (by decide) (m_Ps_mudOf l zk_1 (Nat.le_of_ble_eq_true rfl) h2) mf_Ps_mudOf lk_0_137 in_Ps_mudOf se_Ps_mudOf rfl zo_1 zk_1 ⟨rfl, rfl⟩ ⟨by decide, by decide⟩ ⟨Nat.zero_le _, Nat.zero_le _⟩ rfl _ [zi ((5 : Int32) + a3), zr (some 69)] rfl (Nat.le_of_ble_eq_true rfl) d_E_tellOrderWords_76 ?_
      refine z_fact (fun hSR => ?_)
      obtain ⟨g4, h⟩ := zgd_some h
      refine z_iastoreS C zo_69 zk_69 (za_69 hSR) g4 d_E_tellOrderWords_79 ?_
      refine z_aload_n C 0 rfl d_E_tellOrderWords_80 rfl ?_
      refine z_getF2 C 0 (by decide) 13 (by decide) rfl 69 23 rfl (69) rfl zp_0 zk_0 zfl_0_85 d_E_tellOrderWords_81 ?_
      refine z_bipush C (14 : Int32) (by decide) d_E_tellOrderWords_84 ?_
      refine z_iload_n C 1 rfl d_E_tellOrderWords_86 rfl ?_
      refine z_iadd C d_E_tellOrderWords_87 ?_
      refine z_aload_n C 0 rfl d_E_tellOrderWords_88 rfl ?_
      refine z_getF2 C 0 (by decide) 9 (by decide) rfl 55 0 rfl (55) rfl zp_0 zk_0 zfl_0_60 d_E_tellOrderWords_89 ?_
      refine z_aload_n C 0 rfl d_E_tellOrderWords_92 rfl ?_
      refine z_getF2 C 0 (by decide) 0 (by decide) rfl 1 0 rfl (1) rfl zp_0 zk_0 zfl_0_12 d_E_tellOrderWords_93 ?_
      refine z_getI C 5 (by decide) 5 (by decide) rfl zo_1 zk_1 zfl_0_248 d_E_tellOrderWords_96 ?_
      refine z_iload_n C 1 rfl d_E_tellOrderWords_99 rfl ?_
      obtain ⟨r6, h5, h⟩ := zb1_some h
      refine z_cV C 4 (by decide) (m_Pa_soonest l h5) mf_Pa_soonest lk_0_229 in_Pa_soonest se_Pa_soonest rfl zo_55 zk_55 ⟨rfl, rfl⟩ ⟨by decide, by decide⟩ ⟨Nat.zero_le _, Nat.zero_le _⟩ rfl _ [zi ((14 : Int32) + a3), zr (some 69)] rfl (Nat.le_of_ble_eq_true rfl) d_E_tellOrderWords_100 ?_
      refine z_fact (fun hSR => ?_)
      obtain ⟨g7, h⟩ := zgd_some h
      refine z_iastoreS C zo_69 zk_69 (za_69 hSR) g7 d_E_tellOrderWords_103 ?_
      refine z_iinc C 1 (a3 + (1 : Int32)) [(3, zi (a3 + (1 : Int32))), (0, zr (some 0))] rfl d_E_tellOrderWords_104 (by first | rfl | decide) (by decide) rfl ?_
      refine z_goto C 58 d_E_tellOrderWords_107 (by decide) ?_
      refine zq_lsub [1, 0] [(0, zr (some 0)), (3, zi (a3 + (1 : Int32)))] rfl ?_
      exact ih (a3 + (1 : Int32)) (zwI (zwI S 69 ((5 : Int32) + a3).toNatClampNeg r3) 69 ((14 : Int32) + a3).toNatClampNeg r6) h
set_option maxRecDepth 100000 in
set_option maxHeartbeats 4000000 in
theorem m_E_tellOrderWords (l : Launch) {fu : Nat} {a1 : Int32} {a2 : Int32} {S : zSt} {S1 : zSt} (h : f_E_tellOrderWords fu a1 a2 S = some S1) : zPM l y_E_tellOrderWords b_E_tellOrderWords 4 none rm_E_tellOrderWords true true [zr (some 0), zi a1, zi a2] S none S1 := by
  refine zPM_of (by decide) (Nat.le_of_ble_eq_true rfl) (fun p e s m args below meth c G C hret hname => ?_)
  unfold f_E_tellOrderWords at h
  refine (?_ : zJ p l e rm_E_tellOrderWords s m args below meth c G true 4 0 0 (zQm below G args s rm_E_tellOrderWords true none S1) S 0 [(0, zr (some 0)), (1, zi a1), (2, zi a2)] [])
  refine z_aload_n C 0 rfl d_E_tellOrderWords_0 rfl ?_
  refine z_getF2 C 0 (by decide) 13 (by decide) rfl 69 23 rfl (69) rfl zp_0 zk_0 zfl_0_85 d_E_tellOrderWords_1 ?_
  refine z_iconst C (0 : Int32) (by decide) d_E_tellOrderWords_4 ?_
  refine z_aload_n C 0 rfl d_E_tellOrderWords_5 rfl ?_
  refine z_getF2 C 0 (by decide) 0 (by decide) rfl 1 0 rfl (1) rfl zp_0 zk_0 zfl_0_12 d_E_tellOrderWords_6 ?_
  refine z_getI C 5 (by decide) 6 (by decide) rfl zo_1 zk_1 zfl_0_326 d_E_tellOrderWords_9 ?_
  refine z_fact (fun hSR => ?_)
  refine z_iastoreS C zo_69 zk_69 (za_69 hSR) (by decide) d_E_tellOrderWords_12 ?_
  refine z_aload_n C 0 rfl d_E_tellOrderWords_13 rfl ?_
  refine z_getF2 C 0 (by decide) 13 (by decide) rfl 69 23 rfl (69) rfl zp_0 zk_0 zfl_0_85 d_E_tellOrderWords_14 ?_
  refine z_iconst C (1 : Int32) (by decide) d_E_tellOrderWords_17 ?_
  refine z_iload_n C 1 rfl d_E_tellOrderWords_18 rfl ?_
  refine z_fact (fun hSR => ?_)
  refine z_iastoreS C zo_69 zk_69 (za_69 hSR) (by decide) d_E_tellOrderWords_19 ?_
  refine z_aload_n C 0 rfl d_E_tellOrderWords_20 rfl ?_
  refine z_getF2 C 0 (by decide) 13 (by decide) rfl 69 23 rfl (69) rfl zp_0 zk_0 zfl_0_85 d_E_tellOrderWords_21 ?_
  refine z_iconst C (2 : Int32) (by decide) d_E_tellOrderWords_24 ?_
  refine z_iload_n C 2 rfl d_E_tellOrderWords_25 rfl ?_
  refine z_fact (fun hSR => ?_)
  refine z_iastoreS C zo_69 zk_69 (za_69 hSR) (by decide) d_E_tellOrderWords_26 ?_
  refine z_aload_n C 0 rfl d_E_tellOrderWords_27 rfl ?_
  refine z_getF2 C 0 (by decide) 13 (by decide) rfl 69 23 rfl (69) rfl zp_0 zk_0 zfl_0_85 d_E_tellOrderWords_28 ?_
  refine z_iconst C (3 : Int32) (by decide) d_E_tellOrderWords_31 ?_
  refine z_aload_n C 0 rfl d_E_tellOrderWords_32 rfl ?_
  refine z_getF2 C 0 (by decide) 0 (by decide) rfl 1 0 rfl (1) rfl zp_0 zk_0 zfl_0_12 d_E_tellOrderWords_33 ?_
  refine z_getI C 5 (by decide) 5 (by decide) rfl zo_1 zk_1 zfl_0_248 d_E_tellOrderWords_36 ?_
  refine z_fact (fun hSR => ?_)
  refine z_iastoreS C zo_69 zk_69 (za_69 hSR) (by decide) d_E_tellOrderWords_39 ?_
  refine z_aload_n C 0 rfl d_E_tellOrderWords_40 rfl ?_
  refine z_getF2 C 0 (by decide) 13 (by decide) rfl 69 23 rfl (69) rfl zp_0 zk_0 zfl_0_85 d_E_tellOrderWords_41 ?_
  refine z_iconst C (4 : Int32) (by decide) d_E_tellOrderWords_44 ?_
  refine z_aload_n C 0 rfl d_E_tellOrderWords_45 rfl ?_
  refine z_getF2 C 0 (by decide) 0 (by decide) rfl 1 0 rfl (1) rfl zp_0 zk_0 zfl_0_12 d_E_tellOrderWords_46 ?_
  refine z_getL C 5 (by decide) 4 (by decide) rfl zo_1 zk_1 zfl_0_347 d_E_tellOrderWords_49 ?_
  obtain ⟨r2, h1, h⟩ := zb1_some h
  refine z_cS C (m_Lg_bitCount l h1) mf_Lg_bitCount lk_0_351 st_Lg_bitCount ⟨rfl, rfl⟩ ⟨by decide, by decide⟩ ⟨Nat.zero_le _, Nat.zero_le _⟩ rfl _ [zi (4 : Int32), zr (some 69)] rfl (Nat.le_of_ble_eq_true rfl) d_E_tellOrderWords_52 ?_
  refine z_fact (fun hSR => ?_)
  refine z_iastoreS C zo_69 zk_69 (za_69 hSR) (by decide) d_E_tellOrderWords_55 ?_
  refine z_iconst C (0 : Int32) (by decide) d_E_tellOrderWords_56 ?_
  refine z_istore_n C [(3, zi (0 : Int32)), (0, zr (some 0)), (1, zi a1), (2, zi a2)] d_E_tellOrderWords_57 rfl (by decide) rfl ?_
  refine zq_lsub [1, 0] [(0, zr (some 0)), (3, zi (0 : Int32))] rfl ?_
  exact c_E_tellOrderWords_58 C hret fu  (0 : Int32) (zwI (zwI (zwI (zwI (zwI S 69 (0 : Int32).toNatClampNeg (zI S 1 6)) 69 (1 : Int32).toNatClampNeg a1) 69 (2 : Int32).toNatClampNeg a2) 69 (3 : Int32).toNatClampNeg (zI (zwI (zwI (zwI S 69 (0 : Int32).toNatClampNeg (zI S 1 6)) 69 (1 : Int32).toNatClampNeg a1) 69 (2 : Int32).toNatClampNeg a2) 1 5)) 69 (4 : Int32).toNatClampNeg r2) h
def f_Ps_goTo (fu : Nat) (a0 : Nat) (a1 : Int32) (S : zSt) : Option (Int32 × zSt) := zb1 (f_Ps_has a0 a1 S) (fun r2 => if r2 = 0 then some ((-2 : Int32), S) else zb1 (f_Ps_lawInForce a0 S) (fun r5 => zb1 (f_Ps_pairOf a0 (zI S a0 5) a1 S) (fun r7 => zb1 (f_Ps_farOf a0 r7 S) (fun r9 => if r9 = 0 then some ((-3 : Int32), S) else zb1 (f_Ps_isShut a0 r7 S) (fun r12 => if r12 = 0 then zb2 (f_As_told fu a0 r5 (3 : Int32) (zI S a0 5) a1 S) (fun r15 S16 => if r15 = (1 : Int32) then some ((-3 : Int32), S16) else zb2 (f_As_told fu a0 r5 (0 : Int32) (zI S16 a0 5) a1 S16) (fun r19 S20 => some (r19, zwI S20 a0 5 a1))) else some ((-3 : Int32), S))))))
set_option maxRecDepth 100000 in
set_option maxHeartbeats 4000000 in
theorem m_Ps_goTo (l : Launch) {fu : Nat} {a0 : Nat} {a1 : Int32} {S : zSt} {r : Int32} {S1 : zSt} (ha0 : zK a0 = 5) (ga0 : a0 < zN0) (h : f_Ps_goTo fu a0 a1 S = some (r, S1)) : zPM l y_Ps_goTo b_Ps_goTo 6 (some .int) rm_Ps_goTo true true [zr (some a0), zi a1, zr (some 52)] S (some (zi r)) S1 := by
  refine zPM_of (by decide) (Nat.le_of_ble_eq_true rfl) (fun p e s m args below meth c G C hret hname => ?_)
  unfold f_Ps_goTo at h
  refine (?_ : zJ p l e rm_Ps_goTo s m args below meth c G true 6 0 0 (zQm below G args s rm_Ps_goTo true (some (zi r)) S1) S 0 [(0, zr (some a0)), (1, zi a1), (2, zr (some 52))] [])
  refine z_aload_n C 0 rfl d_Ps_goTo_0 rfl ?_
  refine z_iload_n C 1 rfl d_Ps_goTo_1 rfl ?_
  obtain ⟨r2, h1, h⟩ := zb1_some h
  refine z_cV C 5 (by decide) (m_Ps_has l ha0 ga0 h1) mf_Ps_has lk_5_98 in_Ps_has se_Ps_has rfl (Or.inl ⟨rfl, ga0⟩) ha0 ⟨rfl, rfl⟩ ⟨by decide, by decide⟩ ⟨Nat.zero_le _, Nat.zero_le _⟩ rfl _ [] rfl (Nat.le_of_ble_eq_true rfl) d_Ps_goTo_2 ?_
  rcases zite h with ⟨c3, h⟩ | ⟨c3, h⟩
  · refine z_if_nef C 11 c3 d_Ps_goTo_5 (by decide) ?_
    refine z_bipush C (-2 : Int32) (by decide) d_Ps_goTo_8 ?_
    cases h
    exact z_iret C .int hret rfl ⟨Nat.zero_le _, Nat.zero_le _⟩ d_Ps_goTo_10
  · refine z_if_net C 11 c3 d_Ps_goTo_5 (by decide) ?_
    refine z_aload_n C 0 rfl d_Ps_goTo_11 rfl ?_
    obtain ⟨r5, h4, h⟩ := zb1_some h
    refine z_cV C 5 (by decide) (m_Ps_lawInForce l ha0 ga0 h4) mf_Ps_lawInForce lk_5_102 in_Ps_lawInForce se_Ps_lawInForce rfl (Or.inl ⟨rfl, ga0⟩) ha0 ⟨rfl, rfl⟩ ⟨by decide, by decide⟩ ⟨Nat.zero_le _, Nat.zero_le _⟩ rfl _ [] rfl (Nat.le_of_ble_eq_true rfl) d_Ps_goTo_12 ?_
    refine z_astore_n C [(3, zr r5), (0, zr (some a0)), (1, zi a1), (2, zr (some 52))] d_Ps_goTo_15 rfl (by decide) rfl ?_
    refine z_aload_n C 1 rfl d_Ps_goTo_16 rfl ?_
    refine z_aload_n C 1 rfl d_Ps_goTo_17 rfl ?_
    refine z_getI C 5 (by decide) 5 (by decide) rfl (Or.inl ⟨rfl, ga0⟩) ha0 zfl_5_29 d_Ps_goTo_18 ?_
    refine z_iload_n C 2 rfl d_Ps_goTo_21 rfl ?_
    obtain ⟨r7, h6, h⟩ := zb1_some h
    refine z_cV C 5 (by decide) (m_Ps_pairOf l ha0 ga0 h6) mf_Ps_pairOf lk_5_80 in_Ps_pairOf se_Ps_pairOf rfl (Or.inl ⟨rfl, ga0⟩) ha0 ⟨rfl, rfl⟩ ⟨by decide, by decide⟩ ⟨Nat.zero_le _, Nat.zero_le _⟩ rfl _ [] rfl (Nat.le_of_ble_eq_true rfl) d_Ps_goTo_22 ?_
    refine z_istore C [(4, zi r7), (3, zr r5), (0, zr (some a0)), (1, zi a1), (2, zr (some 52))] d_Ps_goTo_25 (by decide) rfl ?_
    refine z_aload_n C 2 rfl d_Ps_goTo_27 rfl ?_
    refine z_iload C 0 rfl d_Ps_goTo_28 ?_
    obtain ⟨r9, h8, h⟩ := zb1_some h
    refine z_cV C 5 (by decide) (m_Ps_farOf l ha0 ga0 h8) mf_Ps_farOf lk_5_88 in_Ps_farOf se_Ps_farOf rfl (Or.inl ⟨rfl, ga0⟩) ha0 ⟨rfl, rfl⟩ ⟨by decide, by decide⟩ ⟨Nat.zero_le _, Nat.zero_le _⟩ rfl _ [] rfl (Nat.le_of_ble_eq_true rfl) d_Ps_goTo_30 ?_
    rcases zite h with ⟨c10, h⟩ | ⟨c10, h⟩
    · refine z_if_eqt C 61 c10 d_Ps_goTo_33 (by decide) ?_
      refine z_bipush C (-3 : Int32) (by decide) d_Ps_goTo_61 ?_
      cases h
      exact z_iret C .int hret rfl ⟨Nat.zero_le _, Nat.zero_le _⟩ d_Ps_goTo_63
    · refine z_if_eqf C 61 c10 d_Ps_goTo_33 (by decide) ?_
      refine z_aload_n C 2 rfl d_Ps_goTo_36 rfl ?_
      refine z_iload C 0 rfl d_Ps_goTo_37 ?_
      obtain ⟨r12, h11, h⟩ := zb1_some h
      refine z_cV C 5 (by decide) (m_Ps_isShut l ha0 ga0 h11) mf_Ps_isShut lk_5_106 in_Ps_isShut se_Ps_isShut rfl (Or.inl ⟨rfl, ga0⟩) ha0 ⟨rfl, rfl⟩ ⟨by decide, by decide⟩ ⟨Nat.zero_le _, Nat.zero_le _⟩ rfl _ [] rfl (Nat.le_of_ble_eq_true rfl) d_Ps_goTo_39 ?_
      rcases zite h with ⟨c13, h⟩ | ⟨c13, h⟩
      · refine z_if_nef C 61 c13 d_Ps_goTo_42 (by decide) ?_
        refine z_aload_n C 4 rfl d_Ps_goTo_45 rfl ?_
        refine z_aload_n C 2 rfl d_Ps_goTo_46 rfl ?_
        refine z_aload_n C 1 rfl d_Ps_goTo_47 rfl ?_
        refine z_iconst C (3 : Int32) (by decide) d_Ps_goTo_48 ?_
        refine z_aload_n C 2 rfl d_Ps_goTo_49 rfl ?_
        refine z_getI C 5 (by decide) 5 (by decide) rfl (Or.inl ⟨rfl, ga0⟩) ha0 zfl_5_29 d_Ps_goTo_50 ?_
        refine z_iload_n C 3 rfl d_Ps_goTo_53 rfl ?_
        obtain ⟨r15, S16, h14, h⟩ := zb2_some h
        refine z_cV C 1 (by decide) (m_As_told l ha0 ga0 h14) mf_As_told lk_5_109 in_As_told se_As_told rfl zo_52 zk_52 ⟨rfl, rfl⟩ ⟨by decide, by decide⟩ ⟨Nat.zero_le _, Nat.zero_le _⟩ rfl _ [] rfl (Nat.le_of_ble_eq_true rfl) d_Ps_goTo_54 ?_
        refine z_iconst C (1 : Int32) (by decide) d_Ps_goTo_57 ?_
        rcases zite h with ⟨c17, h⟩ | ⟨c17, h⟩
        · refine z_icmp_nef C 64 c17 d_Ps_goTo_58 (by decide) ?_
          refine z_bipush C (-3 : Int32) (by decide) d_Ps_goTo_61 ?_
          cases h
          exact z_iret C .int hret rfl ⟨Nat.zero_le _, Nat.zero_le _⟩ d_Ps_goTo_63
        · refine z_icmp_net C 64 c17 d_Ps_goTo_58 (by decide) ?_
          refine z_aload_n C 4 rfl d_Ps_goTo_64 rfl ?_
          refine z_aload_n C 2 rfl d_Ps_goTo_65 rfl ?_
          refine z_aload_n C 1 rfl d_Ps_goTo_66 rfl ?_
          refine z_iconst C (0 : Int32) (by decide) d_Ps_goTo_67 ?_
          refine z_aload_n C 2 rfl d_Ps_goTo_68 rfl ?_
          refine z_getI C 5 (by decide) 5 (by decide) rfl (Or.inl ⟨rfl, ga0⟩) ha0 zfl_5_29 d_Ps_goTo_69 ?_
          refine z_iload_n C 3 rfl d_Ps_goTo_72 rfl ?_
          obtain ⟨r19, S20, h18, h⟩ := zb2_some h
          refine z_cV C 1 (by decide) (m_As_told l ha0 ga0 h18) mf_As_told lk_5_109 in_As_told se_As_told rfl zo_52 zk_52 ⟨rfl, rfl⟩ ⟨by decide, by decide⟩ ⟨Nat.zero_le _, Nat.zero_le _⟩ rfl _ [] rfl (Nat.le_of_ble_eq_true rfl) d_Ps_goTo_73 ?_
          refine z_istore C [(5, zi r19), (4, zi r7), (3, zr r5), (0, zr (some a0)), (1, zi a1), (2, zr (some 52))] d_Ps_goTo_76 (by decide) rfl ?_
          refine z_aload_n C 3 rfl d_Ps_goTo_78 rfl ?_
          refine z_iload_n C 4 rfl d_Ps_goTo_79 rfl ?_
          refine z_putI C 5 (by decide) 5 (by decide) rfl (Or.inl rfl) (Or.inl ⟨rfl, ga0⟩) ha0 zfl_5_29 (Or.inl rfl) d_Ps_goTo_80 ?_
          refine z_iload C 0 rfl d_Ps_goTo_83 ?_
          cases h
          exact z_iret C .int hret rfl ⟨Nat.zero_le _, Nat.zero_le _⟩ d_Ps_goTo_85
      · refine z_if_net C 61 c13 d_Ps_goTo_42 (by decide) ?_
        refine z_bipush C (-3 : Int32) (by decide) d_Ps_goTo_61 ?_
        cases h
        exact z_iret C .int hret rfl ⟨Nat.zero_le _, Nat.zero_le _⟩ d_Ps_goTo_63
def f_Ps_turnGate (a0 : Nat) (a1 : Int32) (a2 : Int32) (S : zSt) : Option (Int32 × zSt) := if a1 = a2 then some ((-1 : Int32), S) else zb1 (f_Ps_has a0 a1 S) (fun r3 => if r3 = 0 then some ((-2 : Int32), S) else zb1 (f_Ps_has a0 a2 S) (fun r6 => if r6 = 0 then some ((-2 : Int32), S) else zb1 (f_Ps_pairOf a0 a1 a2 S) (fun r9 => zb1 (f_Ps_farOf a0 r9 S) (fun r11 => if r11 = 0 then some ((-3 : Int32), S) else zb1 (f_Ps_isShut a0 r9 (zwL S a0 4 ((zL S a0 4) ^^^ ((1 : Int64) <<< (r9.toInt64 &&& 63))))) (fun r14 => if r14 = 0 then some ((0 : Int32), zwL S a0 4 ((zL S a0 4) ^^^ ((1 : Int64) <<< (r9.toInt64 &&& 63)))) else some ((1 : Int32), zwL S a0 4 ((zL S a0 4) ^^^ ((1 : Int64) <<< (r9.toInt64 &&& 63)))))))))
set_option maxRecDepth 100000 in
set_option maxHeartbeats 4000000 in
theorem m_Ps_turnGate (l : Launch) {a0 : Nat} {a1 : Int32} {a2 : Int32} {S : zSt} {r : Int32} {S1 : zSt} (ha0 : zK a0 = 5) (ga0 : a0 < zN0) (h : f_Ps_turnGate a0 a1 a2 S = some (r, S1)) : zPM l y_Ps_turnGate b_Ps_turnGate 4 (some .int) rm_Ps_turnGate true true [zr (some a0), zi a1, zi a2] S (some (zi r)) S1 := by
  refine zPM_of (by decide) (Nat.le_of_ble_eq_true rfl) (fun p e s m args below meth c G C hret hname => ?_)
  unfold f_Ps_turnGate at h
  refine (?_ : zJ p l e rm_Ps_turnGate s m args below meth c G true 4 0 0 (zQm below G args s rm_Ps_turnGate true (some (zi r)) S1) S 0 [(0, zr (some a0)), (1, zi a1), (2, zi a2)] [])
  refine z_iload_n C 1 rfl d_Ps_turnGate_0 rfl ?_
  refine z_iload_n C 2 rfl d_Ps_turnGate_1 rfl ?_
  rcases zite h with ⟨c1, h⟩ | ⟨c1, h⟩
  · refine z_icmp_nef C 7 c1 d_Ps_turnGate_2 (by decide) ?_
    refine z_iconst C (-1 : Int32) (by decide) d_Ps_turnGate_5 ?_
    cases h
    exact z_iret C .int hret rfl ⟨Nat.zero_le _, Nat.zero_le _⟩ d_Ps_turnGate_6
  · refine z_icmp_net C 7 c1 d_Ps_turnGate_2 (by decide) ?_
    refine z_aload_n C 0 rfl d_Ps_turnGate_7 rfl ?_
    refine z_iload_n C 1 rfl d_Ps_turnGate_8 rfl ?_
    obtain ⟨r3, h2, h⟩ := zb1_some h
    refine z_cV C 5 (by decide) (m_Ps_has l ha0 ga0 h2) mf_Ps_has lk_5_98 in_Ps_has se_Ps_has rfl (Or.inl ⟨rfl, ga0⟩) ha0 ⟨rfl, rfl⟩ ⟨by decide, by decide⟩ ⟨Nat.zero_le _, Nat.zero_le _⟩ rfl _ [] rfl (Nat.le_of_ble_eq_true rfl) d_Ps_turnGate_9 ?_
    rcases zite h with ⟨c4, h⟩ | ⟨c4, h⟩
    · refine z_if_eqt C 23 c4 d_Ps_turnGate_12 (by decide) ?_
      refine z_bipush C (-2 : Int32) (by decide) d_Ps_turnGate_23 ?_
      cases h
      exact z_iret C .int hret rfl ⟨Nat.zero_le _, Nat.zero_le _⟩ d_Ps_turnGate_25
    · refine z_if_eqf C 23 c4 d_Ps_turnGate_12 (by decide) ?_
      refine z_aload_n C 0 rfl d_Ps_turnGate_15 rfl ?_
      refine z_iload_n C 2 rfl d_Ps_turnGate_16 rfl ?_
      obtain ⟨r6, h5, h⟩ := zb1_some h
      refine z_cV C 5 (by decide) (m_Ps_has l ha0 ga0 h5) mf_Ps_has lk_5_98 in_Ps_has se_Ps_has rfl (Or.inl ⟨rfl, ga0⟩) ha0 ⟨rfl, rfl⟩ ⟨by decide, by decide⟩ ⟨Nat.zero_le _, Nat.zero_le _⟩ rfl _ [] rfl (Nat.le_of_ble_eq_true rfl) d_Ps_turnGate_17 ?_
      rcases zite h with ⟨c7, h⟩ | ⟨c7, h⟩
      · refine z_if_nef C 26 c7 d_Ps_turnGate_20 (by decide) ?_
        refine z_bipush C (-2 : Int32) (by decide) d_Ps_turnGate_23 ?_
        cases h
        exact z_iret C .int hret rfl ⟨Nat.zero_le _, Nat.zero_le _⟩ d_Ps_turnGate_25
      · refine z_if_net C 26 c7 d_Ps_turnGate_20 (by decide) ?_
        refine z_aload_n C 0 rfl d_Ps_turnGate_26 rfl ?_
        refine z_iload_n C 1 rfl d_Ps_turnGate_27 rfl ?_
        refine z_iload_n C 2 rfl d_Ps_turnGate_28 rfl ?_
        obtain ⟨r9, h8, h⟩ := zb1_some h
        refine z_cV C 5 (by decide) (m_Ps_pairOf l ha0 ga0 h8) mf_Ps_pairOf lk_5_80 in_Ps_pairOf se_Ps_pairOf rfl (Or.inl ⟨rfl, ga0⟩) ha0 ⟨rfl, rfl⟩ ⟨by decide, by decide⟩ ⟨Nat.zero_le _, Nat.zero_le _⟩ rfl _ [] rfl (Nat.le_of_ble_eq_true rfl) d_Ps_turnGate_29 ?_
        refine z_istore_n C [(3, zi r9), (0, zr (some a0)), (1, zi a1), (2, zi a2)] d_Ps_turnGate_32 rfl (by decide) rfl ?_
        refine z_aload_n C 1 rfl d_Ps_turnGate_33 rfl ?_
        refine z_iload_n C 0 rfl d_Ps_turnGate_34 rfl ?_
        obtain ⟨r11, h10, h⟩ := zb1_some h
        refine z_cV C 5 (by decide) (m_Ps_farOf l ha0 ga0 h10) mf_Ps_farOf lk_5_88 in_Ps_farOf se_Ps_farOf rfl (Or.inl ⟨rfl, ga0⟩) ha0 ⟨rfl, rfl⟩ ⟨by decide, by decide⟩ ⟨Nat.zero_le _, Nat.zero_le _⟩ rfl _ [] rfl (Nat.le_of_ble_eq_true rfl) d_Ps_turnGate_35 ?_
        rcases zite h with ⟨c12, h⟩ | ⟨c12, h⟩
        · refine z_if_nef C 44 c12 d_Ps_turnGate_38 (by decide) ?_
          refine z_bipush C (-3 : Int32) (by decide) d_Ps_turnGate_41 ?_
          cases h
          exact z_iret C .int hret rfl ⟨Nat.zero_le _, Nat.zero_le _⟩ d_Ps_turnGate_43
        · refine z_if_net C 44 c12 d_Ps_turnGate_38 (by decide) ?_
          refine z_aload_n C 1 rfl d_Ps_turnGate_44 rfl ?_
          refine z_dup C rfl d_Ps_turnGate_45 ?_
          refine z_getL C 5 (by decide) 4 (by decide) rfl (Or.inl ⟨rfl, ga0⟩) ha0 zfl_5_26 d_Ps_turnGate_46 ?_
          refine z_lconst C (1 : Int64) (by decide) d_Ps_turnGate_49 ?_
          refine z_iload_n C 0 rfl d_Ps_turnGate_50 rfl ?_
          refine z_lshl C d_Ps_turnGate_51 ?_
          refine z_lxor C d_Ps_turnGate_52 ?_
          refine z_putL C 5 (by decide) 4 (by decide) rfl (Or.inl ⟨rfl, ga0⟩) ha0 zfl_5_26 (Or.inl rfl) d_Ps_turnGate_53 ?_
          refine z_aload_n C 1 rfl d_Ps_turnGate_56 rfl ?_
          refine z_iload_n C 0 rfl d_Ps_turnGate_57 rfl ?_
          obtain ⟨r14, h13, h⟩ := zb1_some h
          refine z_cV C 5 (by decide) (m_Ps_isShut l ha0 ga0 h13) mf_Ps_isShut lk_5_106 in_Ps_isShut se_Ps_isShut rfl (Or.inl ⟨rfl, ga0⟩) ha0 ⟨rfl, rfl⟩ ⟨by decide, by decide⟩ ⟨Nat.zero_le _, Nat.zero_le _⟩ rfl _ [] rfl (Nat.le_of_ble_eq_true rfl) d_Ps_turnGate_58 ?_
          rcases zite h with ⟨c15, h⟩ | ⟨c15, h⟩
          · refine z_if_eqt C 68 c15 d_Ps_turnGate_61 (by decide) ?_
            refine z_iconst C (0 : Int32) (by decide) d_Ps_turnGate_68 ?_
            cases h
            exact z_iret C .int hret rfl ⟨Nat.zero_le _, Nat.zero_le _⟩ d_Ps_turnGate_69
          · refine z_if_eqf C 68 c15 d_Ps_turnGate_61 (by decide) ?_
            refine z_iconst C (1 : Int32) (by decide) d_Ps_turnGate_64 ?_
            refine z_goto C 69 d_Ps_turnGate_65 (by decide) ?_
            cases h
            exact z_iret C .int hret rfl ⟨Nat.zero_le _, Nat.zero_le _⟩ d_Ps_turnGate_69
def f_Ps_muddy (a0 : Nat) (a1 : Int32) (a2 : Int32) (S : zSt) : Option (Int32 × zSt) := if a2 < 0 then some ((-1 : Int32), S) else if a2 ≤ (9 : Int32) then zb1 (f_Ps_has a0 a1 S) (fun r4 => if r4 = 0 then some ((-2 : Int32), S) else zb1 (f_Ps_mudOf a0 a1 S) (fun r7 => if r7 = a2 then some ((-3 : Int32), S) else zb1 (f_Ps_setMud a0 a1 a2 S) (fun S10 => some (r7, S10)))) else some ((-1 : Int32), S)
set_option maxRecDepth 100000 in
set_option maxHeartbeats 4000000 in
theorem m_Ps_muddy (l : Launch) {a0 : Nat} {a1 : Int32} {a2 : Int32} {S : zSt} {r : Int32} {S1 : zSt} (ha0 : zK a0 = 5) (ga0 : a0 < zN0) (h : f_Ps_muddy a0 a1 a2 S = some (r, S1)) : zPM l y_Ps_muddy b_Ps_muddy 4 (some .int) rm_Ps_muddy true true [zr (some a0), zi a1, zi a2] S (some (zi r)) S1 := by
  refine zPM_of (by decide) (Nat.le_of_ble_eq_true rfl) (fun p e s m args below meth c G C hret hname => ?_)
  unfold f_Ps_muddy at h
  refine (?_ : zJ p l e rm_Ps_muddy s m args below meth c G true 4 0 0 (zQm below G args s rm_Ps_muddy true (some (zi r)) S1) S 0 [(0, zr (some a0)), (1, zi a1), (2, zi a2)] [])
  refine z_iload_n C 2 rfl d_Ps_muddy_0 rfl ?_
  rcases zite h with ⟨c1, h⟩ | ⟨c1, h⟩
  · refine z_if_ltt C 10 c1 d_Ps_muddy_1 (by decide) ?_
    refine z_iconst C (-1 : Int32) (by decide) d_Ps_muddy_10 ?_
    cases h
    exact z_iret C .int hret rfl ⟨Nat.zero_le _, Nat.zero_le _⟩ d_Ps_muddy_11
  · refine z_if_ltf C 10 c1 d_Ps_muddy_1 (by decide) ?_
    refine z_iload_n C 2 rfl d_Ps_muddy_4 rfl ?_
    refine z_bipush C (9 : Int32) (by decide) d_Ps_muddy_5 ?_
    rcases zite h with ⟨c2, h⟩ | ⟨c2, h⟩
    · refine z_icmp_let C 12 c2 d_Ps_muddy_7 (by decide) ?_
      refine z_aload_n C 0 rfl d_Ps_muddy_12 rfl ?_
      refine z_iload_n C 1 rfl d_Ps_muddy_13 rfl ?_
      obtain ⟨r4, h3, h⟩ := zb1_some h
      refine z_cV C 5 (by decide) (m_Ps_has l ha0 ga0 h3) mf_Ps_has lk_5_98 in_Ps_has se_Ps_has rfl (Or.inl ⟨rfl, ga0⟩) ha0 ⟨rfl, rfl⟩ ⟨by decide, by decide⟩ ⟨Nat.zero_le _, Nat.zero_le _⟩ rfl _ [] rfl (Nat.le_of_ble_eq_true rfl) d_Ps_muddy_14 ?_
      rcases zite h with ⟨c5, h⟩ | ⟨c5, h⟩
      · refine z_if_nef C 23 c5 d_Ps_muddy_17 (by decide) ?_
        refine z_bipush C (-2 : Int32) (by decide) d_Ps_muddy_20 ?_
        cases h
        exact z_iret C .int hret rfl ⟨Nat.zero_le _, Nat.zero_le _⟩ d_Ps_muddy_22
      · refine z_if_net C 23 c5 d_Ps_muddy_17 (by decide) ?_
        refine z_aload_n C 0 rfl d_Ps_muddy_23 rfl ?_
        refine z_iload_n C 1 rfl d_Ps_muddy_24 rfl ?_
        obtain ⟨r7, h6, h⟩ := zb1_some h
        refine z_cV C 5 (by decide) (m_Ps_mudOf l ha0 ga0 h6) mf_Ps_mudOf lk_5_95 in_Ps_mudOf se_Ps_mudOf rfl (Or.inl ⟨rfl, ga0⟩) ha0 ⟨rfl, rfl⟩ ⟨by decide, by decide⟩ ⟨Nat.zero_le _, Nat.zero_le _⟩ rfl _ [] rfl (Nat.le_of_ble_eq_true rfl) d_Ps_muddy_25 ?_
        refine z_istore_n C [(3, zi r7), (0, zr (some a0)), (1, zi a1), (2, zi a2)] d_Ps_muddy_28 rfl (by decide) rfl ?_
        refine z_iload_n C 0 rfl d_Ps_muddy_29 rfl ?_
        refine z_iload_n C 3 rfl d_Ps_muddy_30 rfl ?_
        rcases zite h with ⟨c8, h⟩ | ⟨c8, h⟩
        · refine z_icmp_nef C 37 c8 d_Ps_muddy_31 (by decide) ?_
          refine z_bipush C (-3 : Int32) (by decide) d_Ps_muddy_34 ?_
          cases h
          exact z_iret C .int hret rfl ⟨Nat.zero_le _, Nat.zero_le _⟩ d_Ps_muddy_36
        · refine z_icmp_net C 37 c8 d_Ps_muddy_31 (by decide) ?_
          refine z_aload_n C 1 rfl d_Ps_muddy_37 rfl ?_
          refine z_iload_n C 2 rfl d_Ps_muddy_38 rfl ?_
          refine z_iload_n C 3 rfl d_Ps_muddy_39 rfl ?_
          obtain ⟨S10, h9, h⟩ := zb1_some h
          refine z_cV C 5 (by decide) (m_Ps_setMud l ha0 ga0 h9) mf_Ps_setMud lk_5_72 in_Ps_setMud se_Ps_setMud rfl (Or.inl ⟨rfl, ga0⟩) ha0 ⟨rfl, rfl⟩ ⟨by decide, by decide⟩ ⟨Nat.zero_le _, Nat.zero_le _⟩ rfl _ [] rfl (Nat.le_of_ble_eq_true rfl) d_Ps_muddy_40 ?_
          refine z_iload_n C 0 rfl d_Ps_muddy_43 rfl ?_
          cases h
          exact z_iret C .int hret rfl ⟨Nat.zero_le _, Nat.zero_le _⟩ d_Ps_muddy_44
    · refine z_icmp_lef C 12 c2 d_Ps_muddy_7 (by decide) ?_
      refine z_iconst C (-1 : Int32) (by decide) d_Ps_muddy_10 ?_
      cases h
      exact z_iret C .int hret rfl ⟨Nat.zero_le _, Nat.zero_le _⟩ d_Ps_muddy_11
def f_Ps_nextDay_78 (fu : Nat) (a0 : Nat) (a3 : Int64) (a5 : Int32) (S : zSt) : Option (Int32 × zSt) := some (a5, zwI (zwL S a0 3 a3) a0 6 ((zI (zwL S a0 3 a3) a0 6) + (1 : Int32)))
def f_Ps_nextDay_26 (fu : Nat) (a0 : Nat) : Nat → Option Nat → Int64 → Int32 → Int32 → zSt → Option (Int32 × zSt)
  | 0, _, _, _, _, _ => none
  | n + 1, a2, a3, a5, a6, S => if (zI S a0 0) ≤ a6 then f_Ps_nextDay_78 fu a0 a3 a5 S else zb2 (f_As_told fu a0 a2 (2 : Int32) a6 (-1 : Int32) S) (fun r3 S4 => zb1 (f_Ps_mudOf a0 a6 S4) (fun r6 => if r3 = r6 then f_Ps_nextDay_26 fu a0 n a2 (a3 ||| (r3.toInt64 <<< (((4 : Int32) * a6).toInt64 &&& 63))) a5 (a6 + (1 : Int32)) S4 else f_Ps_nextDay_26 fu a0 n a2 (a3 ||| (r3.toInt64 <<< (((4 : Int32) * a6).toInt64 &&& 63))) (a5 + (1 : Int32)) (a6 + (1 : Int32)) S4))
def f_Ps_nextDay (fu : Nat) (a0 : Nat) (S : zSt) : Option (Int32 × zSt) := if (zI S a0 6) < (999 : Int32) then zb1 (f_Ps_lawInForce a0 S) (fun r3 => f_Ps_nextDay_26 fu a0 fu r3 (0 : Int64) (0 : Int32) (0 : Int32) S) else some ((-3 : Int32), S)
set_option maxRecDepth 100000 in
set_option maxHeartbeats 4000000 in
theorem c_Ps_nextDay_78 {p : Program} {l : Launch} {e : Env} {s : State} {m : MethodId} {args : Array Value} {below : List Frame} {meth : Method} {c : Code} {G : zG} (C : zC p s m args meth c G b_Ps_nextDay 8 y_Ps_nextDay.cls) (hret : meth.sig.returnType = (some .int)) {fu : Nat} {a0 : Nat} {r : Int32} {S1 : zSt} (ha0 : zK a0 = 5) (ga0 : a0 < zN0) : ∀ (a3 : Int64) (a5 : Int32) (S : zSt) , f_Ps_nextDay_78 fu a0 a3 a5 S = some (r, S1) → zJ p l e rm_Ps_nextDay s m args below meth c G true 8 0 0 (zQm below G args s rm_Ps_nextDay true (some (zi r)) S1) S 78 [(0, zr (some a0)), (3, zl a3), (5, zi a5)] [] := by
  intro a3 a5 S h
  unfold f_Ps_nextDay_78 at h
  refine z_aload_n C 0 rfl d_Ps_nextDay_78 rfl ?_
  refine z_lload_n C 1 rfl d_Ps_nextDay_79 rfl ?_
  refine z_putL C 5 (by decide) 3 (by decide) rfl (Or.inl ⟨rfl, ga0⟩) ha0 zfl_5_22 (Or.inl rfl) d_Ps_nextDay_80 ?_
  refine z_aload_n C 0 rfl d_Ps_nextDay_83 rfl ?_
  refine z_dup C rfl d_Ps_nextDay_84 ?_
  refine z_getI C 5 (by decide) 6 (by decide) rfl (Or.inl ⟨rfl, ga0⟩) ha0 zfl_5_32 d_Ps_nextDay_85 ?_
  refine z_iconst C (1 : Int32) (by decide) d_Ps_nextDay_88 ?_
  refine z_iadd C d_Ps_nextDay_89 ?_
  refine z_putI C 5 (by decide) 6 (by decide) rfl (Or.inl rfl) (Or.inl ⟨rfl, ga0⟩) ha0 zfl_5_32 (Or.inl rfl) d_Ps_nextDay_90 ?_
  refine z_iload C 2 rfl d_Ps_nextDay_93 ?_
  cases h
  exact z_iret C .int hret rfl ⟨Nat.zero_le _, Nat.zero_le _⟩ d_Ps_nextDay_95
set_option maxRecDepth 100000 in
set_option maxHeartbeats 4000000 in
theorem c_Ps_nextDay_26 {p : Program} {l : Launch} {e : Env} {s : State} {m : MethodId} {args : Array Value} {below : List Frame} {meth : Method} {c : Code} {G : zG} (C : zC p s m args meth c G b_Ps_nextDay 8 y_Ps_nextDay.cls) (hret : meth.sig.returnType = (some .int)) {fu : Nat} {a0 : Nat} {r : Int32} {S1 : zSt} (ha0 : zK a0 = 5) (ga0 : a0 < zN0) : ∀ (n : Nat) (a2 : Option Nat) (a3 : Int64) (a5 : Int32) (a6 : Int32) (S : zSt) , f_Ps_nextDay_26 fu a0 n a2 a3 a5 a6 S = some (r, S1) → zJ p l e rm_Ps_nextDay s m args below meth c G true 8 0 0 (zQm below G args s rm_Ps_nextDay true (some (zi r)) S1) S 26 [(0, zr (some a0)), (1, zr (some 52)), (2, zr a2), (3, zl a3), (5, zi a5), (6, zi a6)] [] := by
  intro n
  induction n with
  | zero =>
    intro a2 a3 a5 a6 S h
    cases h
  | succ n ih =>
    intro a2 a3 a5 a6 S h
    rw [f_Ps_nextDay_26] at h
    refine z_iload C 5 rfl d_Ps_nextDay_26 ?_
    refine z_aload_n C 0 rfl d_Ps_nextDay_28 rfl ?_
    refine z_getI C 5 (by decide) 0 (by decide) rfl (Or.inl ⟨rfl, ga0⟩) ha0 zfl_5_9 d_Ps_nextDay_29 ?_
    rcases zite h with ⟨c1, h⟩ | ⟨c1, h⟩
    · refine z_icmp_get C 78 c1 d_Ps_nextDay_32 (by decide) ?_
      refine zq_lsub [0, 3, 4] [(0, zr (some a0)), (3, zl a3), (5, zi a5)] rfl ?_
      exact c_Ps_nextDay_78 C hret ha0 ga0  a3 a5 S h
    · refine z_icmp_gef C 78 c1 d_Ps_nextDay_32 (by decide) ?_
      refine z_aload_n C 1 rfl d_Ps_nextDay_35 rfl ?_
      refine z_aload_n C 0 rfl d_Ps_nextDay_36 rfl ?_
      refine z_aload_n C 2 rfl d_Ps_nextDay_37 rfl ?_
      refine z_iconst C (2 : Int32) (by decide) d_Ps_nextDay_38 ?_
      refine z_iload C 5 rfl d_Ps_nextDay_39 ?_
      refine z_iconst C (-1 : Int32) (by decide) d_Ps_nextDay_41 ?_
      obtain ⟨r3, S4, h2, h⟩ := zb2_some h
      refine z_cV C 1 (by decide) (m_As_told l ha0 ga0 h2) mf_As_told lk_5_109 in_As_told se_As_told rfl zo_52 zk_52 ⟨rfl, rfl⟩ ⟨by decide, by decide⟩ ⟨Nat.zero_le _, Nat.zero_le _⟩ rfl _ [] rfl (Nat.le_of_ble_eq_true rfl) d_Ps_nextDay_42 ?_
      refine z_istore C [(7, zi r3), (0, zr (some a0)), (1, zr (some 52)), (2, zr a2), (3, zl a3), (5, zi a5), (6, zi a6)] d_Ps_nextDay_45 (by decide) rfl ?_
      refine z_lload_n C 4 rfl d_Ps_nextDay_47 rfl ?_
      refine z_iload C 0 rfl d_Ps_nextDay_48 ?_
      refine z_i2l C d_Ps_nextDay_50 ?_
      refine z_iconst C (4 : Int32) (by decide) d_Ps_nextDay_51 ?_
      refine z_iload C 6 rfl d_Ps_nextDay_52 ?_
      refine z_imul C d_Ps_nextDay_54 ?_
      refine z_lshl C d_Ps_nextDay_55 ?_
      refine z_lor C d_Ps_nextDay_56 ?_
      refine z_lstore_n C [(3, zl (a3 ||| (r3.toInt64 <<< (((4 : Int32) * a6).toInt64 &&& 63)))), (7, zi r3), (0, zr (some a0)), (1, zr (some 52)), (2, zr a2), (5, zi a5), (6, zi a6)] d_Ps_nextDay_57 rfl (by decide) rfl ?_
      refine z_iload C 1 rfl d_Ps_nextDay_58 ?_
      refine z_aload_n C 2 rfl d_Ps_nextDay_60 rfl ?_
      refine z_iload C 6 rfl d_Ps_nextDay_61 ?_
      obtain ⟨r6, h5, h⟩ := zb1_some h
      refine z_cV C 5 (by decide) (m_Ps_mudOf l ha0 ga0 h5) mf_Ps_mudOf lk_5_95 in_Ps_mudOf se_Ps_mudOf rfl (Or.inl ⟨rfl, ga0⟩) ha0 ⟨rfl, rfl⟩ ⟨by decide, by decide⟩ ⟨Nat.zero_le _, Nat.zero_le _⟩ rfl _ [zi r3] rfl (Nat.le_of_ble_eq_true rfl) d_Ps_nextDay_63 ?_
      rcases zite h with ⟨c7, h⟩ | ⟨c7, h⟩
      · refine z_icmp_eqt C 72 c7 d_Ps_nextDay_66 (by decide) ?_
        refine z_iinc C 6 (a6 + (1 : Int32)) [(6, zi (a6 + (1 : Int32))), (3, zl (a3 ||| (r3.toInt64 <<< (((4 : Int32) * a6).toInt64 &&& 63)))), (7, zi r3), (0, zr (some a0)), (1, zr (some 52)), (2, zr a2), (5, zi a5)] rfl d_Ps_nextDay_72 (by first | rfl | decide) (by decide) rfl ?_
        refine z_goto C 26 d_Ps_nextDay_75 (by decide) ?_
        refine zq_lsub [3, 4, 5, 1, 6, 0] [(0, zr (some a0)), (1, zr (some 52)), (2, zr a2), (3, zl (a3 ||| (r3.toInt64 <<< (((4 : Int32) * a6).toInt64 &&& 63)))), (5, zi a5), (6, zi (a6 + (1 : Int32)))] rfl ?_
        exact ih a2 (a3 ||| (r3.toInt64 <<< (((4 : Int32) * a6).toInt64 &&& 63))) a5 (a6 + (1 : Int32)) S4 h
      · refine z_icmp_eqf C 72 c7 d_Ps_nextDay_66 (by decide) ?_
        refine z_iinc C 5 (a5 + (1 : Int32)) [(5, zi (a5 + (1 : Int32))), (3, zl (a3 ||| (r3.toInt64 <<< (((4 : Int32) * a6).toInt64 &&& 63)))), (7, zi r3), (0, zr (some a0)), (1, zr (some 52)), (2, zr a2), (6, zi a6)] rfl d_Ps_nextDay_69 (by first | rfl | decide) (by decide) rfl ?_
        refine z_iinc C 6 (a6 + (1 : Int32)) [(6, zi (a6 + (1 : Int32))), (5, zi (a5 + (1 : Int32))), (3, zl (a3 ||| (r3.toInt64 <<< (((4 : Int32) * a6).toInt64 &&& 63)))), (7, zi r3), (0, zr (some a0)), (1, zr (some 52)), (2, zr a2)] rfl d_Ps_nextDay_72 (by first | rfl | decide) (by decide) rfl ?_
        refine z_goto C 26 d_Ps_nextDay_75 (by decide) ?_
        refine zq_lsub [4, 5, 6, 2, 1, 0] [(0, zr (some a0)), (1, zr (some 52)), (2, zr a2), (3, zl (a3 ||| (r3.toInt64 <<< (((4 : Int32) * a6).toInt64 &&& 63)))), (5, zi (a5 + (1 : Int32))), (6, zi (a6 + (1 : Int32)))] rfl ?_
        exact ih a2 (a3 ||| (r3.toInt64 <<< (((4 : Int32) * a6).toInt64 &&& 63))) (a5 + (1 : Int32)) (a6 + (1 : Int32)) S4 h
set_option maxRecDepth 100000 in
set_option maxHeartbeats 4000000 in
theorem m_Ps_nextDay (l : Launch) {fu : Nat} {a0 : Nat} {S : zSt} {r : Int32} {S1 : zSt} (ha0 : zK a0 = 5) (ga0 : a0 < zN0) (h : f_Ps_nextDay fu a0  S = some (r, S1)) : zPM l y_Ps_nextDay b_Ps_nextDay 8 (some .int) rm_Ps_nextDay true true [zr (some a0), zr (some 52)] S (some (zi r)) S1 := by
  refine zPM_of (by decide) (Nat.le_of_ble_eq_true rfl) (fun p e s m args below meth c G C hret hname => ?_)
  unfold f_Ps_nextDay at h
  refine (?_ : zJ p l e rm_Ps_nextDay s m args below meth c G true 8 0 0 (zQm below G args s rm_Ps_nextDay true (some (zi r)) S1) S 0 [(0, zr (some a0)), (1, zr (some 52))] [])
  refine z_aload_n C 0 rfl d_Ps_nextDay_0 rfl ?_
  refine z_getI C 5 (by decide) 6 (by decide) rfl (Or.inl ⟨rfl, ga0⟩) ha0 zfl_5_32 d_Ps_nextDay_1 ?_
  refine z_sipush C (999 : Int32) (by decide) d_Ps_nextDay_4 ?_
  rcases zite h with ⟨c1, h⟩ | ⟨c1, h⟩
  · refine z_icmp_ltt C 13 c1 d_Ps_nextDay_7 (by decide) ?_
    refine z_aload_n C 0 rfl d_Ps_nextDay_13 rfl ?_
    obtain ⟨r3, h2, h⟩ := zb1_some h
    refine z_cV C 5 (by decide) (m_Ps_lawInForce l ha0 ga0 h2) mf_Ps_lawInForce lk_5_102 in_Ps_lawInForce se_Ps_lawInForce rfl (Or.inl ⟨rfl, ga0⟩) ha0 ⟨rfl, rfl⟩ ⟨by decide, by decide⟩ ⟨Nat.zero_le _, Nat.zero_le _⟩ rfl _ [] rfl (Nat.le_of_ble_eq_true rfl) d_Ps_nextDay_14 ?_
    refine z_astore_n C [(2, zr r3), (0, zr (some a0)), (1, zr (some 52))] d_Ps_nextDay_17 rfl (by decide) rfl ?_
    refine z_lconst C (0 : Int64) (by decide) d_Ps_nextDay_18 ?_
    refine z_lstore_n C [(3, zl (0 : Int64)), (2, zr r3), (0, zr (some a0)), (1, zr (some 52))] d_Ps_nextDay_19 rfl (by decide) rfl ?_
    refine z_iconst C (0 : Int32) (by decide) d_Ps_nextDay_20 ?_
    refine z_istore C [(5, zi (0 : Int32)), (3, zl (0 : Int64)), (2, zr r3), (0, zr (some a0)), (1, zr (some 52))] d_Ps_nextDay_21 (by decide) rfl ?_
    refine z_iconst C (0 : Int32) (by decide) d_Ps_nextDay_23 ?_
    refine z_istore C [(6, zi (0 : Int32)), (5, zi (0 : Int32)), (3, zl (0 : Int64)), (2, zr r3), (0, zr (some a0)), (1, zr (some 52))] d_Ps_nextDay_24 (by decide) rfl ?_
    refine zq_lsub [4, 5, 3, 2, 1, 0] [(0, zr (some a0)), (1, zr (some 52)), (2, zr r3), (3, zl (0 : Int64)), (5, zi (0 : Int32)), (6, zi (0 : Int32))] rfl ?_
    exact c_Ps_nextDay_26 C hret ha0 ga0 fu  r3 (0 : Int64) (0 : Int32) (0 : Int32) S h
  · refine z_icmp_ltf C 13 c1 d_Ps_nextDay_7 (by decide) ?_
    refine z_bipush C (-3 : Int32) (by decide) d_Ps_nextDay_10 ?_
    cases h
    exact z_iret C .int hret rfl ⟨Nat.zero_le _, Nat.zero_le _⟩ d_Ps_nextDay_12
def f_Jo_add (a0 : Nat) (a1 : Int32) (a2 : Int32) (a3 : Int32) (a4 : Int64) (a6 : Int64) (S : zSt) : Option zSt := zgd (0 ≤ ((zI S a0 1) &&& (15 : Int32)) ∧ ((zI S a0 1) &&& (15 : Int32)).toNatClampNeg < 16) (zgd (0 ≤ ((zI S a0 1) &&& (15 : Int32)) ∧ ((zI S a0 1) &&& (15 : Int32)).toNatClampNeg < 16) (zgd (0 ≤ ((zI S a0 1) &&& (15 : Int32)) ∧ ((zI S a0 1) &&& (15 : Int32)).toNatClampNeg < 16) (zgd (0 ≤ ((zI S a0 1) &&& (15 : Int32)) ∧ ((zI S a0 1) &&& (15 : Int32)).toNatClampNeg < 16) (zgd (0 ≤ ((zI S a0 1) &&& (15 : Int32)) ∧ ((zI S a0 1) &&& (15 : Int32)).toNatClampNeg < 16) (if (16 : Int32) ≤ (zI (zwI (zwL (zwL (zwI (zwI (zwI S (a0 + 1) ((zI S a0 1) &&& (15 : Int32)).toNatClampNeg a1) (a0 + 2) ((zI S a0 1) &&& (15 : Int32)).toNatClampNeg a2) (a0 + 3) ((zI S a0 1) &&& (15 : Int32)).toNatClampNeg a3) (a0 + 4) ((zI S a0 1) &&& (15 : Int32)).toNatClampNeg a4) (a0 + 5) ((zI S a0 1) &&& (15 : Int32)).toNatClampNeg a6) a0 1 (((zI S a0 1) &&& (15 : Int32)) + (1 : Int32))) a0 0) then some (zwI (zwL (zwL (zwI (zwI (zwI S (a0 + 1) ((zI S a0 1) &&& (15 : Int32)).toNatClampNeg a1) (a0 + 2) ((zI S a0 1) &&& (15 : Int32)).toNatClampNeg a2) (a0 + 3) ((zI S a0 1) &&& (15 : Int32)).toNatClampNeg a3) (a0 + 4) ((zI S a0 1) &&& (15 : Int32)).toNatClampNeg a4) (a0 + 5) ((zI S a0 1) &&& (15 : Int32)).toNatClampNeg a6) a0 1 (((zI S a0 1) &&& (15 : Int32)) + (1 : Int32))) else some (zwI (zwI (zwL (zwL (zwI (zwI (zwI S (a0 + 1) ((zI S a0 1) &&& (15 : Int32)).toNatClampNeg a1) (a0 + 2) ((zI S a0 1) &&& (15 : Int32)).toNatClampNeg a2) (a0 + 3) ((zI S a0 1) &&& (15 : Int32)).toNatClampNeg a3) (a0 + 4) ((zI S a0 1) &&& (15 : Int32)).toNatClampNeg a4) (a0 + 5) ((zI S a0 1) &&& (15 : Int32)).toNatClampNeg a6) a0 1 (((zI S a0 1) &&& (15 : Int32)) + (1 : Int32))) a0 0 ((zI (zwI (zwL (zwL (zwI (zwI (zwI S (a0 + 1) ((zI S a0 1) &&& (15 : Int32)).toNatClampNeg a1) (a0 + 2) ((zI S a0 1) &&& (15 : Int32)).toNatClampNeg a2) (a0 + 3) ((zI S a0 1) &&& (15 : Int32)).toNatClampNeg a3) (a0 + 4) ((zI S a0 1) &&& (15 : Int32)).toNatClampNeg a4) (a0 + 5) ((zI S a0 1) &&& (15 : Int32)).toNatClampNeg a6) a0 1 (((zI S a0 1) &&& (15 : Int32)) + (1 : Int32))) a0 0) + (1 : Int32))))))))
set_option maxRecDepth 100000 in
set_option maxHeartbeats 4000000 in
theorem m_Jo_add (l : Launch) {a0 : Nat} {a1 : Int32} {a2 : Int32} {a3 : Int32} {a4 : Int64} {a6 : Int64} {S : zSt} {S1 : zSt} (ha0 : zK a0 = 2) (ga0 : a0 < zN0) (h : f_Jo_add a0 a1 a2 a3 a4 a6 S = some S1) : zPM l y_Jo_add b_Jo_add 9 none rm_Jo_add true true [zr (some a0), zi a1, zi a2, zi a3, zl a4, zl a6] S none S1 := by
  refine zPM_of (by decide) (Nat.le_of_ble_eq_true rfl) (fun p e s m args below meth c G C hret hname => ?_)
  unfold f_Jo_add at h
  refine (?_ : zJ p l e rm_Jo_add s m args below meth c G true 9 0 0 (zQm below G args s rm_Jo_add true none S1) S 0 [(0, zr (some a0)), (1, zi a1), (2, zi a2), (3, zi a3), (4, zl a4), (6, zl a6)] [])
  refine z_aload_n C 0 rfl d_Jo_add_0 rfl ?_
  refine z_getI C 2 (by decide) 1 (by decide) rfl (Or.inl ⟨rfl, ga0⟩) ha0 zfl_2_15 d_Jo_add_1 ?_
  refine z_bipush C (15 : Int32) (by decide) d_Jo_add_4 ?_
  refine z_iand C d_Jo_add_6 ?_
  refine z_istore C [(8, zi ((zI S a0 1) &&& (15 : Int32))), (0, zr (some a0)), (1, zi a1), (2, zi a2), (3, zi a3), (4, zl a4), (6, zl a6)] d_Jo_add_7 (by decide) rfl ?_
  refine z_aload_n C 1 rfl d_Jo_add_9 rfl ?_
  refine z_getF2 C 2 (by decide) 2 (by decide) rfl 1 16 rfl (a0 + 1) rfl (Or.inl ga0) ha0 zfl_2_18 d_Jo_add_10 ?_
  refine z_iload C 0 rfl d_Jo_add_13 ?_
  refine z_iload_n C 2 rfl d_Jo_add_15 rfl ?_
  refine z_fact (fun hSR => ?_)
  obtain ⟨g1, h⟩ := zgd_some h
  refine z_iastoreS C (Or.inl ⟨rfl, (zko_2_1 ha0 ga0).1⟩) (zko_2_1 ha0 ga0).2 (zsa_2_1 hSR ha0 ga0) g1 d_Jo_add_16 ?_
  refine z_aload_n C 1 rfl d_Jo_add_17 rfl ?_
  refine z_getF2 C 2 (by decide) 3 (by decide) rfl 2 16 rfl (a0 + 2) rfl (Or.inl ga0) ha0 zfl_2_22 d_Jo_add_18 ?_
  refine z_iload C 0 rfl d_Jo_add_21 ?_
  refine z_iload_n C 3 rfl d_Jo_add_23 rfl ?_
  refine z_fact (fun hSR => ?_)
  obtain ⟨g2, h⟩ := zgd_some h
  refine z_iastoreS C (Or.inl ⟨rfl, (zko_2_2 ha0 ga0).1⟩) (zko_2_2 ha0 ga0).2 (zsa_2_2 hSR ha0 ga0) g2 d_Jo_add_24 ?_
  refine z_aload_n C 1 rfl d_Jo_add_25 rfl ?_
  refine z_getF2 C 2 (by decide) 4 (by decide) rfl 3 16 rfl (a0 + 3) rfl (Or.inl ga0) ha0 zfl_2_25 d_Jo_add_26 ?_
  refine z_iload C 0 rfl d_Jo_add_29 ?_
  refine z_iload_n C 4 rfl d_Jo_add_31 rfl ?_
  refine z_fact (fun hSR => ?_)
  obtain ⟨g3, h⟩ := zgd_some h
  refine z_iastoreS C (Or.inl ⟨rfl, (zko_2_3 ha0 ga0).1⟩) (zko_2_3 ha0 ga0).2 (zsa_2_3 hSR ha0 ga0) g3 d_Jo_add_32 ?_
  refine z_aload_n C 1 rfl d_Jo_add_33 rfl ?_
  refine z_getF2 C 2 (by decide) 5 (by decide) rfl 4 16 rfl (a0 + 4) rfl (Or.inl ga0) ha0 zfl_2_28 d_Jo_add_34 ?_
  refine z_iload C 0 rfl d_Jo_add_37 ?_
  refine z_lload C 5 rfl d_Jo_add_39 ?_
  refine z_fact (fun hSR => ?_)
  obtain ⟨g4, h⟩ := zgd_some h
  refine z_lastoreS C (Or.inl ⟨rfl, (zko_2_4 ha0 ga0).1⟩) (zko_2_4 ha0 ga0).2 (zsa_2_4 hSR ha0 ga0) g4 d_Jo_add_41 ?_
  refine z_aload_n C 1 rfl d_Jo_add_42 rfl ?_
  refine z_getF2 C 2 (by decide) 6 (by decide) rfl 5 16 rfl (a0 + 5) rfl (Or.inl ga0) ha0 zfl_2_32 d_Jo_add_43 ?_
  refine z_iload C 0 rfl d_Jo_add_46 ?_
  refine z_lload C 6 rfl d_Jo_add_48 ?_
  refine z_fact (fun hSR => ?_)
  obtain ⟨g5, h⟩ := zgd_some h
  refine z_lastoreS C (Or.inl ⟨rfl, (zko_2_5 ha0 ga0).1⟩) (zko_2_5 ha0 ga0).2 (zsa_2_5 hSR ha0 ga0) g5 d_Jo_add_50 ?_
  refine z_aload_n C 1 rfl d_Jo_add_51 rfl ?_
  refine z_iload C 0 rfl d_Jo_add_52 ?_
  refine z_iconst C (1 : Int32) (by decide) d_Jo_add_54 ?_
  refine z_iadd C d_Jo_add_55 ?_
  refine z_putI C 2 (by decide) 1 (by decide) rfl (Or.inl rfl) (Or.inl ⟨rfl, ga0⟩) ha0 zfl_2_15 (Or.inl rfl) d_Jo_add_56 ?_
  refine z_aload_n C 1 rfl d_Jo_add_59 rfl ?_
  refine z_getI C 2 (by decide) 0 (by decide) rfl (Or.inl ⟨rfl, ga0⟩) ha0 zfl_2_11 d_Jo_add_60 ?_
  refine z_bipush C (16 : Int32) (by decide) d_Jo_add_63 ?_
  rcases zite h with ⟨c6, h⟩ | ⟨c6, h⟩
  · refine z_icmp_get C 78 c6 d_Jo_add_65 (by decide) ?_
    cases h
    exact z_vret C hret ⟨Nat.zero_le _, Nat.zero_le _⟩ d_Jo_add_78
  · refine z_icmp_gef C 78 c6 d_Jo_add_65 (by decide) ?_
    refine z_aload_n C 1 rfl d_Jo_add_68 rfl ?_
    refine z_dup C rfl d_Jo_add_69 ?_
    refine z_getI C 2 (by decide) 0 (by decide) rfl (Or.inl ⟨rfl, ga0⟩) ha0 zfl_2_11 d_Jo_add_70 ?_
    refine z_iconst C (1 : Int32) (by decide) d_Jo_add_73 ?_
    refine z_iadd C d_Jo_add_74 ?_
    refine z_putI C 2 (by decide) 0 (by decide) rfl (Or.inl rfl) (Or.inl ⟨rfl, ga0⟩) ha0 zfl_2_11 (Or.inl rfl) d_Jo_add_75 ?_
    cases h
    exact z_vret C hret ⟨Nat.zero_le _, Nat.zero_le _⟩ d_Jo_add_78
def f_E_act_122 (fu : Nat) (a1 : Int32) (a4 : Int32) (a5 : Int32) (a6 : Int64) (a8 : Int64) (a10 : Int32) (S : zSt) : Option (Int32 × zSt) := if a10 < 0 then some (a10, S) else zb1 (f_Jo_add 32 a1 a4 a5 a6 a8 S) (fun S3 => some (a10, S3))
def f_E_act (fu : Nat) (a1 : Int32) (a2 : Int32) (a3 : Int32) (S : zSt) : Option (Int32 × zSt) := if a1 = (0 : Int32) then zb2 (f_Ps_goTo fu 1 a2 S) (fun r3 S4 => f_E_act_122 fu a1 (zI S 1 5) (zI S 1 6) (zL S 1 4) (zL S 1 3) r3 S4) else if a1 = (1 : Int32) then zb2 (f_Ps_turnGate 1 a2 a3 S) (fun r7 S8 => f_E_act_122 fu a1 (zI S 1 5) (zI S 1 6) (zL S 1 4) (zL S 1 3) r7 S8) else if a1 = (2 : Int32) then zb2 (f_Ps_muddy 1 a2 a3 S) (fun r11 S12 => f_E_act_122 fu a1 (zI S 1 5) (zI S 1 6) (zL S 1 4) (zL S 1 3) r11 S12) else zb2 (f_Ps_nextDay fu 1 S) (fun r14 S15 => f_E_act_122 fu a1 (zI S 1 5) (zI S 1 6) (zL S 1 4) (zL S 1 3) r14 S15)
set_option maxRecDepth 100000 in
set_option maxHeartbeats 4000000 in
theorem c_E_act_122 {p : Program} {l : Launch} {e : Env} {s : State} {m : MethodId} {args : Array Value} {below : List Frame} {meth : Method} {c : Code} {G : zG} (C : zC p s m args meth c G b_E_act 11 y_E_act.cls) (hret : meth.sig.returnType = (some .int)) {fu : Nat} {r : Int32} {S1 : zSt} : ∀ (a1 : Int32) (a4 : Int32) (a5 : Int32) (a6 : Int64) (a8 : Int64) (a10 : Int32) (S : zSt) , f_E_act_122 fu a1 a4 a5 a6 a8 a10 S = some (r, S1) → zJ p l e rm_E_act s m args below meth c G true 11 0 0 (zQm below G args s rm_E_act true (some (zi r)) S1) S 122 [(0, zr (some 0)), (1, zi a1), (4, zi a4), (5, zi a5), (6, zl a6), (8, zl a8), (10, zi a10)] [] := by
  intro a1 a4 a5 a6 a8 a10 S h
  unfold f_E_act_122 at h
  refine z_iload C 6 rfl d_E_act_122 ?_
  rcases zite h with ⟨c1, h⟩ | ⟨c1, h⟩
  · refine z_if_ltt C 143 c1 d_E_act_124 (by decide) ?_
    refine z_iload C 6 rfl d_E_act_143 ?_
    cases h
    exact z_iret C .int hret rfl ⟨Nat.zero_le _, Nat.zero_le _⟩ d_E_act_145
  · refine z_if_ltf C 143 c1 d_E_act_124 (by decide) ?_
    refine z_aload_n C 0 rfl d_E_act_127 rfl ?_
    refine z_getF2 C 0 (by decide) 4 (by decide) rfl 32 0 rfl (32) rfl zp_0 zk_0 zfl_0_29 d_E_act_128 ?_
    refine z_iload_n C 1 rfl d_E_act_131 rfl ?_
    refine z_iload C 2 rfl d_E_act_132 ?_
    refine z_iload C 3 rfl d_E_act_134 ?_
    refine z_lload C 4 rfl d_E_act_136 ?_
    refine z_lload C 5 rfl d_E_act_138 ?_
    obtain ⟨S3, h2, h⟩ := zb1_some h
    refine z_cV C 2 (by decide) (m_Jo_add l zk_32 (Nat.le_of_ble_eq_true rfl) h2) mf_Jo_add lk_0_379 in_Jo_add se_Jo_add rfl zo_32 zk_32 ⟨rfl, rfl⟩ ⟨by decide, by decide⟩ ⟨Nat.zero_le _, Nat.zero_le _⟩ rfl _ [] rfl (Nat.le_of_ble_eq_true rfl) d_E_act_140 ?_
    refine z_iload C 6 rfl d_E_act_143 ?_
    cases h
    exact z_iret C .int hret rfl ⟨Nat.zero_le _, Nat.zero_le _⟩ d_E_act_145
set_option maxRecDepth 100000 in
set_option maxHeartbeats 4000000 in
theorem m_E_act (l : Launch) {fu : Nat} {a1 : Int32} {a2 : Int32} {a3 : Int32} {S : zSt} {r : Int32} {S1 : zSt} (h : f_E_act fu a1 a2 a3 S = some (r, S1)) : zPM l y_E_act b_E_act 11 (some .int) rm_E_act true true [zr (some 0), zi a1, zi a2, zi a3] S (some (zi r)) S1 := by
  refine zPM_of (by decide) (Nat.le_of_ble_eq_true rfl) (fun p e s m args below meth c G C hret hname => ?_)
  unfold f_E_act at h
  refine (?_ : zJ p l e rm_E_act s m args below meth c G true 11 0 0 (zQm below G args s rm_E_act true (some (zi r)) S1) S 0 [(0, zr (some 0)), (1, zi a1), (2, zi a2), (3, zi a3)] [])
  refine z_aload_n C 0 rfl d_E_act_0 rfl ?_
  refine z_getF2 C 0 (by decide) 0 (by decide) rfl 1 0 rfl (1) rfl zp_0 zk_0 zfl_0_12 d_E_act_1 ?_
  refine z_getI C 5 (by decide) 5 (by decide) rfl zo_1 zk_1 zfl_0_248 d_E_act_4 ?_
  refine z_istore C [(4, zi (zI S 1 5)), (0, zr (some 0)), (1, zi a1), (2, zi a2), (3, zi a3)] d_E_act_7 (by decide) rfl ?_
  refine z_aload_n C 1 rfl d_E_act_9 rfl ?_
  refine z_getF2 C 0 (by decide) 0 (by decide) rfl 1 0 rfl (1) rfl zp_0 zk_0 zfl_0_12 d_E_act_10 ?_
  refine z_getI C 5 (by decide) 6 (by decide) rfl zo_1 zk_1 zfl_0_326 d_E_act_13 ?_
  refine z_istore C [(5, zi (zI S 1 6)), (4, zi (zI S 1 5)), (0, zr (some 0)), (1, zi a1), (2, zi a2), (3, zi a3)] d_E_act_16 (by decide) rfl ?_
  refine z_aload_n C 2 rfl d_E_act_18 rfl ?_
  refine z_getF2 C 0 (by decide) 0 (by decide) rfl 1 0 rfl (1) rfl zp_0 zk_0 zfl_0_12 d_E_act_19 ?_
  refine z_getL C 5 (by decide) 4 (by decide) rfl zo_1 zk_1 zfl_0_347 d_E_act_22 ?_
  refine z_lstore C [(6, zl (zL S 1 4)), (5, zi (zI S 1 6)), (4, zi (zI S 1 5)), (0, zr (some 0)), (1, zi a1), (2, zi a2), (3, zi a3)] d_E_act_25 (by decide) rfl ?_
  refine z_aload_n C 3 rfl d_E_act_27 rfl ?_
  refine z_getF2 C 0 (by decide) 0 (by decide) rfl 1 0 rfl (1) rfl zp_0 zk_0 zfl_0_12 d_E_act_28 ?_
  refine z_getL C 5 (by decide) 3 (by decide) rfl zo_1 zk_1 zfl_0_366 d_E_act_31 ?_
  refine z_lstore C [(8, zl (zL S 1 3)), (6, zl (zL S 1 4)), (5, zi (zI S 1 6)), (4, zi (zI S 1 5)), (0, zr (some 0)), (1, zi a1), (2, zi a2), (3, zi a3)] d_E_act_34 (by decide) rfl ?_
  refine z_iload_n C 5 rfl d_E_act_36 rfl ?_
  rcases zite h with ⟨c1, h⟩ | ⟨c1, h⟩
  · refine z_tab C (0 : Int32) 27 64 c1 (by decide) (by decide) (by decide) (by decide) d_E_act_37 ?_
    refine z_aload_n C 4 rfl d_E_act_64 rfl ?_
    refine z_getF2 C 0 (by decide) 0 (by decide) rfl 1 0 rfl (1) rfl zp_0 zk_0 zfl_0_12 d_E_act_65 ?_
    refine z_iload_n C 6 rfl d_E_act_68 rfl ?_
    refine z_aload_n C 4 rfl d_E_act_69 rfl ?_
    refine z_getF2 C 0 (by decide) 8 (by decide) rfl 52 0 rfl (52) rfl zp_0 zk_0 zfl_0_53 d_E_act_70 ?_
    obtain ⟨r3, S4, h2, h⟩ := zb2_some h
    refine z_cV C 5 (by decide) (m_Ps_goTo l zk_1 (Nat.le_of_ble_eq_true rfl) h2) mf_Ps_goTo lk_0_369 in_Ps_goTo se_Ps_goTo rfl zo_1 zk_1 ⟨rfl, rfl⟩ ⟨by decide, by decide⟩ ⟨Nat.zero_le _, Nat.zero_le _⟩ rfl _ [] rfl (Nat.le_of_ble_eq_true rfl) d_E_act_73 ?_
    refine z_istore C [(10, zi r3), (8, zl (zL S 1 3)), (6, zl (zL S 1 4)), (5, zi (zI S 1 6)), (4, zi (zI S 1 5)), (0, zr (some 0)), (1, zi a1), (2, zi a2), (3, zi a3)] d_E_act_76 (by decide) rfl ?_
    refine z_goto C 122 d_E_act_78 (by decide) ?_
    refine zq_lsub [5, 6, 4, 3, 2, 1, 0] [(0, zr (some 0)), (1, zi a1), (4, zi (zI S 1 5)), (5, zi (zI S 1 6)), (6, zl (zL S 1 4)), (8, zl (zL S 1 3)), (10, zi r3)] rfl ?_
    exact c_E_act_122 C hret  a1 (zI S 1 5) (zI S 1 6) (zL S 1 4) (zL S 1 3) r3 S4 h
  · rcases zite h with ⟨c5, h⟩ | ⟨c5, h⟩
    · refine z_tab C (1 : Int32) 44 81 c5 (by decide) (by decide) (by decide) (by decide) d_E_act_37 ?_
      refine z_aload_n C 4 rfl d_E_act_81 rfl ?_
      refine z_getF2 C 0 (by decide) 0 (by decide) rfl 1 0 rfl (1) rfl zp_0 zk_0 zfl_0_12 d_E_act_82 ?_
      refine z_iload_n C 6 rfl d_E_act_85 rfl ?_
      refine z_iload_n C 7 rfl d_E_act_86 rfl ?_
      obtain ⟨r7, S8, h6, h⟩ := zb2_some h
      refine z_cV C 5 (by decide) (m_Ps_turnGate l zk_1 (Nat.le_of_ble_eq_true rfl) h6) mf_Ps_turnGate lk_0_373 in_Ps_turnGate se_Ps_turnGate rfl zo_1 zk_1 ⟨rfl, rfl⟩ ⟨by decide, by decide⟩ ⟨Nat.zero_le _, Nat.zero_le _⟩ rfl _ [] rfl (Nat.le_of_ble_eq_true rfl) d_E_act_87 ?_
      refine z_istore C [(10, zi r7), (8, zl (zL S 1 3)), (6, zl (zL S 1 4)), (5, zi (zI S 1 6)), (4, zi (zI S 1 5)), (0, zr (some 0)), (1, zi a1), (2, zi a2), (3, zi a3)] d_E_act_90 (by decide) rfl ?_
      refine z_goto C 122 d_E_act_92 (by decide) ?_
      refine zq_lsub [5, 6, 4, 3, 2, 1, 0] [(0, zr (some 0)), (1, zi a1), (4, zi (zI S 1 5)), (5, zi (zI S 1 6)), (6, zl (zL S 1 4)), (8, zl (zL S 1 3)), (10, zi r7)] rfl ?_
      exact c_E_act_122 C hret  a1 (zI S 1 5) (zI S 1 6) (zL S 1 4) (zL S 1 3) r7 S8 h
    · rcases zite h with ⟨c9, h⟩ | ⟨c9, h⟩
      · refine z_tab C (2 : Int32) 58 95 c9 (by decide) (by decide) (by decide) (by decide) d_E_act_37 ?_
        refine z_aload_n C 4 rfl d_E_act_95 rfl ?_
        refine z_getF2 C 0 (by decide) 0 (by decide) rfl 1 0 rfl (1) rfl zp_0 zk_0 zfl_0_12 d_E_act_96 ?_
        refine z_iload_n C 6 rfl d_E_act_99 rfl ?_
        refine z_iload_n C 7 rfl d_E_act_100 rfl ?_
        obtain ⟨r11, S12, h10, h⟩ := zb2_some h
        refine z_cV C 5 (by decide) (m_Ps_muddy l zk_1 (Nat.le_of_ble_eq_true rfl) h10) mf_Ps_muddy lk_0_376 in_Ps_muddy se_Ps_muddy rfl zo_1 zk_1 ⟨rfl, rfl⟩ ⟨by decide, by decide⟩ ⟨Nat.zero_le _, Nat.zero_le _⟩ rfl _ [] rfl (Nat.le_of_ble_eq_true rfl) d_E_act_101 ?_
        refine z_istore C [(10, zi r11), (8, zl (zL S 1 3)), (6, zl (zL S 1 4)), (5, zi (zI S 1 6)), (4, zi (zI S 1 5)), (0, zr (some 0)), (1, zi a1), (2, zi a2), (3, zi a3)] d_E_act_104 (by decide) rfl ?_
        refine z_goto C 122 d_E_act_106 (by decide) ?_
        refine zq_lsub [5, 6, 4, 3, 2, 1, 0] [(0, zr (some 0)), (1, zi a1), (4, zi (zI S 1 5)), (5, zi (zI S 1 6)), (6, zl (zL S 1 4)), (8, zl (zL S 1 3)), (10, zi r11)] rfl ?_
        exact c_E_act_122 C hret  a1 (zI S 1 5) (zI S 1 6) (zL S 1 4) (zL S 1 3) r11 S12 h
      · refine z_tabO C (0) 3 (by decide) (fun j hj => by match j, hj with | 0, _ => exact c1 | 1, _ => exact c5 | 2, _ => exact c9 | j + 3, hj => omega) 109 (by decide) d_E_act_37 ?_
        refine z_aload_n C 4 rfl d_E_act_109 rfl ?_
        refine z_getF2 C 0 (by decide) 0 (by decide) rfl 1 0 rfl (1) rfl zp_0 zk_0 zfl_0_12 d_E_act_110 ?_
        refine z_aload_n C 4 rfl d_E_act_113 rfl ?_
        refine z_getF2 C 0 (by decide) 8 (by decide) rfl 52 0 rfl (52) rfl zp_0 zk_0 zfl_0_53 d_E_act_114 ?_
        obtain ⟨r14, S15, h13, h⟩ := zb2_some h
        refine z_cV C 5 (by decide) (m_Ps_nextDay l zk_1 (Nat.le_of_ble_eq_true rfl) h13) mf_Ps_nextDay lk_0_336 in_Ps_nextDay se_Ps_nextDay rfl zo_1 zk_1 ⟨rfl, rfl⟩ ⟨by decide, by decide⟩ ⟨Nat.zero_le _, Nat.zero_le _⟩ rfl _ [] rfl (Nat.le_of_ble_eq_true rfl) d_E_act_117 ?_
        refine z_istore C [(10, zi r14), (8, zl (zL S 1 3)), (6, zl (zL S 1 4)), (5, zi (zI S 1 6)), (4, zi (zI S 1 5)), (0, zr (some 0)), (1, zi a1), (2, zi a2), (3, zi a3)] d_E_act_120 (by decide) rfl ?_
        refine zq_lsub [5, 6, 4, 3, 2, 1, 0] [(0, zr (some 0)), (1, zi a1), (4, zi (zI S 1 5)), (5, zi (zI S 1 6)), (6, zl (zL S 1 4)), (8, zl (zL S 1 3)), (10, zi r14)] rfl ?_
        exact c_E_act_122 C hret  a1 (zI S 1 5) (zI S 1 6) (zL S 1 4) (zL S 1 3) r14 S15 h
def f_E_run_175 (fu : Nat) (a5 : Int32) (S : zSt) : Option (Int32 × zSt) := some ((-1 : Int32), zwI S 0 18 a5)
def f_E_run_168 (fu : Nat) (k16 : Int32 → Int32 → Int32 → zSt → Option (Int32 × zSt)) (k36 : Int32 → Int32 → Int32 → Int32 → Int32 → zSt → Option (Int32 × zSt)) (a2 : Int32) (a3 : Int32) (a5 : Int32) (a6 : Int32) (a7 : Int32) (k0 : Int32) (S : zSt) : Option (Int32 × zSt) := if 0 ≤ k0 then if a6 = 0 then k36 (a2 + (1 : Int32)) k0 a5 a6 (a7 + (1 : Int32)) S else k36 (a2 + (1 : Int32)) a3 a5 a6 (a7 + (1 : Int32)) S else f_E_run_175 fu a5 S
def f_E_run_76 (fu : Nat) (k16 : Int32 → Int32 → Int32 → zSt → Option (Int32 × zSt)) (k36 : Int32 → Int32 → Int32 → Int32 → Int32 → zSt → Option (Int32 × zSt)) (a2 : Int32) (a3 : Int32) (a5 : Int32) (a6 : Int32) (a7 : Int32) (S : zSt) : Option (Int32 × zSt) := zb1 (f_E_tellOrderWords fu a2 a3 S) (fun S2 => zb2 (f_Tx_value fu 47 69 a5 (2 : Int32) S2) (fun r4 S5 => if (lg_cmp r4 (1 : Int64)) = 0 then zb2 (f_Tx_value fu 47 69 a5 (0 : Int32) S5) (fun r8 S9 => zb2 (f_Tx_value fu 47 69 a5 (1 : Int32) S9) (fun r11 S12 => if (lg_cmp r8 (-9000000000000000000 : Int64)) = 0 then f_E_run_168 fu k16 k36 a2 a3 a5 a6 a7 (-3 : Int32) S12 else if (lg_cmp r11 (-9000000000000000000 : Int64)) = 0 then f_E_run_168 fu k16 k36 a2 a3 a5 a6 a7 (-3 : Int32) S12 else zb2 (f_E_act fu a6 r8.toInt32 r11.toInt32 S12) (fun r16 S17 => f_E_run_168 fu k16 k36 a2 a3 a5 a6 a7 r16 S17))) else k36 a2 a3 a5 a6 (a7 + (1 : Int32)) S5))
def f_E_run_36 (fu : Nat) (k16 : Int32 → Int32 → Int32 → zSt → Option (Int32 × zSt)) : Nat → Int32 → Int32 → Int32 → Int32 → Int32 → zSt → Option (Int32 × zSt)
  | 0, _, _, _, _, _, _ => none
  | n + 1, a2, a3, a5, a6, a7, S => zb1 (f_Tx_timesOf 47 a5 S) (fun r2 => if r2 ≤ a7 then k16 a2 a3 (a5 + (1 : Int32)) S else if (zI S 47 3) = 0 then f_E_run_76 fu k16 (f_E_run_36 fu k16 n) a2 a3 a5 a6 a7 S else zb1 (f_Ps_lawInForce 1 S) (fun r6 => zb1 (f_Pa_fill fu 1 r6 S) (fun S8 => f_E_run_76 fu k16 (f_E_run_36 fu k16 n) a2 a3 a5 a6 a7 S8)))
def f_E_run_16 (fu : Nat) : Nat → Int32 → Int32 → Int32 → zSt → Option (Int32 × zSt)
  | 0, _, _, _, _ => none
  | n + 1, a2, a3, a5, S => if (zI S 47 2) ≤ a5 then some (a2, S) else zb1 (f_Tx_kindOf 47 a5 S) (fun r3 => f_E_run_36 fu (f_E_run_16 fu n) fu a2 a3 a5 r3 (0 : Int32) S)
def f_E_run (fu : Nat) (S : zSt) : Option (Int32 × zSt) := f_E_run_16 fu fu (0 : Int32) (-1 : Int32) (0 : Int32) S
set_option maxRecDepth 100000 in
set_option maxHeartbeats 4000000 in
theorem c_E_run_175 {p : Program} {l : Launch} {e : Env} {s : State} {m : MethodId} {args : Array Value} {below : List Frame} {meth : Method} {c : Code} {G : zG} (C : zC p s m args meth c G b_E_run 13 y_E_run.cls) (hret : meth.sig.returnType = (some .int)) {fu : Nat} {r : Int32} {S1 : zSt} : ∀ (a5 : Int32) (S : zSt) , f_E_run_175 fu a5 S = some (r, S1) → zJ p l e rm_E_run s m args below meth c G true 13 0 0 (zQm below G args s rm_E_run true (some (zi r)) S1) S 175 [(0, zr (some 0)), (5, zi a5)] [] := by
  intro a5 S h
  unfold f_E_run_175 at h
  refine z_aload_n C 0 rfl d_E_run_175 rfl ?_
  refine z_iload C 1 rfl d_E_run_176 ?_
  refine z_putI C 0 (by decide) 18 (by decide) rfl (Or.inl rfl) zo_0 zk_0 zfl_0_103 (Or.inl rfl) d_E_run_178 ?_
  refine z_iconst C (-1 : Int32) (by decide) d_E_run_181 ?_
  cases h
  exact z_iret C .int hret rfl ⟨Nat.zero_le _, Nat.zero_le _⟩ d_E_run_182
set_option maxRecDepth 100000 in
set_option maxHeartbeats 4000000 in
theorem c_E_run_168 {p : Program} {l : Launch} {e : Env} {s : State} {m : MethodId} {args : Array Value} {below : List Frame} {meth : Method} {c : Code} {G : zG} (C : zC p s m args meth c G b_E_run 13 y_E_run.cls) (hret : meth.sig.returnType = (some .int)) {fu : Nat} {r : Int32} {S1 : zSt} {k16 : Int32 → Int32 → Int32 → zSt → Option (Int32 × zSt)} (hk16 : ∀ (a2 : Int32) (a3 : Int32) (a5 : Int32) (S : zSt) , k16 a2 a3 a5 S = some (r, S1) → zJ p l e rm_E_run s m args below meth c G true 13 0 0 (zQm below G args s rm_E_run true (some (zi r)) S1) S 16 [(0, zr (some 0)), (1, zr (some 47)), (2, zi a2), (3, zi a3), (4, zr (some 53)), (5, zi a5)] []) {k36 : Int32 → Int32 → Int32 → Int32 → Int32 → zSt → Option (Int32 × zSt)} (hk36 : ∀ (a2 : Int32) (a3 : Int32) (a5 : Int32) (a6 : Int32) (a7 : Int32) (S : zSt) , k36 a2 a3 a5 a6 a7 S = some (r, S1) → zJ p l e rm_E_run s m args below meth c G true 13 0 0 (zQm below G args s rm_E_run true (some (zi r)) S1) S 36 [(0, zr (some 0)), (1, zr (some 47)), (2, zi a2), (3, zi a3), (4, zr (some 53)), (5, zi a5), (6, zi a6), (7, zi a7)] []) : ∀ (a2 : Int32) (a3 : Int32) (a5 : Int32) (a6 : Int32) (a7 : Int32) (k0 : Int32) (S : zSt) , f_E_run_168 fu k16 k36 a2 a3 a5 a6 a7 k0 S = some (r, S1) → zJ p l e rm_E_run s m args below meth c G true 13 0 0 (zQm below G args s rm_E_run true (some (zi r)) S1) S 168 [(0, zr (some 0)), (1, zr (some 47)), (2, zi a2), (3, zi a3), (4, zr (some 53)), (5, zi a5), (6, zi a6), (7, zi a7)] [zi k0] := by
  intro a2 a3 a5 a6 a7 k0 S h
  unfold f_E_run_168 at h
  refine z_istore C [(12, zi k0), (0, zr (some 0)), (1, zr (some 47)), (2, zi a2), (3, zi a3), (4, zr (some 53)), (5, zi a5), (6, zi a6), (7, zi a7)] d_E_run_168 (by decide) rfl ?_
  refine z_iload C 0 rfl d_E_run_170 ?_
  rcases zite h with ⟨c1, h⟩ | ⟨c1, h⟩
  · refine z_if_get C 183 c1 d_E_run_172 (by decide) ?_
    refine z_iinc C 3 (a2 + (1 : Int32)) [(2, zi (a2 + (1 : Int32))), (12, zi k0), (0, zr (some 0)), (1, zr (some 47)), (3, zi a3), (4, zr (some 53)), (5, zi a5), (6, zi a6), (7, zi a7)] rfl d_E_run_183 (by first | rfl | decide) (by decide) rfl ?_
    refine z_iload C 7 rfl d_E_run_186 ?_
    rcases zite h with ⟨c2, h⟩ | ⟨c2, h⟩
    · refine z_if_nef C 194 c2 d_E_run_188 (by decide) ?_
      refine z_iload C 1 rfl d_E_run_191 ?_
      refine z_istore_n C [(3, zi k0), (2, zi (a2 + (1 : Int32))), (12, zi k0), (0, zr (some 0)), (1, zr (some 47)), (4, zr (some 53)), (5, zi a5), (6, zi a6), (7, zi a7)] d_E_run_193 rfl (by decide) rfl ?_
      refine z_iinc C 8 (a7 + (1 : Int32)) [(7, zi (a7 + (1 : Int32))), (3, zi k0), (2, zi (a2 + (1 : Int32))), (12, zi k0), (0, zr (some 0)), (1, zr (some 47)), (4, zr (some 53)), (5, zi a5), (6, zi a6)] rfl d_E_run_194 (by first | rfl | decide) (by decide) rfl ?_
      refine z_goto C 36 d_E_run_197 (by decide) ?_
      refine zq_lsub [4, 5, 2, 1, 6, 7, 8, 0] [(0, zr (some 0)), (1, zr (some 47)), (2, zi (a2 + (1 : Int32))), (3, zi k0), (4, zr (some 53)), (5, zi a5), (6, zi a6), (7, zi (a7 + (1 : Int32)))] rfl ?_
      exact hk36 (a2 + (1 : Int32)) k0 a5 a6 (a7 + (1 : Int32)) S h
    · refine z_if_net C 194 c2 d_E_run_188 (by decide) ?_
      refine z_iinc C 8 (a7 + (1 : Int32)) [(7, zi (a7 + (1 : Int32))), (2, zi (a2 + (1 : Int32))), (12, zi k0), (0, zr (some 0)), (1, zr (some 47)), (3, zi a3), (4, zr (some 53)), (5, zi a5), (6, zi a6)] rfl d_E_run_194 (by first | rfl | decide) (by decide) rfl ?_
      refine z_goto C 36 d_E_run_197 (by decide) ?_
      refine zq_lsub [3, 4, 1, 5, 6, 7, 8, 0] [(0, zr (some 0)), (1, zr (some 47)), (2, zi (a2 + (1 : Int32))), (3, zi a3), (4, zr (some 53)), (5, zi a5), (6, zi a6), (7, zi (a7 + (1 : Int32)))] rfl ?_
      exact hk36 (a2 + (1 : Int32)) a3 a5 a6 (a7 + (1 : Int32)) S h
  · refine z_if_gef C 183 c1 d_E_run_172 (by decide) ?_
    refine zq_lsub [1, 6] [(0, zr (some 0)), (5, zi a5)] rfl ?_
    exact c_E_run_175 C hret  a5 S h
set_option maxRecDepth 100000 in
set_option maxHeartbeats 4000000 in
theorem c_E_run_76 {p : Program} {l : Launch} {e : Env} {s : State} {m : MethodId} {args : Array Value} {below : List Frame} {meth : Method} {c : Code} {G : zG} (C : zC p s m args meth c G b_E_run 13 y_E_run.cls) (hret : meth.sig.returnType = (some .int)) {fu : Nat} {r : Int32} {S1 : zSt} {k16 : Int32 → Int32 → Int32 → zSt → Option (Int32 × zSt)} (hk16 : ∀ (a2 : Int32) (a3 : Int32) (a5 : Int32) (S : zSt) , k16 a2 a3 a5 S = some (r, S1) → zJ p l e rm_E_run s m args below meth c G true 13 0 0 (zQm below G args s rm_E_run true (some (zi r)) S1) S 16 [(0, zr (some 0)), (1, zr (some 47)), (2, zi a2), (3, zi a3), (4, zr (some 53)), (5, zi a5)] []) {k36 : Int32 → Int32 → Int32 → Int32 → Int32 → zSt → Option (Int32 × zSt)} (hk36 : ∀ (a2 : Int32) (a3 : Int32) (a5 : Int32) (a6 : Int32) (a7 : Int32) (S : zSt) , k36 a2 a3 a5 a6 a7 S = some (r, S1) → zJ p l e rm_E_run s m args below meth c G true 13 0 0 (zQm below G args s rm_E_run true (some (zi r)) S1) S 36 [(0, zr (some 0)), (1, zr (some 47)), (2, zi a2), (3, zi a3), (4, zr (some 53)), (5, zi a5), (6, zi a6), (7, zi a7)] []) : ∀ (a2 : Int32) (a3 : Int32) (a5 : Int32) (a6 : Int32) (a7 : Int32) (S : zSt) , f_E_run_76 fu k16 k36 a2 a3 a5 a6 a7 S = some (r, S1) → zJ p l e rm_E_run s m args below meth c G true 13 0 0 (zQm below G args s rm_E_run true (some (zi r)) S1) S 76 [(0, zr (some 0)), (1, zr (some 47)), (2, zi a2), (3, zi a3), (4, zr (some 53)), (5, zi a5), (6, zi a6), (7, zi a7)] [] := by
  intro a2 a3 a5 a6 a7 S h
  unfold f_E_run_76 at h
  refine z_aload_n C 0 rfl d_E_run_76 rfl ?_
  refine z_iload_n C 2 rfl d_E_run_77 rfl ?_
  refine z_iload_n C 3 rfl d_E_run_78 rfl ?_
  obtain ⟨S2, h1, h⟩ := zb1_some h
  refine z_cV C 0 (by decide) (m_E_tellOrderWords l h1) mf_E_tellOrderWords lk_0_398 in_E_tellOrderWords se_E_tellOrderWords rfl zo_0 zk_0 ⟨rfl, rfl⟩ ⟨by decide, by decide⟩ ⟨Nat.zero_le _, Nat.zero_le _⟩ rfl _ [] rfl (Nat.le_of_ble_eq_true rfl) d_E_run_79 ?_
  refine z_aload_n C 1 rfl d_E_run_82 rfl ?_
  refine z_iload C 5 rfl d_E_run_83 ?_
  refine z_iconst C (2 : Int32) (by decide) d_E_run_85 ?_
  refine z_aload_n C 0 rfl d_E_run_86 rfl ?_
  refine z_getF2 C 0 (by decide) 13 (by decide) rfl 69 23 rfl (69) rfl zp_0 zk_0 zfl_0_85 d_E_run_87 ?_
  refine z_aload C 4 rfl d_E_run_90 ?_
  refine z_fact (fun hSR => ?_)
  obtain ⟨r4, S5, h3, h⟩ := zb2_some h
  refine z_cV C 10 (by decide) (m_Tx_value l zk_47 zk_69 (Nat.le_of_ble_eq_true rfl) (Nat.lt_of_lt_of_le (Nat.le_of_ble_eq_true rfl) hSR.1) h3) mf_Tx_value lk_0_401 in_Tx_value se_Tx_value rfl zo_47 zk_47 ⟨rfl, rfl⟩ ⟨by decide, by decide⟩ ⟨Nat.zero_le _, Nat.zero_le _⟩ rfl _ [] rfl (Nat.le_of_ble_eq_true rfl) d_E_run_92 ?_
  refine z_lconst C (1 : Int64) (by decide) d_E_run_95 ?_
  refine z_lcmp C d_E_run_96 ?_
  rcases zite h with ⟨c6, h⟩ | ⟨c6, h⟩
  · refine z_if_eqt C 103 c6 d_E_run_97 (by decide) ?_
    refine z_aload_n C 1 rfl d_E_run_103 rfl ?_
    refine z_iload C 5 rfl d_E_run_104 ?_
    refine z_iconst C (0 : Int32) (by decide) d_E_run_106 ?_
    refine z_aload_n C 0 rfl d_E_run_107 rfl ?_
    refine z_getF2 C 0 (by decide) 13 (by decide) rfl 69 23 rfl (69) rfl zp_0 zk_0 zfl_0_85 d_E_run_108 ?_
    refine z_aload C 4 rfl d_E_run_111 ?_
    refine z_fact (fun hSR => ?_)
    obtain ⟨r8, S9, h7, h⟩ := zb2_some h
    refine z_cV C 10 (by decide) (m_Tx_value l zk_47 zk_69 (Nat.le_of_ble_eq_true rfl) (Nat.lt_of_lt_of_le (Nat.le_of_ble_eq_true rfl) hSR.1) h7) mf_Tx_value lk_0_401 in_Tx_value se_Tx_value rfl zo_47 zk_47 ⟨rfl, rfl⟩ ⟨by decide, by decide⟩ ⟨Nat.zero_le _, Nat.zero_le _⟩ rfl _ [] rfl (Nat.le_of_ble_eq_true rfl) d_E_run_113 ?_
    refine z_lstore C [(8, zl r8), (0, zr (some 0)), (1, zr (some 47)), (2, zi a2), (3, zi a3), (4, zr (some 53)), (5, zi a5), (6, zi a6), (7, zi a7)] d_E_run_116 (by decide) rfl ?_
    refine z_aload_n C 2 rfl d_E_run_118 rfl ?_
    refine z_iload C 6 rfl d_E_run_119 ?_
    refine z_iconst C (1 : Int32) (by decide) d_E_run_121 ?_
    refine z_aload_n C 1 rfl d_E_run_122 rfl ?_
    refine z_getF2 C 0 (by decide) 13 (by decide) rfl 69 23 rfl (69) rfl zp_0 zk_0 zfl_0_85 d_E_run_123 ?_
    refine z_aload C 5 rfl d_E_run_126 ?_
    refine z_fact (fun hSR => ?_)
    obtain ⟨r11, S12, h10, h⟩ := zb2_some h
    refine z_cV C 10 (by decide) (m_Tx_value l zk_47 zk_69 (Nat.le_of_ble_eq_true rfl) (Nat.lt_of_lt_of_le (Nat.le_of_ble_eq_true rfl) hSR.1) h10) mf_Tx_value lk_0_401 in_Tx_value se_Tx_value rfl zo_47 zk_47 ⟨rfl, rfl⟩ ⟨by decide, by decide⟩ ⟨Nat.zero_le _, Nat.zero_le _⟩ rfl _ [] rfl (Nat.le_of_ble_eq_true rfl) d_E_run_128 ?_
    refine z_lstore C [(10, zl r11), (8, zl r8), (0, zr (some 0)), (1, zr (some 47)), (2, zi a2), (3, zi a3), (4, zr (some 53)), (5, zi a5), (6, zi a6), (7, zi a7)] d_E_run_131 (by decide) rfl ?_
    refine z_lload C 1 rfl d_E_run_133 ?_
    refine z_ldc2 C zc_0_405 d_E_run_135 ?_
    refine z_lcmp C d_E_run_138 ?_
    rcases zite h with ⟨c13, h⟩ | ⟨c13, h⟩
    · refine z_if_eqt C 151 c13 d_E_run_139 (by decide) ?_
      refine z_bipush C (-3 : Int32) (by decide) d_E_run_151 ?_
      refine z_goto C 168 d_E_run_153 (by decide) ?_
      refine zq_lsub [2, 3, 4, 5, 6, 7, 8, 9] [(0, zr (some 0)), (1, zr (some 47)), (2, zi a2), (3, zi a3), (4, zr (some 53)), (5, zi a5), (6, zi a6), (7, zi a7)] rfl ?_
      exact c_E_run_168 C hret hk16 hk36  a2 a3 a5 a6 a7 (-3 : Int32) S12 h
    · refine z_if_eqf C 151 c13 d_E_run_139 (by decide) ?_
      refine z_lload C 0 rfl d_E_run_142 ?_
      refine z_ldc2 C zc_0_405 d_E_run_144 ?_
      refine z_lcmp C d_E_run_147 ?_
      rcases zite h with ⟨c14, h⟩ | ⟨c14, h⟩
      · refine z_if_nef C 156 c14 d_E_run_148 (by decide) ?_
        refine z_bipush C (-3 : Int32) (by decide) d_E_run_151 ?_
        refine z_goto C 168 d_E_run_153 (by decide) ?_
        refine zq_lsub [2, 3, 4, 5, 6, 7, 8, 9] [(0, zr (some 0)), (1, zr (some 47)), (2, zi a2), (3, zi a3), (4, zr (some 53)), (5, zi a5), (6, zi a6), (7, zi a7)] rfl ?_
        exact c_E_run_168 C hret hk16 hk36  a2 a3 a5 a6 a7 (-3 : Int32) S12 h
      · refine z_if_net C 156 c14 d_E_run_148 (by decide) ?_
        refine z_aload_n C 2 rfl d_E_run_156 rfl ?_
        refine z_iload C 8 rfl d_E_run_157 ?_
        refine z_lload C 1 rfl d_E_run_159 ?_
        refine z_l2i C d_E_run_161 ?_
        refine z_lload C 0 rfl d_E_run_162 ?_
        refine z_l2i C d_E_run_164 ?_
        obtain ⟨r16, S17, h15, h⟩ := zb2_some h
        refine z_cV C 0 (by decide) (m_E_act l h15) mf_E_act lk_0_216 in_E_act se_E_act rfl zo_0 zk_0 ⟨rfl, rfl⟩ ⟨by decide, by decide⟩ ⟨Nat.zero_le _, Nat.zero_le _⟩ rfl _ [] rfl (Nat.le_of_ble_eq_true rfl) d_E_run_165 ?_
        refine zq_lsub [2, 3, 4, 5, 6, 7, 8, 9] [(0, zr (some 0)), (1, zr (some 47)), (2, zi a2), (3, zi a3), (4, zr (some 53)), (5, zi a5), (6, zi a6), (7, zi a7)] rfl ?_
        exact c_E_run_168 C hret hk16 hk36  a2 a3 a5 a6 a7 r16 S17 h
  · refine z_if_eqf C 103 c6 d_E_run_97 (by decide) ?_
    refine z_goto C 194 d_E_run_100 (by decide) ?_
    refine z_iinc C 7 (a7 + (1 : Int32)) [(7, zi (a7 + (1 : Int32))), (0, zr (some 0)), (1, zr (some 47)), (2, zi a2), (3, zi a3), (4, zr (some 53)), (5, zi a5), (6, zi a6)] rfl d_E_run_194 (by first | rfl | decide) (by decide) rfl ?_
    refine z_goto C 36 d_E_run_197 (by decide) ?_
    refine zq_lsub [1, 2, 3, 4, 5, 6, 7, 0] [(0, zr (some 0)), (1, zr (some 47)), (2, zi a2), (3, zi a3), (4, zr (some 53)), (5, zi a5), (6, zi a6), (7, zi (a7 + (1 : Int32)))] rfl ?_
    exact hk36 a2 a3 a5 a6 (a7 + (1 : Int32)) S5 h
set_option maxRecDepth 100000 in
set_option maxHeartbeats 4000000 in
theorem c_E_run_36 {p : Program} {l : Launch} {e : Env} {s : State} {m : MethodId} {args : Array Value} {below : List Frame} {meth : Method} {c : Code} {G : zG} (C : zC p s m args meth c G b_E_run 13 y_E_run.cls) (hret : meth.sig.returnType = (some .int)) {fu : Nat} {r : Int32} {S1 : zSt} {k16 : Int32 → Int32 → Int32 → zSt → Option (Int32 × zSt)} (hk16 : ∀ (a2 : Int32) (a3 : Int32) (a5 : Int32) (S : zSt) , k16 a2 a3 a5 S = some (r, S1) → zJ p l e rm_E_run s m args below meth c G true 13 0 0 (zQm below G args s rm_E_run true (some (zi r)) S1) S 16 [(0, zr (some 0)), (1, zr (some 47)), (2, zi a2), (3, zi a3), (4, zr (some 53)), (5, zi a5)] []) : ∀ (n : Nat) (a2 : Int32) (a3 : Int32) (a5 : Int32) (a6 : Int32) (a7 : Int32) (S : zSt) , f_E_run_36 fu k16 n a2 a3 a5 a6 a7 S = some (r, S1) → zJ p l e rm_E_run s m args below meth c G true 13 0 0 (zQm below G args s rm_E_run true (some (zi r)) S1) S 36 [(0, zr (some 0)), (1, zr (some 47)), (2, zi a2), (3, zi a3), (4, zr (some 53)), (5, zi a5), (6, zi a6), (7, zi a7)] [] := by
  intro n
  induction n with
  | zero =>
    intro a2 a3 a5 a6 a7 S h
    cases h
  | succ n ih =>
    intro a2 a3 a5 a6 a7 S h
    rw [f_E_run_36] at h
    refine z_iload C 7 rfl d_E_run_36 ?_
    refine z_aload_n C 1 rfl d_E_run_38 rfl ?_
    refine z_iload C 5 rfl d_E_run_39 ?_
    refine z_fact (fun hSR => ?_)
    obtain ⟨r2, h1, h⟩ := zb1_some h
    refine z_cV C 10 (by decide) (m_Tx_timesOf l zk_47 (Nat.lt_of_lt_of_le (Nat.le_of_ble_eq_true rfl) hSR.1) h1) mf_Tx_timesOf lk_0_392 in_Tx_timesOf se_Tx_timesOf rfl zo_47 zk_47 ⟨rfl, rfl⟩ ⟨by decide, by decide⟩ ⟨Nat.zero_le _, Nat.zero_le _⟩ rfl _ [zi a7] rfl (Nat.le_of_ble_eq_true rfl) d_E_run_41 ?_
    rcases zite h with ⟨c3, h⟩ | ⟨c3, h⟩
    · refine z_icmp_get C 200 c3 d_E_run_44 (by decide) ?_
      refine z_iinc C 5 (a5 + (1 : Int32)) [(5, zi (a5 + (1 : Int32))), (0, zr (some 0)), (1, zr (some 47)), (2, zi a2), (3, zi a3), (4, zr (some 53)), (6, zi a6), (7, zi a7)] rfl d_E_run_200 (by first | rfl | decide) (by decide) rfl ?_
      refine z_goto C 16 d_E_run_203 (by decide) ?_
      refine zq_lsub [1, 2, 3, 4, 5, 0] [(0, zr (some 0)), (1, zr (some 47)), (2, zi a2), (3, zi a3), (4, zr (some 53)), (5, zi (a5 + (1 : Int32)))] rfl ?_
      exact hk16 a2 a3 (a5 + (1 : Int32)) S h
    · refine z_icmp_gef C 200 c3 d_E_run_44 (by decide) ?_
      refine z_aload_n C 1 rfl d_E_run_47 rfl ?_
      refine z_getI C 10 (by decide) 3 (by decide) rfl zo_47 zk_47 zfl_0_395 d_E_run_48 ?_
      rcases zite h with ⟨c4, h⟩ | ⟨c4, h⟩
      · refine z_if_eqt C 76 c4 d_E_run_51 (by decide) ?_
        refine zq_lsub [0, 1, 2, 3, 4, 5, 6, 7] [(0, zr (some 0)), (1, zr (some 47)), (2, zi a2), (3, zi a3), (4, zr (some 53)), (5, zi a5), (6, zi a6), (7, zi a7)] rfl ?_
        exact c_E_run_76 C hret hk16 (fun z0 z1 z2 z3 z4 zS zh => ih z0 z1 z2 z3 z4 zS zh)  a2 a3 a5 a6 a7 S h
      · refine z_if_eqf C 76 c4 d_E_run_51 (by decide) ?_
        refine z_aload_n C 0 rfl d_E_run_54 rfl ?_
        refine z_getF2 C 0 (by decide) 9 (by decide) rfl 55 0 rfl (55) rfl zp_0 zk_0 zfl_0_60 d_E_run_55 ?_
        refine z_aload_n C 0 rfl d_E_run_58 rfl ?_
        refine z_getF2 C 0 (by decide) 0 (by decide) rfl 1 0 rfl (1) rfl zp_0 zk_0 zfl_0_12 d_E_run_59 ?_
        refine z_aload_n C 0 rfl d_E_run_62 rfl ?_
        refine z_getF2 C 0 (by decide) 0 (by decide) rfl 1 0 rfl (1) rfl zp_0 zk_0 zfl_0_12 d_E_run_63 ?_
        obtain ⟨r6, h5, h⟩ := zb1_some h
        refine z_cV C 5 (by decide) (m_Ps_lawInForce l zk_1 (Nat.le_of_ble_eq_true rfl) h5) mf_Ps_lawInForce lk_0_140 in_Ps_lawInForce se_Ps_lawInForce rfl zo_1 zk_1 ⟨rfl, rfl⟩ ⟨by decide, by decide⟩ ⟨Nat.zero_le _, Nat.zero_le _⟩ rfl _ [zr (some 1), zr (some 55)] rfl (Nat.le_of_ble_eq_true rfl) d_E_run_66 ?_
        refine z_aload_n C 0 rfl d_E_run_69 rfl ?_
        refine z_getF2 C 0 (by decide) 8 (by decide) rfl 52 0 rfl (52) rfl zp_0 zk_0 zfl_0_53 d_E_run_70 ?_
        obtain ⟨S8, h7, h⟩ := zb1_some h
        refine z_cV C 4 (by decide) (m_Pa_fill l zk_1 (Nat.le_of_ble_eq_true rfl) h7) mf_Pa_fill lk_0_322 in_Pa_fill se_Pa_fill rfl zo_55 zk_55 ⟨rfl, rfl⟩ ⟨by decide, by decide⟩ ⟨Nat.zero_le _, Nat.zero_le _⟩ rfl _ [] rfl (Nat.le_of_ble_eq_true rfl) d_E_run_73 ?_
        refine zq_lsub [0, 1, 2, 3, 4, 5, 6, 7] [(0, zr (some 0)), (1, zr (some 47)), (2, zi a2), (3, zi a3), (4, zr (some 53)), (5, zi a5), (6, zi a6), (7, zi a7)] rfl ?_
        exact c_E_run_76 C hret hk16 (fun z0 z1 z2 z3 z4 zS zh => ih z0 z1 z2 z3 z4 zS zh)  a2 a3 a5 a6 a7 S8 h
set_option maxRecDepth 100000 in
set_option maxHeartbeats 4000000 in
theorem c_E_run_16 {p : Program} {l : Launch} {e : Env} {s : State} {m : MethodId} {args : Array Value} {below : List Frame} {meth : Method} {c : Code} {G : zG} (C : zC p s m args meth c G b_E_run 13 y_E_run.cls) (hret : meth.sig.returnType = (some .int)) {fu : Nat} {r : Int32} {S1 : zSt} : ∀ (n : Nat) (a2 : Int32) (a3 : Int32) (a5 : Int32) (S : zSt) , f_E_run_16 fu n a2 a3 a5 S = some (r, S1) → zJ p l e rm_E_run s m args below meth c G true 13 0 0 (zQm below G args s rm_E_run true (some (zi r)) S1) S 16 [(0, zr (some 0)), (1, zr (some 47)), (2, zi a2), (3, zi a3), (4, zr (some 53)), (5, zi a5)] [] := by
  intro n
  induction n with
  | zero =>
    intro a2 a3 a5 S h
    cases h
  | succ n ih =>
    intro a2 a3 a5 S h
    rw [f_E_run_16] at h
    refine z_iload C 5 rfl d_E_run_16 ?_
    refine z_aload_n C 1 rfl d_E_run_18 rfl ?_
    refine z_getI C 10 (by decide) 2 (by decide) rfl zo_47 zk_47 zfl_0_386 d_E_run_19 ?_
    rcases zite h with ⟨c1, h⟩ | ⟨c1, h⟩
    · refine z_icmp_get C 206 c1 d_E_run_22 (by decide) ?_
      refine z_iload_n C 2 rfl d_E_run_206 rfl ?_
      cases h
      exact z_iret C .int hret rfl ⟨Nat.zero_le _, Nat.zero_le _⟩ d_E_run_207
    · refine z_icmp_gef C 206 c1 d_E_run_22 (by decide) ?_
      refine z_aload_n C 1 rfl d_E_run_25 rfl ?_
      refine z_iload C 5 rfl d_E_run_26 ?_
      refine z_fact (fun hSR => ?_)
      obtain ⟨r3, h2, h⟩ := zb1_some h
      refine z_cV C 10 (by decide) (m_Tx_kindOf l zk_47 (Nat.lt_of_lt_of_le (Nat.le_of_ble_eq_true rfl) hSR.1) h2) mf_Tx_kindOf lk_0_389 in_Tx_kindOf se_Tx_kindOf rfl zo_47 zk_47 ⟨rfl, rfl⟩ ⟨by decide, by decide⟩ ⟨Nat.zero_le _, Nat.zero_le _⟩ rfl _ [] rfl (Nat.le_of_ble_eq_true rfl) d_E_run_28 ?_
      refine z_istore C [(6, zi r3), (0, zr (some 0)), (1, zr (some 47)), (2, zi a2), (3, zi a3), (4, zr (some 53)), (5, zi a5)] d_E_run_31 (by decide) rfl ?_
      refine z_iconst C (0 : Int32) (by decide) d_E_run_33 ?_
      refine z_istore C [(7, zi (0 : Int32)), (6, zi r3), (0, zr (some 0)), (1, zr (some 47)), (2, zi a2), (3, zi a3), (4, zr (some 53)), (5, zi a5)] d_E_run_34 (by decide) rfl ?_
      refine zq_lsub [2, 3, 4, 5, 6, 7, 1, 0] [(0, zr (some 0)), (1, zr (some 47)), (2, zi a2), (3, zi a3), (4, zr (some 53)), (5, zi a5), (6, zi r3), (7, zi (0 : Int32))] rfl ?_
      exact c_E_run_36 C hret (fun z0 z1 z2 zS zh => ih z0 z1 z2 zS zh) fu  a2 a3 a5 r3 (0 : Int32) S h
set_option maxRecDepth 100000 in
set_option maxHeartbeats 4000000 in
theorem m_E_run (l : Launch) {fu : Nat} {S : zSt} {r : Int32} {S1 : zSt} (h : f_E_run fu  S = some (r, S1)) : zPM l y_E_run b_E_run 13 (some .int) rm_E_run true true [zr (some 0), zr (some 47)] S (some (zi r)) S1 := by
  refine zPM_of (by decide) (Nat.le_of_ble_eq_true rfl) (fun p e s m args below meth c G C hret hname => ?_)
  unfold f_E_run at h
  refine (?_ : zJ p l e rm_E_run s m args below meth c G true 13 0 0 (zQm below G args s rm_E_run true (some (zi r)) S1) S 0 [(0, zr (some 0)), (1, zr (some 47))] [])
  refine z_iconst C (0 : Int32) (by decide) d_E_run_0 ?_
  refine z_istore_n C [(2, zi (0 : Int32)), (0, zr (some 0)), (1, zr (some 47))] d_E_run_1 rfl (by decide) rfl ?_
  refine z_iconst C (-1 : Int32) (by decide) d_E_run_2 ?_
  refine z_istore_n C [(3, zi (-1 : Int32)), (2, zi (0 : Int32)), (0, zr (some 0)), (1, zr (some 47))] d_E_run_3 rfl (by decide) rfl ?_
  refine z_aload_n C 2 rfl d_E_run_4 rfl ?_
  refine z_getF2 C 0 (by decide) 8 (by decide) rfl 52 0 rfl (52) rfl zp_0 zk_0 zfl_0_53 d_E_run_5 ?_
  refine z_getF2 C 1 (by decide) 0 (by decide) rfl 1 50 rfl (53) rfl zp_52 zk_52 zfl_0_383 d_E_run_8 ?_
  refine z_astore C [(4, zr (some 53)), (3, zi (-1 : Int32)), (2, zi (0 : Int32)), (0, zr (some 0)), (1, zr (some 47))] d_E_run_11 (by decide) rfl ?_
  refine z_iconst C (0 : Int32) (by decide) d_E_run_13 ?_
  refine z_istore C [(5, zi (0 : Int32)), (4, zr (some 53)), (3, zi (-1 : Int32)), (2, zi (0 : Int32)), (0, zr (some 0)), (1, zr (some 47))] d_E_run_14 (by decide) rfl ?_
  refine zq_lsub [4, 5, 3, 2, 1, 0] [(0, zr (some 0)), (1, zr (some 47)), (2, zi (0 : Int32)), (3, zi (-1 : Int32)), (4, zr (some 53)), (5, zi (0 : Int32))] rfl ?_
  exact c_E_run_16 C hret fu  (0 : Int32) (-1 : Int32) (0 : Int32) S h
def f_E_orders (fu : Nat) (S : zSt) : Option (Int32 × zSt) := zb2 (f_Re_faultIn fu (1 : Int32) (zwI S 0 18 (-1 : Int32))) (fun r2 S3 => if (zI (zwI (zwI S3 0 17 r2) 44 1 (0 : Int32)) 0 17) = (-1 : Int32) then zb1 (f_Ps_copyFrom fu 7 1 (zwI (zwI S3 0 17 r2) 44 1 (0 : Int32))) (fun S6 => zb1 (f_Jo_copyFrom 38 32 S6) (fun S8 => zb2 (f_E_run fu S8) (fun r10 S11 => if r10 = (-1 : Int32) then zb1 (f_Ps_copyFrom fu 1 7 S11) (fun S17 => zb1 (f_Jo_copyFrom 32 38 S17) (fun S19 => zb2 (f_E_refused (-3 : Int32) S19) (fun r21 S22 => some (r21, S22)))) else zb2 (f_E_granted r10 S11) (fun r14 S15 => some (r14, S15))))) else zb2 (f_E_refused (-6 : Int32) (zwI (zwI S3 0 17 r2) 44 1 (0 : Int32))) (fun r24 S25 => some (r24, S25)))
set_option maxRecDepth 100000 in
set_option maxHeartbeats 4000000 in
theorem m_E_orders (l : Launch) {fu : Nat} {S : zSt} {r : Int32} {S1 : zSt} (h : f_E_orders fu  S = some (r, S1)) : zPM l y_E_orders b_E_orders 2 (some .int) rm_E_orders true true [zr (some 0)] S (some (zi r)) S1 := by
  refine zPM_of (by decide) (Nat.le_of_ble_eq_true rfl) (fun p e s m args below meth c G C hret hname => ?_)
  unfold f_E_orders at h
  refine (?_ : zJ p l e rm_E_orders s m args below meth c G true 2 0 0 (zQm below G args s rm_E_orders true (some (zi r)) S1) S 0 [(0, zr (some 0))] [])
  refine z_aload_n C 0 rfl d_E_orders_0 rfl ?_
  refine z_iconst C (-1 : Int32) (by decide) d_E_orders_1 ?_
  refine z_putI C 0 (by decide) 18 (by decide) rfl (Or.inl rfl) zo_0 zk_0 zfl_0_103 (Or.inl rfl) d_E_orders_2 ?_
  refine z_aload_n C 0 rfl d_E_orders_5 rfl ?_
  refine z_aload_n C 0 rfl d_E_orders_6 rfl ?_
  refine z_getF2 C 0 (by decide) 7 (by decide) rfl 46 0 rfl (46) rfl zp_0 zk_0 zfl_0_46 d_E_orders_7 ?_
  refine z_aload_n C 0 rfl d_E_orders_10 rfl ?_
  refine z_getF2 C 0 (by decide) 6 (by decide) rfl 44 0 rfl (44) rfl zp_0 zk_0 zfl_0_39 d_E_orders_11 ?_
  refine z_iconst C (1 : Int32) (by decide) d_E_orders_14 ?_
  obtain ⟨r2, S3, h1, h⟩ := zb2_some h
  refine z_cV C 6 (by decide) (m_Re_faultIn l h1) mf_Re_faultIn lk_0_183 in_Re_faultIn se_Re_faultIn rfl zo_46 zk_46 ⟨rfl, rfl⟩ ⟨by decide, by decide⟩ ⟨Nat.zero_le _, Nat.zero_le _⟩ rfl _ [zr (some 0)] rfl (Nat.le_of_ble_eq_true rfl) d_E_orders_15 ?_
  refine z_putI C 0 (by decide) 17 (by decide) rfl (Or.inl rfl) zo_0 zk_0 zfl_0_100 (Or.inl rfl) d_E_orders_18 ?_
  refine z_aload_n C 0 rfl d_E_orders_21 rfl ?_
  refine z_getF2 C 0 (by decide) 6 (by decide) rfl 44 0 rfl (44) rfl zp_0 zk_0 zfl_0_39 d_E_orders_22 ?_
  refine z_iconst C (0 : Int32) (by decide) d_E_orders_25 ?_
  refine z_putI C 9 (by decide) 1 (by decide) rfl (Or.inl rfl) zo_44 zk_44 zfl_0_170 (Or.inl rfl) d_E_orders_26 ?_
  refine z_aload_n C 0 rfl d_E_orders_29 rfl ?_
  refine z_getI C 0 (by decide) 17 (by decide) rfl zo_0 zk_0 zfl_0_100 d_E_orders_30 ?_
  refine z_iconst C (-1 : Int32) (by decide) d_E_orders_33 ?_
  rcases zite h with ⟨c4, h⟩ | ⟨c4, h⟩
  · refine z_icmp_eqt C 44 c4 d_E_orders_34 (by decide) ?_
    refine z_aload_n C 0 rfl d_E_orders_44 rfl ?_
    refine z_getF2 C 0 (by decide) 1 (by decide) rfl 7 0 rfl (7) rfl zp_0 zk_0 zfl_0_16 d_E_orders_45 ?_
    refine z_aload_n C 0 rfl d_E_orders_48 rfl ?_
    refine z_getF2 C 0 (by decide) 0 (by decide) rfl 1 0 rfl (1) rfl zp_0 zk_0 zfl_0_12 d_E_orders_49 ?_
    obtain ⟨S6, h5, h⟩ := zb1_some h
    refine z_cV C 5 (by decide) (m_Ps_copyFrom l zk_7 (Nat.le_of_ble_eq_true rfl) zk_1 (Nat.le_of_ble_eq_true rfl) h5) mf_Ps_copyFrom lk_0_200 in_Ps_copyFrom se_Ps_copyFrom rfl zo_7 zk_7 ⟨rfl, rfl⟩ ⟨by decide, by decide⟩ ⟨Nat.zero_le _, Nat.zero_le _⟩ rfl _ [] rfl (Nat.le_of_ble_eq_true rfl) d_E_orders_52 ?_
    refine z_aload_n C 0 rfl d_E_orders_55 rfl ?_
    refine z_getF2 C 0 (by decide) 5 (by decide) rfl 38 0 rfl (38) rfl zp_0 zk_0 zfl_0_33 d_E_orders_56 ?_
    refine z_aload_n C 0 rfl d_E_orders_59 rfl ?_
    refine z_getF2 C 0 (by decide) 4 (by decide) rfl 32 0 rfl (32) rfl zp_0 zk_0 zfl_0_29 d_E_orders_60 ?_
    obtain ⟨S8, h7, h⟩ := zb1_some h
    refine z_cV C 2 (by decide) (m_Jo_copyFrom l zk_38 (Nat.le_of_ble_eq_true rfl) zk_32 (Nat.le_of_ble_eq_true rfl) h7) mf_Jo_copyFrom lk_0_204 in_Jo_copyFrom se_Jo_copyFrom rfl zo_38 zk_38 ⟨rfl, rfl⟩ ⟨by decide, by decide⟩ ⟨Nat.zero_le _, Nat.zero_le _⟩ rfl _ [] rfl (Nat.le_of_ble_eq_true rfl) d_E_orders_63 ?_
    refine z_aload_n C 0 rfl d_E_orders_66 rfl ?_
    refine z_aload_n C 0 rfl d_E_orders_67 rfl ?_
    refine z_getF2 C 0 (by decide) 7 (by decide) rfl 46 0 rfl (46) rfl zp_0 zk_0 zfl_0_46 d_E_orders_68 ?_
    refine z_getF2 C 6 (by decide) 0 (by decide) rfl 1 0 rfl (47) rfl zp_46 zk_46 zfl_0_187 d_E_orders_71 ?_
    obtain ⟨r10, S11, h9, h⟩ := zb2_some h
    refine z_cV C 0 (by decide) (m_E_run l h9) mf_E_run lk_0_207 in_E_run se_E_run rfl zo_0 zk_0 ⟨rfl, rfl⟩ ⟨by decide, by decide⟩ ⟨Nat.zero_le _, Nat.zero_le _⟩ rfl _ [] rfl (Nat.le_of_ble_eq_true rfl) d_E_orders_74 ?_
    refine z_istore_n C [(1, zi r10), (0, zr (some 0))] d_E_orders_77 rfl (by decide) rfl ?_
    refine z_iload_n C 0 rfl d_E_orders_78 rfl ?_
    refine z_iconst C (-1 : Int32) (by decide) d_E_orders_79 ?_
    rcases zite h with ⟨c12, h⟩ | ⟨c12, h⟩
    · refine z_icmp_nef C 112 c12 d_E_orders_80 (by decide) ?_
      refine z_aload_n C 1 rfl d_E_orders_83 rfl ?_
      refine z_getF2 C 0 (by decide) 0 (by decide) rfl 1 0 rfl (1) rfl zp_0 zk_0 zfl_0_12 d_E_orders_84 ?_
      refine z_aload_n C 1 rfl d_E_orders_87 rfl ?_
      refine z_getF2 C 0 (by decide) 1 (by decide) rfl 7 0 rfl (7) rfl zp_0 zk_0 zfl_0_16 d_E_orders_88 ?_
      obtain ⟨S17, h16, h⟩ := zb1_some h
      refine z_cV C 5 (by decide) (m_Ps_copyFrom l zk_1 (Nat.le_of_ble_eq_true rfl) zk_7 (Nat.le_of_ble_eq_true rfl) h16) mf_Ps_copyFrom lk_0_200 in_Ps_copyFrom se_Ps_copyFrom rfl zo_1 zk_1 ⟨rfl, rfl⟩ ⟨by decide, by decide⟩ ⟨Nat.zero_le _, Nat.zero_le _⟩ rfl _ [] rfl (Nat.le_of_ble_eq_true rfl) d_E_orders_91 ?_
      refine z_aload_n C 1 rfl d_E_orders_94 rfl ?_
      refine z_getF2 C 0 (by decide) 4 (by decide) rfl 32 0 rfl (32) rfl zp_0 zk_0 zfl_0_29 d_E_orders_95 ?_
      refine z_aload_n C 1 rfl d_E_orders_98 rfl ?_
      refine z_getF2 C 0 (by decide) 5 (by decide) rfl 38 0 rfl (38) rfl zp_0 zk_0 zfl_0_33 d_E_orders_99 ?_
      obtain ⟨S19, h18, h⟩ := zb1_some h
      refine z_cV C 2 (by decide) (m_Jo_copyFrom l zk_32 (Nat.le_of_ble_eq_true rfl) zk_38 (Nat.le_of_ble_eq_true rfl) h18) mf_Jo_copyFrom lk_0_204 in_Jo_copyFrom se_Jo_copyFrom rfl zo_32 zk_32 ⟨rfl, rfl⟩ ⟨by decide, by decide⟩ ⟨Nat.zero_le _, Nat.zero_le _⟩ rfl _ [] rfl (Nat.le_of_ble_eq_true rfl) d_E_orders_102 ?_
      refine z_aload_n C 1 rfl d_E_orders_105 rfl ?_
      refine z_bipush C (-3 : Int32) (by decide) d_E_orders_106 ?_
      obtain ⟨r21, S22, h20, h⟩ := zb2_some h
      refine z_cV C 0 (by decide) (m_E_refused l h20) mf_E_refused lk_0_109 in_E_refused se_E_refused rfl zo_0 zk_0 ⟨rfl, rfl⟩ ⟨by decide, by decide⟩ ⟨Nat.zero_le _, Nat.zero_le _⟩ rfl _ [] rfl (Nat.le_of_ble_eq_true rfl) d_E_orders_108 ?_
      cases h
      exact z_iret C .int hret rfl ⟨Nat.zero_le _, Nat.zero_le _⟩ d_E_orders_111
    · refine z_icmp_net C 112 c12 d_E_orders_80 (by decide) ?_
      refine z_aload_n C 1 rfl d_E_orders_112 rfl ?_
      refine z_iload_n C 0 rfl d_E_orders_113 rfl ?_
      obtain ⟨r14, S15, h13, h⟩ := zb2_some h
      refine z_cV C 0 (by decide) (m_E_granted l h13) mf_E_granted lk_0_123 in_E_granted se_E_granted rfl zo_0 zk_0 ⟨rfl, rfl⟩ ⟨by decide, by decide⟩ ⟨Nat.zero_le _, Nat.zero_le _⟩ rfl _ [] rfl (Nat.le_of_ble_eq_true rfl) d_E_orders_114 ?_
      cases h
      exact z_iret C .int hret rfl ⟨Nat.zero_le _, Nat.zero_le _⟩ d_E_orders_117
  · refine z_icmp_eqf C 44 c4 d_E_orders_34 (by decide) ?_
    refine z_aload_n C 0 rfl d_E_orders_37 rfl ?_
    refine z_bipush C (-6 : Int32) (by decide) d_E_orders_38 ?_
    obtain ⟨r24, S25, h23, h⟩ := zb2_some h
    refine z_cV C 0 (by decide) (m_E_refused l h23) mf_E_refused lk_0_109 in_E_refused se_E_refused rfl zo_0 zk_0 ⟨rfl, rfl⟩ ⟨by decide, by decide⟩ ⟨Nat.zero_le _, Nat.zero_le _⟩ rfl _ [] rfl (Nat.le_of_ble_eq_true rfl) d_E_orders_40 ?_
    cases h
    exact z_iret C .int hret rfl ⟨Nat.zero_le _, Nat.zero_le _⟩ d_E_orders_43
def f_E_fault (S : zSt) : Option Int32 := some (zI S 0 17)
set_option maxRecDepth 100000 in
set_option maxHeartbeats 4000000 in
theorem m_E_fault (l : Launch) {S : zSt} {r : Int32} (h : f_E_fault  S = some r) : zPM l y_E_fault b_E_fault 1 (some .int) rm_E_fault true true [zr (some 0)] S (some (zi r)) S := by
  refine zPM_of (by decide) (Nat.le_of_ble_eq_true rfl) (fun p e s m args below meth c G C hret hname => ?_)
  unfold f_E_fault at h
  refine (?_ : zJ p l e rm_E_fault s m args below meth c G true 1 0 0 (zQm below G args s rm_E_fault true (some (zi r)) S) S 0 [(0, zr (some 0))] [])
  refine z_aload_n C 0 rfl d_E_fault_0 rfl ?_
  refine z_getI C 0 (by decide) 17 (by decide) rfl zo_0 zk_0 zfl_0_100 d_E_fault_1 ?_
  cases h
  exact z_iret C .int hret rfl ⟨Nat.zero_le _, Nat.zero_le _⟩ d_E_fault_4
def f_E_stopped (S : zSt) : Option Int32 := some (zI S 0 18)
set_option maxRecDepth 100000 in
set_option maxHeartbeats 4000000 in
theorem m_E_stopped (l : Launch) {S : zSt} {r : Int32} (h : f_E_stopped  S = some r) : zPM l y_E_stopped b_E_stopped 1 (some .int) rm_E_stopped true true [zr (some 0)] S (some (zi r)) S := by
  refine zPM_of (by decide) (Nat.le_of_ble_eq_true rfl) (fun p e s m args below meth c G C hret hname => ?_)
  unfold f_E_stopped at h
  refine (?_ : zJ p l e rm_E_stopped s m args below meth c G true 1 0 0 (zQm below G args s rm_E_stopped true (some (zi r)) S) S 0 [(0, zr (some 0))] [])
  refine z_aload_n C 0 rfl d_E_stopped_0 rfl ?_
  refine z_getI C 0 (by decide) 18 (by decide) rfl zo_0 zk_0 zfl_0_103 d_E_stopped_1 ?_
  cases h
  exact z_iret C .int hret rfl ⟨Nat.zero_le _, Nat.zero_le _⟩ d_E_stopped_4
def f_Ps_hasLaw (a0 : Nat) (a1 : Int32) (S : zSt) : Option Int32 := if a1 < 0 then some (0 : Int32) else if (zI S a0 12) ≤ a1 then some (0 : Int32) else some (1 : Int32)
set_option maxRecDepth 100000 in
set_option maxHeartbeats 4000000 in
theorem m_Ps_hasLaw (l : Launch) {a0 : Nat} {a1 : Int32} {S : zSt} {r : Int32} (ha0 : zK a0 = 5) (ga0 : a0 < zN0) (h : f_Ps_hasLaw a0 a1 S = some r) : zPM l y_Ps_hasLaw b_Ps_hasLaw 2 (some .boolean) rm_Ps_hasLaw true true [zr (some a0), zi a1] S (some (zi r)) S := by
  refine zPM_of (by decide) (Nat.le_of_ble_eq_true rfl) (fun p e s m args below meth c G C hret hname => ?_)
  unfold f_Ps_hasLaw at h
  refine (?_ : zJ p l e rm_Ps_hasLaw s m args below meth c G true 2 0 0 (zQm below G args s rm_Ps_hasLaw true (some (zi r)) S) S 0 [(0, zr (some a0)), (1, zi a1)] [])
  refine z_iload_n C 1 rfl d_Ps_hasLaw_0 rfl ?_
  rcases zite h with ⟨c1, h⟩ | ⟨c1, h⟩
  · refine z_if_ltt C 16 c1 d_Ps_hasLaw_1 (by decide) ?_
    refine z_iconst C (0 : Int32) (by decide) d_Ps_hasLaw_16 ?_
    cases h
    exact z_iret C .boolean hret rfl ⟨Nat.zero_le _, Nat.zero_le _⟩ d_Ps_hasLaw_17
  · refine z_if_ltf C 16 c1 d_Ps_hasLaw_1 (by decide) ?_
    refine z_iload_n C 1 rfl d_Ps_hasLaw_4 rfl ?_
    refine z_aload_n C 0 rfl d_Ps_hasLaw_5 rfl ?_
    refine z_getI C 5 (by decide) 12 (by decide) rfl (Or.inl ⟨rfl, ga0⟩) ha0 zfl_5_50 d_Ps_hasLaw_6 ?_
    rcases zite h with ⟨c2, h⟩ | ⟨c2, h⟩
    · refine z_icmp_get C 16 c2 d_Ps_hasLaw_9 (by decide) ?_
      refine z_iconst C (0 : Int32) (by decide) d_Ps_hasLaw_16 ?_
      cases h
      exact z_iret C .boolean hret rfl ⟨Nat.zero_le _, Nat.zero_le _⟩ d_Ps_hasLaw_17
    · refine z_icmp_gef C 16 c2 d_Ps_hasLaw_9 (by decide) ?_
      refine z_iconst C (1 : Int32) (by decide) d_Ps_hasLaw_12 ?_
      refine z_goto C 17 d_Ps_hasLaw_13 (by decide) ?_
      cases h
      exact z_iret C .boolean hret rfl ⟨Nat.zero_le _, Nat.zero_le _⟩ d_Ps_hasLaw_17
def f_E_force (a1 : Int32) (S : zSt) : Option (Int32 × zSt) := if a1 = (-1 : Int32) then zb2 (f_E_granted (zI S 1 14) (zwI S 1 14 a1)) (fun r3 S4 => some (r3, S4)) else zb1 (f_Ps_hasLaw 1 a1 S) (fun r6 => if r6 = 0 then zb2 (f_E_refused (-2 : Int32) S) (fun r12 S13 => some (r12, S13)) else zb2 (f_E_granted (zI S 1 14) (zwI S 1 14 a1)) (fun r9 S10 => some (r9, S10)))
set_option maxRecDepth 100000 in
set_option maxHeartbeats 4000000 in
theorem m_E_force (l : Launch) {a1 : Int32} {S : zSt} {r : Int32} {S1 : zSt} (h : f_E_force a1 S = some (r, S1)) : zPM l y_E_force b_E_force 3 (some .int) rm_E_force true true [zr (some 0), zi a1] S (some (zi r)) S1 := by
  refine zPM_of (by decide) (Nat.le_of_ble_eq_true rfl) (fun p e s m args below meth c G C hret hname => ?_)
  unfold f_E_force at h
  refine (?_ : zJ p l e rm_E_force s m args below meth c G true 3 0 0 (zQm below G args s rm_E_force true (some (zi r)) S1) S 0 [(0, zr (some 0)), (1, zi a1)] [])
  refine z_iload_n C 1 rfl d_E_force_0 rfl ?_
  refine z_iconst C (-1 : Int32) (by decide) d_E_force_1 ?_
  rcases zite h with ⟨c1, h⟩ | ⟨c1, h⟩
  · refine z_icmp_eqt C 23 c1 d_E_force_2 (by decide) ?_
    refine z_aload_n C 0 rfl d_E_force_23 rfl ?_
    refine z_getF2 C 0 (by decide) 0 (by decide) rfl 1 0 rfl (1) rfl zp_0 zk_0 zfl_0_12 d_E_force_24 ?_
    refine z_getI C 5 (by decide) 14 (by decide) rfl zo_1 zk_1 zfl_0_213 d_E_force_27 ?_
    refine z_istore_n C [(2, zi (zI S 1 14)), (0, zr (some 0)), (1, zi a1)] d_E_force_30 rfl (by decide) rfl ?_
    refine z_aload_n C 1 rfl d_E_force_31 rfl ?_
    refine z_getF2 C 0 (by decide) 0 (by decide) rfl 1 0 rfl (1) rfl zp_0 zk_0 zfl_0_12 d_E_force_32 ?_
    refine z_iload_n C 2 rfl d_E_force_35 rfl ?_
    refine z_putI C 5 (by decide) 14 (by decide) rfl (Or.inl rfl) zo_1 zk_1 zfl_0_213 (Or.inl rfl) d_E_force_36 ?_
    refine z_aload_n C 1 rfl d_E_force_39 rfl ?_
    refine z_iload_n C 0 rfl d_E_force_40 rfl ?_
    obtain ⟨r3, S4, h2, h⟩ := zb2_some h
    refine z_cV C 0 (by decide) (m_E_granted l h2) mf_E_granted lk_0_123 in_E_granted se_E_granted rfl zo_0 zk_0 ⟨rfl, rfl⟩ ⟨by decide, by decide⟩ ⟨Nat.zero_le _, Nat.zero_le _⟩ rfl _ [] rfl (Nat.le_of_ble_eq_true rfl) d_E_force_41 ?_
    cases h
    exact z_iret C .int hret rfl ⟨Nat.zero_le _, Nat.zero_le _⟩ d_E_force_44
  · refine z_icmp_eqf C 23 c1 d_E_force_2 (by decide) ?_
    refine z_aload_n C 0 rfl d_E_force_5 rfl ?_
    refine z_getF2 C 0 (by decide) 0 (by decide) rfl 1 0 rfl (1) rfl zp_0 zk_0 zfl_0_12 d_E_force_6 ?_
    refine z_iload_n C 1 rfl d_E_force_9 rfl ?_
    obtain ⟨r6, h5, h⟩ := zb1_some h
    refine z_cV C 5 (by decide) (m_Ps_hasLaw l zk_1 (Nat.le_of_ble_eq_true rfl) h5) mf_Ps_hasLaw lk_0_210 in_Ps_hasLaw se_Ps_hasLaw rfl zo_1 zk_1 ⟨rfl, rfl⟩ ⟨by decide, by decide⟩ ⟨Nat.zero_le _, Nat.zero_le _⟩ rfl _ [] rfl (Nat.le_of_ble_eq_true rfl) d_E_force_10 ?_
    rcases zite h with ⟨c7, h⟩ | ⟨c7, h⟩
    · refine z_if_nef C 23 c7 d_E_force_13 (by decide) ?_
      refine z_aload_n C 0 rfl d_E_force_16 rfl ?_
      refine z_bipush C (-2 : Int32) (by decide) d_E_force_17 ?_
      obtain ⟨r12, S13, h11, h⟩ := zb2_some h
      refine z_cV C 0 (by decide) (m_E_refused l h11) mf_E_refused lk_0_109 in_E_refused se_E_refused rfl zo_0 zk_0 ⟨rfl, rfl⟩ ⟨by decide, by decide⟩ ⟨Nat.zero_le _, Nat.zero_le _⟩ rfl _ [] rfl (Nat.le_of_ble_eq_true rfl) d_E_force_19 ?_
      cases h
      exact z_iret C .int hret rfl ⟨Nat.zero_le _, Nat.zero_le _⟩ d_E_force_22
    · refine z_if_net C 23 c7 d_E_force_13 (by decide) ?_
      refine z_aload_n C 0 rfl d_E_force_23 rfl ?_
      refine z_getF2 C 0 (by decide) 0 (by decide) rfl 1 0 rfl (1) rfl zp_0 zk_0 zfl_0_12 d_E_force_24 ?_
      refine z_getI C 5 (by decide) 14 (by decide) rfl zo_1 zk_1 zfl_0_213 d_E_force_27 ?_
      refine z_istore_n C [(2, zi (zI S 1 14)), (0, zr (some 0)), (1, zi a1)] d_E_force_30 rfl (by decide) rfl ?_
      refine z_aload_n C 1 rfl d_E_force_31 rfl ?_
      refine z_getF2 C 0 (by decide) 0 (by decide) rfl 1 0 rfl (1) rfl zp_0 zk_0 zfl_0_12 d_E_force_32 ?_
      refine z_iload_n C 2 rfl d_E_force_35 rfl ?_
      refine z_putI C 5 (by decide) 14 (by decide) rfl (Or.inl rfl) zo_1 zk_1 zfl_0_213 (Or.inl rfl) d_E_force_36 ?_
      refine z_aload_n C 1 rfl d_E_force_39 rfl ?_
      refine z_iload_n C 0 rfl d_E_force_40 rfl ?_
      obtain ⟨r9, S10, h8, h⟩ := zb2_some h
      refine z_cV C 0 (by decide) (m_E_granted l h8) mf_E_granted lk_0_123 in_E_granted se_E_granted rfl zo_0 zk_0 ⟨rfl, rfl⟩ ⟨by decide, by decide⟩ ⟨Nat.zero_le _, Nat.zero_le _⟩ rfl _ [] rfl (Nat.le_of_ble_eq_true rfl) d_E_force_41 ?_
      cases h
      exact z_iret C .int hret rfl ⟨Nat.zero_le _, Nat.zero_le _⟩ d_E_force_44
def f_E_answered (a1 : Int32) (S : zSt) : Option (Int32 × zSt) := if 0 ≤ a1 then zb2 (f_E_granted a1 S) (fun r3 S4 => some (r3, S4)) else zb2 (f_E_refused a1 S) (fun r6 S7 => some (r6, S7))
set_option maxRecDepth 100000 in
set_option maxHeartbeats 4000000 in
theorem m_E_answered (l : Launch) {a1 : Int32} {S : zSt} {r : Int32} {S1 : zSt} (h : f_E_answered a1 S = some (r, S1)) : zPM l y_E_answered b_E_answered 2 (some .int) rm_E_answered true true [zr (some 0), zi a1] S (some (zi r)) S1 := by
  refine zPM_of (by decide) (Nat.le_of_ble_eq_true rfl) (fun p e s m args below meth c G C hret hname => ?_)
  unfold f_E_answered at h
  refine (?_ : zJ p l e rm_E_answered s m args below meth c G true 2 0 0 (zQm below G args s rm_E_answered true (some (zi r)) S1) S 0 [(0, zr (some 0)), (1, zi a1)] [])
  refine z_iload_n C 1 rfl d_E_answered_0 rfl ?_
  rcases zite h with ⟨c1, h⟩ | ⟨c1, h⟩
  · refine z_if_get C 12 c1 d_E_answered_1 (by decide) ?_
    refine z_aload_n C 0 rfl d_E_answered_12 rfl ?_
    refine z_iload_n C 1 rfl d_E_answered_13 rfl ?_
    obtain ⟨r3, S4, h2, h⟩ := zb2_some h
    refine z_cV C 0 (by decide) (m_E_granted l h2) mf_E_granted lk_0_123 in_E_granted se_E_granted rfl zo_0 zk_0 ⟨rfl, rfl⟩ ⟨by decide, by decide⟩ ⟨Nat.zero_le _, Nat.zero_le _⟩ rfl _ [] rfl (Nat.le_of_ble_eq_true rfl) d_E_answered_14 ?_
    cases h
    exact z_iret C .int hret rfl ⟨Nat.zero_le _, Nat.zero_le _⟩ d_E_answered_17
  · refine z_if_gef C 12 c1 d_E_answered_1 (by decide) ?_
    refine z_aload_n C 0 rfl d_E_answered_4 rfl ?_
    refine z_iload_n C 1 rfl d_E_answered_5 rfl ?_
    obtain ⟨r6, S7, h5, h⟩ := zb2_some h
    refine z_cV C 0 (by decide) (m_E_refused l h5) mf_E_refused lk_0_109 in_E_refused se_E_refused rfl zo_0 zk_0 ⟨rfl, rfl⟩ ⟨by decide, by decide⟩ ⟨Nat.zero_le _, Nat.zero_le _⟩ rfl _ [] rfl (Nat.le_of_ble_eq_true rfl) d_E_answered_6 ?_
    refine z_goto C 17 d_E_answered_9 (by decide) ?_
    cases h
    exact z_iret C .int hret rfl ⟨Nat.zero_le _, Nat.zero_le _⟩ d_E_answered_17
def f_E_swim (fu : Nat) (a1 : Int32) (S : zSt) : Option (Int32 × zSt) := zb2 (f_E_act fu (0 : Int32) a1 (0 : Int32) S) (fun r2 S3 => zb2 (f_E_answered r2 S3) (fun r5 S6 => some (r5, S6)))
set_option maxRecDepth 100000 in
set_option maxHeartbeats 4000000 in
theorem m_E_swim (l : Launch) {fu : Nat} {a1 : Int32} {S : zSt} {r : Int32} {S1 : zSt} (h : f_E_swim fu a1 S = some (r, S1)) : zPM l y_E_swim b_E_swim 2 (some .int) rm_E_swim true true [zr (some 0), zi a1] S (some (zi r)) S1 := by
  refine zPM_of (by decide) (Nat.le_of_ble_eq_true rfl) (fun p e s m args below meth c G C hret hname => ?_)
  unfold f_E_swim at h
  refine (?_ : zJ p l e rm_E_swim s m args below meth c G true 2 0 0 (zQm below G args s rm_E_swim true (some (zi r)) S1) S 0 [(0, zr (some 0)), (1, zi a1)] [])
  refine z_aload_n C 0 rfl d_E_swim_0 rfl ?_
  refine z_aload_n C 0 rfl d_E_swim_1 rfl ?_
  refine z_iconst C (0 : Int32) (by decide) d_E_swim_2 ?_
  refine z_iload_n C 1 rfl d_E_swim_3 rfl ?_
  refine z_iconst C (0 : Int32) (by decide) d_E_swim_4 ?_
  obtain ⟨r2, S3, h1, h⟩ := zb2_some h
  refine z_cV C 0 (by decide) (m_E_act l h1) mf_E_act lk_0_216 in_E_act se_E_act rfl zo_0 zk_0 ⟨rfl, rfl⟩ ⟨by decide, by decide⟩ ⟨Nat.zero_le _, Nat.zero_le _⟩ rfl _ [zr (some 0)] rfl (Nat.le_of_ble_eq_true rfl) d_E_swim_5 ?_
  obtain ⟨r5, S6, h4, h⟩ := zb2_some h
  refine z_cV C 0 (by decide) (m_E_answered l h4) mf_E_answered lk_0_219 in_E_answered se_E_answered rfl zo_0 zk_0 ⟨rfl, rfl⟩ ⟨by decide, by decide⟩ ⟨Nat.zero_le _, Nat.zero_le _⟩ rfl _ [] rfl (Nat.le_of_ble_eq_true rfl) d_E_swim_8 ?_
  cases h
  exact z_iret C .int hret rfl ⟨Nat.zero_le _, Nat.zero_le _⟩ d_E_swim_11
def f_E_gate (fu : Nat) (a1 : Int32) (a2 : Int32) (S : zSt) : Option (Int32 × zSt) := zb2 (f_E_act fu (1 : Int32) a1 a2 S) (fun r2 S3 => zb2 (f_E_answered r2 S3) (fun r5 S6 => some (r5, S6)))
set_option maxRecDepth 100000 in
set_option maxHeartbeats 4000000 in
theorem m_E_gate (l : Launch) {fu : Nat} {a1 : Int32} {a2 : Int32} {S : zSt} {r : Int32} {S1 : zSt} (h : f_E_gate fu a1 a2 S = some (r, S1)) : zPM l y_E_gate b_E_gate 3 (some .int) rm_E_gate true true [zr (some 0), zi a1, zi a2] S (some (zi r)) S1 := by
  refine zPM_of (by decide) (Nat.le_of_ble_eq_true rfl) (fun p e s m args below meth c G C hret hname => ?_)
  unfold f_E_gate at h
  refine (?_ : zJ p l e rm_E_gate s m args below meth c G true 3 0 0 (zQm below G args s rm_E_gate true (some (zi r)) S1) S 0 [(0, zr (some 0)), (1, zi a1), (2, zi a2)] [])
  refine z_aload_n C 0 rfl d_E_gate_0 rfl ?_
  refine z_aload_n C 0 rfl d_E_gate_1 rfl ?_
  refine z_iconst C (1 : Int32) (by decide) d_E_gate_2 ?_
  refine z_iload_n C 1 rfl d_E_gate_3 rfl ?_
  refine z_iload_n C 2 rfl d_E_gate_4 rfl ?_
  obtain ⟨r2, S3, h1, h⟩ := zb2_some h
  refine z_cV C 0 (by decide) (m_E_act l h1) mf_E_act lk_0_216 in_E_act se_E_act rfl zo_0 zk_0 ⟨rfl, rfl⟩ ⟨by decide, by decide⟩ ⟨Nat.zero_le _, Nat.zero_le _⟩ rfl _ [zr (some 0)] rfl (Nat.le_of_ble_eq_true rfl) d_E_gate_5 ?_
  obtain ⟨r5, S6, h4, h⟩ := zb2_some h
  refine z_cV C 0 (by decide) (m_E_answered l h4) mf_E_answered lk_0_219 in_E_answered se_E_answered rfl zo_0 zk_0 ⟨rfl, rfl⟩ ⟨by decide, by decide⟩ ⟨Nat.zero_le _, Nat.zero_le _⟩ rfl _ [] rfl (Nat.le_of_ble_eq_true rfl) d_E_gate_8 ?_
  cases h
  exact z_iret C .int hret rfl ⟨Nat.zero_le _, Nat.zero_le _⟩ d_E_gate_11
def f_E_stir (fu : Nat) (a1 : Int32) (a2 : Int32) (S : zSt) : Option (Int32 × zSt) := zb2 (f_E_act fu (2 : Int32) a1 a2 S) (fun r2 S3 => zb2 (f_E_answered r2 S3) (fun r5 S6 => some (r5, S6)))
set_option maxRecDepth 100000 in
set_option maxHeartbeats 4000000 in
theorem m_E_stir (l : Launch) {fu : Nat} {a1 : Int32} {a2 : Int32} {S : zSt} {r : Int32} {S1 : zSt} (h : f_E_stir fu a1 a2 S = some (r, S1)) : zPM l y_E_stir b_E_stir 3 (some .int) rm_E_stir true true [zr (some 0), zi a1, zi a2] S (some (zi r)) S1 := by
  refine zPM_of (by decide) (Nat.le_of_ble_eq_true rfl) (fun p e s m args below meth c G C hret hname => ?_)
  unfold f_E_stir at h
  refine (?_ : zJ p l e rm_E_stir s m args below meth c G true 3 0 0 (zQm below G args s rm_E_stir true (some (zi r)) S1) S 0 [(0, zr (some 0)), (1, zi a1), (2, zi a2)] [])
  refine z_aload_n C 0 rfl d_E_stir_0 rfl ?_
  refine z_aload_n C 0 rfl d_E_stir_1 rfl ?_
  refine z_iconst C (2 : Int32) (by decide) d_E_stir_2 ?_
  refine z_iload_n C 1 rfl d_E_stir_3 rfl ?_
  refine z_iload_n C 2 rfl d_E_stir_4 rfl ?_
  obtain ⟨r2, S3, h1, h⟩ := zb2_some h
  refine z_cV C 0 (by decide) (m_E_act l h1) mf_E_act lk_0_216 in_E_act se_E_act rfl zo_0 zk_0 ⟨rfl, rfl⟩ ⟨by decide, by decide⟩ ⟨Nat.zero_le _, Nat.zero_le _⟩ rfl _ [zr (some 0)] rfl (Nat.le_of_ble_eq_true rfl) d_E_stir_5 ?_
  obtain ⟨r5, S6, h4, h⟩ := zb2_some h
  refine z_cV C 0 (by decide) (m_E_answered l h4) mf_E_answered lk_0_219 in_E_answered se_E_answered rfl zo_0 zk_0 ⟨rfl, rfl⟩ ⟨by decide, by decide⟩ ⟨Nat.zero_le _, Nat.zero_le _⟩ rfl _ [] rfl (Nat.le_of_ble_eq_true rfl) d_E_stir_8 ?_
  cases h
  exact z_iret C .int hret rfl ⟨Nat.zero_le _, Nat.zero_le _⟩ d_E_stir_11
def f_E_pass (fu : Nat) (S : zSt) : Option (Int32 × zSt) := zb2 (f_E_act fu (3 : Int32) (0 : Int32) (0 : Int32) S) (fun r2 S3 => zb2 (f_E_answered r2 S3) (fun r5 S6 => some (r5, S6)))
set_option maxRecDepth 100000 in
set_option maxHeartbeats 4000000 in
theorem m_E_pass (l : Launch) {fu : Nat} {S : zSt} {r : Int32} {S1 : zSt} (h : f_E_pass fu  S = some (r, S1)) : zPM l y_E_pass b_E_pass 1 (some .int) rm_E_pass true true [zr (some 0)] S (some (zi r)) S1 := by
  refine zPM_of (by decide) (Nat.le_of_ble_eq_true rfl) (fun p e s m args below meth c G C hret hname => ?_)
  unfold f_E_pass at h
  refine (?_ : zJ p l e rm_E_pass s m args below meth c G true 1 0 0 (zQm below G args s rm_E_pass true (some (zi r)) S1) S 0 [(0, zr (some 0))] [])
  refine z_aload_n C 0 rfl d_E_pass_0 rfl ?_
  refine z_aload_n C 0 rfl d_E_pass_1 rfl ?_
  refine z_iconst C (3 : Int32) (by decide) d_E_pass_2 ?_
  refine z_iconst C (0 : Int32) (by decide) d_E_pass_3 ?_
  refine z_iconst C (0 : Int32) (by decide) d_E_pass_4 ?_
  obtain ⟨r2, S3, h1, h⟩ := zb2_some h
  refine z_cV C 0 (by decide) (m_E_act l h1) mf_E_act lk_0_216 in_E_act se_E_act rfl zo_0 zk_0 ⟨rfl, rfl⟩ ⟨by decide, by decide⟩ ⟨Nat.zero_le _, Nat.zero_le _⟩ rfl _ [zr (some 0)] rfl (Nat.le_of_ble_eq_true rfl) d_E_pass_5 ?_
  obtain ⟨r5, S6, h4, h⟩ := zb2_some h
  refine z_cV C 0 (by decide) (m_E_answered l h4) mf_E_answered lk_0_219 in_E_answered se_E_answered rfl zo_0 zk_0 ⟨rfl, rfl⟩ ⟨by decide, by decide⟩ ⟨Nat.zero_le _, Nat.zero_le _⟩ rfl _ [] rfl (Nat.le_of_ble_eq_true rfl) d_E_pass_8 ?_
  cases h
  exact z_iret C .int hret rfl ⟨Nat.zero_le _, Nat.zero_le _⟩ d_E_pass_11
def f_Jo_takeBack (a0 : Nat) (a1 : Nat) (S : zSt) : Option (Int32 × zSt) := if 0 < (zI S a0 0) then zgd (0 ≤ (((zI S a0 1) + (15 : Int32)) &&& (15 : Int32)) ∧ (((zI S a0 1) + (15 : Int32)) &&& (15 : Int32)).toNatClampNeg < 16) (zgd (0 ≤ (((zI S a0 1) + (15 : Int32)) &&& (15 : Int32)) ∧ (((zI S a0 1) + (15 : Int32)) &&& (15 : Int32)).toNatClampNeg < 16) (zgd (0 ≤ (((zI S a0 1) + (15 : Int32)) &&& (15 : Int32)) ∧ (((zI S a0 1) + (15 : Int32)) &&& (15 : Int32)).toNatClampNeg < 16) (zgd (0 ≤ (((zI S a0 1) + (15 : Int32)) &&& (15 : Int32)) ∧ (((zI S a0 1) + (15 : Int32)) &&& (15 : Int32)).toNatClampNeg < 16) (zgd (0 ≤ (((zI S a0 1) + (15 : Int32)) &&& (15 : Int32)) ∧ (((zI S a0 1) + (15 : Int32)) &&& (15 : Int32)).toNatClampNeg < 16) (some (zI (zwL (zwL (zwI (zwI (zwI (zwI S a0 0 ((zI S a0 0) - (1 : Int32))) a0 1 (((zI S a0 1) + (15 : Int32)) &&& (15 : Int32))) a1 5 (zI (zwI (zwI S a0 0 ((zI S a0 0) - (1 : Int32))) a0 1 (((zI S a0 1) + (15 : Int32)) &&& (15 : Int32))) (a0 + 2) (((zI S a0 1) + (15 : Int32)) &&& (15 : Int32)).toNatClampNeg)) a1 6 (zI (zwI (zwI (zwI S a0 0 ((zI S a0 0) - (1 : Int32))) a0 1 (((zI S a0 1) + (15 : Int32)) &&& (15 : Int32))) a1 5 (zI (zwI (zwI S a0 0 ((zI S a0 0) - (1 : Int32))) a0 1 (((zI S a0 1) + (15 : Int32)) &&& (15 : Int32))) (a0 + 2) (((zI S a0 1) + (15 : Int32)) &&& (15 : Int32)).toNatClampNeg)) (a0 + 3) (((zI S a0 1) + (15 : Int32)) &&& (15 : Int32)).toNatClampNeg)) a1 4 (zL (zwI (zwI (zwI (zwI S a0 0 ((zI S a0 0) - (1 : Int32))) a0 1 (((zI S a0 1) + (15 : Int32)) &&& (15 : Int32))) a1 5 (zI (zwI (zwI S a0 0 ((zI S a0 0) - (1 : Int32))) a0 1 (((zI S a0 1) + (15 : Int32)) &&& (15 : Int32))) (a0 + 2) (((zI S a0 1) + (15 : Int32)) &&& (15 : Int32)).toNatClampNeg)) a1 6 (zI (zwI (zwI (zwI S a0 0 ((zI S a0 0) - (1 : Int32))) a0 1 (((zI S a0 1) + (15 : Int32)) &&& (15 : Int32))) a1 5 (zI (zwI (zwI S a0 0 ((zI S a0 0) - (1 : Int32))) a0 1 (((zI S a0 1) + (15 : Int32)) &&& (15 : Int32))) (a0 + 2) (((zI S a0 1) + (15 : Int32)) &&& (15 : Int32)).toNatClampNeg)) (a0 + 3) (((zI S a0 1) + (15 : Int32)) &&& (15 : Int32)).toNatClampNeg)) (a0 + 4) (((zI S a0 1) + (15 : Int32)) &&& (15 : Int32)).toNatClampNeg)) a1 3 (zL (zwL (zwI (zwI (zwI (zwI S a0 0 ((zI S a0 0) - (1 : Int32))) a0 1 (((zI S a0 1) + (15 : Int32)) &&& (15 : Int32))) a1 5 (zI (zwI (zwI S a0 0 ((zI S a0 0) - (1 : Int32))) a0 1 (((zI S a0 1) + (15 : Int32)) &&& (15 : Int32))) (a0 + 2) (((zI S a0 1) + (15 : Int32)) &&& (15 : Int32)).toNatClampNeg)) a1 6 (zI (zwI (zwI (zwI S a0 0 ((zI S a0 0) - (1 : Int32))) a0 1 (((zI S a0 1) + (15 : Int32)) &&& (15 : Int32))) a1 5 (zI (zwI (zwI S a0 0 ((zI S a0 0) - (1 : Int32))) a0 1 (((zI S a0 1) + (15 : Int32)) &&& (15 : Int32))) (a0 + 2) (((zI S a0 1) + (15 : Int32)) &&& (15 : Int32)).toNatClampNeg)) (a0 + 3) (((zI S a0 1) + (15 : Int32)) &&& (15 : Int32)).toNatClampNeg)) a1 4 (zL (zwI (zwI (zwI (zwI S a0 0 ((zI S a0 0) - (1 : Int32))) a0 1 (((zI S a0 1) + (15 : Int32)) &&& (15 : Int32))) a1 5 (zI (zwI (zwI S a0 0 ((zI S a0 0) - (1 : Int32))) a0 1 (((zI S a0 1) + (15 : Int32)) &&& (15 : Int32))) (a0 + 2) (((zI S a0 1) + (15 : Int32)) &&& (15 : Int32)).toNatClampNeg)) a1 6 (zI (zwI (zwI (zwI S a0 0 ((zI S a0 0) - (1 : Int32))) a0 1 (((zI S a0 1) + (15 : Int32)) &&& (15 : Int32))) a1 5 (zI (zwI (zwI S a0 0 ((zI S a0 0) - (1 : Int32))) a0 1 (((zI S a0 1) + (15 : Int32)) &&& (15 : Int32))) (a0 + 2) (((zI S a0 1) + (15 : Int32)) &&& (15 : Int32)).toNatClampNeg)) (a0 + 3) (((zI S a0 1) + (15 : Int32)) &&& (15 : Int32)).toNatClampNeg)) (a0 + 4) (((zI S a0 1) + (15 : Int32)) &&& (15 : Int32)).toNatClampNeg)) (a0 + 5) (((zI S a0 1) + (15 : Int32)) &&& (15 : Int32)).toNatClampNeg)) (a0 + 1) (((zI S a0 1) + (15 : Int32)) &&& (15 : Int32)).toNatClampNeg, zwL (zwL (zwI (zwI (zwI (zwI S a0 0 ((zI S a0 0) - (1 : Int32))) a0 1 (((zI S a0 1) + (15 : Int32)) &&& (15 : Int32))) a1 5 (zI (zwI (zwI S a0 0 ((zI S a0 0) - (1 : Int32))) a0 1 (((zI S a0 1) + (15 : Int32)) &&& (15 : Int32))) (a0 + 2) (((zI S a0 1) + (15 : Int32)) &&& (15 : Int32)).toNatClampNeg)) a1 6 (zI (zwI (zwI (zwI S a0 0 ((zI S a0 0) - (1 : Int32))) a0 1 (((zI S a0 1) + (15 : Int32)) &&& (15 : Int32))) a1 5 (zI (zwI (zwI S a0 0 ((zI S a0 0) - (1 : Int32))) a0 1 (((zI S a0 1) + (15 : Int32)) &&& (15 : Int32))) (a0 + 2) (((zI S a0 1) + (15 : Int32)) &&& (15 : Int32)).toNatClampNeg)) (a0 + 3) (((zI S a0 1) + (15 : Int32)) &&& (15 : Int32)).toNatClampNeg)) a1 4 (zL (zwI (zwI (zwI (zwI S a0 0 ((zI S a0 0) - (1 : Int32))) a0 1 (((zI S a0 1) + (15 : Int32)) &&& (15 : Int32))) a1 5 (zI (zwI (zwI S a0 0 ((zI S a0 0) - (1 : Int32))) a0 1 (((zI S a0 1) + (15 : Int32)) &&& (15 : Int32))) (a0 + 2) (((zI S a0 1) + (15 : Int32)) &&& (15 : Int32)).toNatClampNeg)) a1 6 (zI (zwI (zwI (zwI S a0 0 ((zI S a0 0) - (1 : Int32))) a0 1 (((zI S a0 1) + (15 : Int32)) &&& (15 : Int32))) a1 5 (zI (zwI (zwI S a0 0 ((zI S a0 0) - (1 : Int32))) a0 1 (((zI S a0 1) + (15 : Int32)) &&& (15 : Int32))) (a0 + 2) (((zI S a0 1) + (15 : Int32)) &&& (15 : Int32)).toNatClampNeg)) (a0 + 3) (((zI S a0 1) + (15 : Int32)) &&& (15 : Int32)).toNatClampNeg)) (a0 + 4) (((zI S a0 1) + (15 : Int32)) &&& (15 : Int32)).toNatClampNeg)) a1 3 (zL (zwL (zwI (zwI (zwI (zwI S a0 0 ((zI S a0 0) - (1 : Int32))) a0 1 (((zI S a0 1) + (15 : Int32)) &&& (15 : Int32))) a1 5 (zI (zwI (zwI S a0 0 ((zI S a0 0) - (1 : Int32))) a0 1 (((zI S a0 1) + (15 : Int32)) &&& (15 : Int32))) (a0 + 2) (((zI S a0 1) + (15 : Int32)) &&& (15 : Int32)).toNatClampNeg)) a1 6 (zI (zwI (zwI (zwI S a0 0 ((zI S a0 0) - (1 : Int32))) a0 1 (((zI S a0 1) + (15 : Int32)) &&& (15 : Int32))) a1 5 (zI (zwI (zwI S a0 0 ((zI S a0 0) - (1 : Int32))) a0 1 (((zI S a0 1) + (15 : Int32)) &&& (15 : Int32))) (a0 + 2) (((zI S a0 1) + (15 : Int32)) &&& (15 : Int32)).toNatClampNeg)) (a0 + 3) (((zI S a0 1) + (15 : Int32)) &&& (15 : Int32)).toNatClampNeg)) a1 4 (zL (zwI (zwI (zwI (zwI S a0 0 ((zI S a0 0) - (1 : Int32))) a0 1 (((zI S a0 1) + (15 : Int32)) &&& (15 : Int32))) a1 5 (zI (zwI (zwI S a0 0 ((zI S a0 0) - (1 : Int32))) a0 1 (((zI S a0 1) + (15 : Int32)) &&& (15 : Int32))) (a0 + 2) (((zI S a0 1) + (15 : Int32)) &&& (15 : Int32)).toNatClampNeg)) a1 6 (zI (zwI (zwI (zwI S a0 0 ((zI S a0 0) - (1 : Int32))) a0 1 (((zI S a0 1) + (15 : Int32)) &&& (15 : Int32))) a1 5 (zI (zwI (zwI S a0 0 ((zI S a0 0) - (1 : Int32))) a0 1 (((zI S a0 1) + (15 : Int32)) &&& (15 : Int32))) (a0 + 2) (((zI S a0 1) + (15 : Int32)) &&& (15 : Int32)).toNatClampNeg)) (a0 + 3) (((zI S a0 1) + (15 : Int32)) &&& (15 : Int32)).toNatClampNeg)) (a0 + 4) (((zI S a0 1) + (15 : Int32)) &&& (15 : Int32)).toNatClampNeg)) (a0 + 5) (((zI S a0 1) + (15 : Int32)) &&& (15 : Int32)).toNatClampNeg))))))) else some ((-3 : Int32), S)
set_option maxRecDepth 100000 in
set_option maxHeartbeats 4000000 in
theorem m_Jo_takeBack (l : Launch) {a0 : Nat} {a1 : Nat} {S : zSt} {r : Int32} {S1 : zSt} (ha0 : zK a0 = 2) (ga0 : a0 < zN0) (ha1 : zK a1 = 5) (ga1 : a1 < zN0) (h : f_Jo_takeBack a0 a1  S = some (r, S1)) : zPM l y_Jo_takeBack b_Jo_takeBack 3 (some .int) rm_Jo_takeBack true true [zr (some a0), zr (some a1)] S (some (zi r)) S1 := by
  refine zPM_of (by decide) (Nat.le_of_ble_eq_true rfl) (fun p e s m args below meth c G C hret hname => ?_)
  unfold f_Jo_takeBack at h
  refine (?_ : zJ p l e rm_Jo_takeBack s m args below meth c G true 3 0 0 (zQm below G args s rm_Jo_takeBack true (some (zi r)) S1) S 0 [(0, zr (some a0)), (1, zr (some a1))] [])
  refine z_aload_n C 0 rfl d_Jo_takeBack_0 rfl ?_
  refine z_getI C 2 (by decide) 0 (by decide) rfl (Or.inl ⟨rfl, ga0⟩) ha0 zfl_2_11 d_Jo_takeBack_1 ?_
  rcases zite h with ⟨c1, h⟩ | ⟨c1, h⟩
  · refine z_if_gtt C 10 c1 d_Jo_takeBack_4 (by decide) ?_
    refine z_aload_n C 0 rfl d_Jo_takeBack_10 rfl ?_
    refine z_getI C 2 (by decide) 1 (by decide) rfl (Or.inl ⟨rfl, ga0⟩) ha0 zfl_2_15 d_Jo_takeBack_11 ?_
    refine z_bipush C (15 : Int32) (by decide) d_Jo_takeBack_14 ?_
    refine z_iadd C d_Jo_takeBack_16 ?_
    refine z_bipush C (15 : Int32) (by decide) d_Jo_takeBack_17 ?_
    refine z_iand C d_Jo_takeBack_19 ?_
    refine z_istore_n C [(2, zi (((zI S a0 1) + (15 : Int32)) &&& (15 : Int32))), (0, zr (some a0)), (1, zr (some a1))] d_Jo_takeBack_20 rfl (by decide) rfl ?_
    refine z_aload_n C 1 rfl d_Jo_takeBack_21 rfl ?_
    refine z_dup C rfl d_Jo_takeBack_22 ?_
    refine z_getI C 2 (by decide) 0 (by decide) rfl (Or.inl ⟨rfl, ga0⟩) ha0 zfl_2_11 d_Jo_takeBack_23 ?_
    refine z_iconst C (1 : Int32) (by decide) d_Jo_takeBack_26 ?_
    refine z_isub C d_Jo_takeBack_27 ?_
    refine z_putI C 2 (by decide) 0 (by decide) rfl (Or.inl rfl) (Or.inl ⟨rfl, ga0⟩) ha0 zfl_2_11 (Or.inl rfl) d_Jo_takeBack_28 ?_
    refine z_aload_n C 1 rfl d_Jo_takeBack_31 rfl ?_
    refine z_iload_n C 0 rfl d_Jo_takeBack_32 rfl ?_
    refine z_putI C 2 (by decide) 1 (by decide) rfl (Or.inl rfl) (Or.inl ⟨rfl, ga0⟩) ha0 zfl_2_15 (Or.inl rfl) d_Jo_takeBack_33 ?_
    refine z_aload_n C 2 rfl d_Jo_takeBack_36 rfl ?_
    refine z_aload_n C 1 rfl d_Jo_takeBack_37 rfl ?_
    refine z_getF2 C 2 (by decide) 3 (by decide) rfl 2 16 rfl (a0 + 2) rfl (Or.inl ga0) ha0 zfl_2_22 d_Jo_takeBack_38 ?_
    refine z_iload_n C 0 rfl d_Jo_takeBack_41 rfl ?_
    refine z_fact (fun hSR => ?_)
    obtain ⟨g2, h⟩ := zgd_some h
    refine z_ialoadS C (Or.inl ⟨rfl, (zko_2_2 ha0 ga0).1⟩) (zko_2_2 ha0 ga0).2 (zsa_2_2 hSR ha0 ga0) g2 d_Jo_takeBack_42 ?_
    refine z_putI C 5 (by decide) 5 (by decide) rfl (Or.inl rfl) (Or.inl ⟨rfl, ga1⟩) ha1 zfl_2_41 (Or.inl rfl) d_Jo_takeBack_43 ?_
    refine z_aload_n C 2 rfl d_Jo_takeBack_46 rfl ?_
    refine z_aload_n C 1 rfl d_Jo_takeBack_47 rfl ?_
    refine z_getF2 C 2 (by decide) 4 (by decide) rfl 3 16 rfl (a0 + 3) rfl (Or.inl ga0) ha0 zfl_2_25 d_Jo_takeBack_48 ?_
    refine z_iload_n C 0 rfl d_Jo_takeBack_51 rfl ?_
    refine z_fact (fun hSR => ?_)
    obtain ⟨g3, h⟩ := zgd_some h
    refine z_ialoadS C (Or.inl ⟨rfl, (zko_2_3 ha0 ga0).1⟩) (zko_2_3 ha0 ga0).2 (zsa_2_3 hSR ha0 ga0) g3 d_Jo_takeBack_52 ?_
    refine z_putI C 5 (by decide) 6 (by decide) rfl (Or.inl rfl) (Or.inl ⟨rfl, ga1⟩) ha1 zfl_2_46 (Or.inl rfl) d_Jo_takeBack_53 ?_
    refine z_aload_n C 2 rfl d_Jo_takeBack_56 rfl ?_
    refine z_aload_n C 1 rfl d_Jo_takeBack_57 rfl ?_
    refine z_getF2 C 2 (by decide) 5 (by decide) rfl 4 16 rfl (a0 + 4) rfl (Or.inl ga0) ha0 zfl_2_28 d_Jo_takeBack_58 ?_
    refine z_iload_n C 0 rfl d_Jo_takeBack_61 rfl ?_
    refine z_fact (fun hSR => ?_)
    obtain ⟨g4, h⟩ := zgd_some h
    refine z_laloadS C (Or.inl ⟨rfl, (zko_2_4 ha0 ga0).1⟩) (zko_2_4 ha0 ga0).2 (zsa_2_4 hSR ha0 ga0) g4 d_Jo_takeBack_62 ?_
    refine z_putL C 5 (by decide) 4 (by decide) rfl (Or.inl ⟨rfl, ga1⟩) ha1 zfl_2_49 (Or.inl rfl) d_Jo_takeBack_63 ?_
    refine z_aload_n C 2 rfl d_Jo_takeBack_66 rfl ?_
    refine z_aload_n C 1 rfl d_Jo_takeBack_67 rfl ?_
    refine z_getF2 C 2 (by decide) 6 (by decide) rfl 5 16 rfl (a0 + 5) rfl (Or.inl ga0) ha0 zfl_2_32 d_Jo_takeBack_68 ?_
    refine z_iload_n C 0 rfl d_Jo_takeBack_71 rfl ?_
    refine z_fact (fun hSR => ?_)
    obtain ⟨g5, h⟩ := zgd_some h
    refine z_laloadS C (Or.inl ⟨rfl, (zko_2_5 ha0 ga0).1⟩) (zko_2_5 ha0 ga0).2 (zsa_2_5 hSR ha0 ga0) g5 d_Jo_takeBack_72 ?_
    refine z_putL C 5 (by decide) 3 (by decide) rfl (Or.inl ⟨rfl, ga1⟩) ha1 zfl_2_53 (Or.inl rfl) d_Jo_takeBack_73 ?_
    refine z_aload_n C 1 rfl d_Jo_takeBack_76 rfl ?_
    refine z_getF2 C 2 (by decide) 2 (by decide) rfl 1 16 rfl (a0 + 1) rfl (Or.inl ga0) ha0 zfl_2_18 d_Jo_takeBack_77 ?_
    refine z_iload_n C 0 rfl d_Jo_takeBack_80 rfl ?_
    refine z_fact (fun hSR => ?_)
    obtain ⟨g6, h⟩ := zgd_some h
    refine z_ialoadS C (Or.inl ⟨rfl, (zko_2_1 ha0 ga0).1⟩) (zko_2_1 ha0 ga0).2 (zsa_2_1 hSR ha0 ga0) g6 d_Jo_takeBack_81 ?_
    cases h
    exact z_iret C .int hret rfl ⟨Nat.zero_le _, Nat.zero_le _⟩ d_Jo_takeBack_82
  · refine z_if_gtf C 10 c1 d_Jo_takeBack_4 (by decide) ?_
    refine z_bipush C (-3 : Int32) (by decide) d_Jo_takeBack_7 ?_
    cases h
    exact z_iret C .int hret rfl ⟨Nat.zero_le _, Nat.zero_le _⟩ d_Jo_takeBack_9
def f_E_undo (S : zSt) : Option (Int32 × zSt) := zb2 (f_Jo_takeBack 32 1 S) (fun r2 S3 => zb2 (f_E_answered r2 S3) (fun r5 S6 => some (r5, S6)))
set_option maxRecDepth 100000 in
set_option maxHeartbeats 4000000 in
theorem m_E_undo (l : Launch) {S : zSt} {r : Int32} {S1 : zSt} (h : f_E_undo  S = some (r, S1)) : zPM l y_E_undo b_E_undo 1 (some .int) rm_E_undo true true [zr (some 0)] S (some (zi r)) S1 := by
  refine zPM_of (by decide) (Nat.le_of_ble_eq_true rfl) (fun p e s m args below meth c G C hret hname => ?_)
  unfold f_E_undo at h
  refine (?_ : zJ p l e rm_E_undo s m args below meth c G true 1 0 0 (zQm below G args s rm_E_undo true (some (zi r)) S1) S 0 [(0, zr (some 0))] [])
  refine z_aload_n C 0 rfl d_E_undo_0 rfl ?_
  refine z_aload_n C 0 rfl d_E_undo_1 rfl ?_
  refine z_getF2 C 0 (by decide) 4 (by decide) rfl 32 0 rfl (32) rfl zp_0 zk_0 zfl_0_29 d_E_undo_2 ?_
  refine z_aload_n C 0 rfl d_E_undo_5 rfl ?_
  refine z_getF2 C 0 (by decide) 0 (by decide) rfl 1 0 rfl (1) rfl zp_0 zk_0 zfl_0_12 d_E_undo_6 ?_
  obtain ⟨r2, S3, h1, h⟩ := zb2_some h
  refine z_cV C 2 (by decide) (m_Jo_takeBack l zk_32 (Nat.le_of_ble_eq_true rfl) zk_1 (Nat.le_of_ble_eq_true rfl) h1) mf_Jo_takeBack lk_0_222 in_Jo_takeBack se_Jo_takeBack rfl zo_32 zk_32 ⟨rfl, rfl⟩ ⟨by decide, by decide⟩ ⟨Nat.zero_le _, Nat.zero_le _⟩ rfl _ [zr (some 0)] rfl (Nat.le_of_ble_eq_true rfl) d_E_undo_9 ?_
  obtain ⟨r5, S6, h4, h⟩ := zb2_some h
  refine z_cV C 0 (by decide) (m_E_answered l h4) mf_E_answered lk_0_219 in_E_answered se_E_answered rfl zo_0 zk_0 ⟨rfl, rfl⟩ ⟨by decide, by decide⟩ ⟨Nat.zero_le _, Nat.zero_le _⟩ rfl _ [] rfl (Nat.le_of_ble_eq_true rfl) d_E_undo_12 ?_
  cases h
  exact z_iret C .int hret rfl ⟨Nat.zero_le _, Nat.zero_le _⟩ d_E_undo_15
def f_E_fillPaper (fu : Nat) (S : zSt) : Option zSt := zb1 (f_Ps_lawInForce 1 S) (fun r2 => zb1 (f_Pa_fill fu 1 r2 S) (fun S4 => some S4))
set_option maxRecDepth 100000 in
set_option maxHeartbeats 4000000 in
theorem m_E_fillPaper (l : Launch) {fu : Nat} {S : zSt} {S1 : zSt} (h : f_E_fillPaper fu  S = some S1) : zPM l y_E_fillPaper b_E_fillPaper 1 none rm_E_fillPaper true true [zr (some 0)] S none S1 := by
  refine zPM_of (by decide) (Nat.le_of_ble_eq_true rfl) (fun p e s m args below meth c G C hret hname => ?_)
  unfold f_E_fillPaper at h
  refine (?_ : zJ p l e rm_E_fillPaper s m args below meth c G true 1 0 0 (zQm below G args s rm_E_fillPaper true none S1) S 0 [(0, zr (some 0))] [])
  refine z_aload_n C 0 rfl d_E_fillPaper_0 rfl ?_
  refine z_getF2 C 0 (by decide) 9 (by decide) rfl 55 0 rfl (55) rfl zp_0 zk_0 zfl_0_60 d_E_fillPaper_1 ?_
  refine z_aload_n C 0 rfl d_E_fillPaper_4 rfl ?_
  refine z_getF2 C 0 (by decide) 0 (by decide) rfl 1 0 rfl (1) rfl zp_0 zk_0 zfl_0_12 d_E_fillPaper_5 ?_
  refine z_aload_n C 0 rfl d_E_fillPaper_8 rfl ?_
  refine z_getF2 C 0 (by decide) 0 (by decide) rfl 1 0 rfl (1) rfl zp_0 zk_0 zfl_0_12 d_E_fillPaper_9 ?_
  obtain ⟨r2, h1, h⟩ := zb1_some h
  refine z_cV C 5 (by decide) (m_Ps_lawInForce l zk_1 (Nat.le_of_ble_eq_true rfl) h1) mf_Ps_lawInForce lk_0_140 in_Ps_lawInForce se_Ps_lawInForce rfl zo_1 zk_1 ⟨rfl, rfl⟩ ⟨by decide, by decide⟩ ⟨Nat.zero_le _, Nat.zero_le _⟩ rfl _ [zr (some 1), zr (some 55)] rfl (Nat.le_of_ble_eq_true rfl) d_E_fillPaper_12 ?_
  refine z_aload_n C 0 rfl d_E_fillPaper_15 rfl ?_
  refine z_getF2 C 0 (by decide) 8 (by decide) rfl 52 0 rfl (52) rfl zp_0 zk_0 zfl_0_53 d_E_fillPaper_16 ?_
  obtain ⟨S4, h3, h⟩ := zb1_some h
  refine z_cV C 4 (by decide) (m_Pa_fill l zk_1 (Nat.le_of_ble_eq_true rfl) h3) mf_Pa_fill lk_0_322 in_Pa_fill se_Pa_fill rfl zo_55 zk_55 ⟨rfl, rfl⟩ ⟨by decide, by decide⟩ ⟨Nat.zero_le _, Nat.zero_le _⟩ rfl _ [] rfl (Nat.le_of_ble_eq_true rfl) d_E_fillPaper_19 ?_
  cases h
  exact z_vret C hret ⟨Nat.zero_le _, Nat.zero_le _⟩ d_E_fillPaper_22
def f_E_soon (fu : Nat) (a1 : Int32) (a2 : Int32) (S : zSt) : Option (Int32 × zSt) := zb1 (f_E_fillPaper fu S) (fun S2 => zb1 (f_Pa_soonest a1 a2 S2) (fun r4 => some (r4, S2)))
set_option maxRecDepth 100000 in
set_option maxHeartbeats 4000000 in
theorem m_E_soon (l : Launch) {fu : Nat} {a1 : Int32} {a2 : Int32} {S : zSt} {r : Int32} {S1 : zSt} (h : f_E_soon fu a1 a2 S = some (r, S1)) : zPM l y_E_soon b_E_soon 3 (some .int) rm_E_soon true true [zr (some 0), zi a1, zi a2] S (some (zi r)) S1 := by
  refine zPM_of (by decide) (Nat.le_of_ble_eq_true rfl) (fun p e s m args below meth c G C hret hname => ?_)
  unfold f_E_soon at h
  refine (?_ : zJ p l e rm_E_soon s m args below meth c G true 3 0 0 (zQm below G args s rm_E_soon true (some (zi r)) S1) S 0 [(0, zr (some 0)), (1, zi a1), (2, zi a2)] [])
  refine z_aload_n C 0 rfl d_E_soon_0 rfl ?_
  obtain ⟨S2, h1, h⟩ := zb1_some h
  refine z_cV C 0 (by decide) (m_E_fillPaper l h1) mf_E_fillPaper lk_0_226 in_E_fillPaper se_E_fillPaper rfl zo_0 zk_0 ⟨rfl, rfl⟩ ⟨by decide, by decide⟩ ⟨Nat.zero_le _, Nat.zero_le _⟩ rfl _ [] rfl (Nat.le_of_ble_eq_true rfl) d_E_soon_1 ?_
  refine z_aload_n C 0 rfl d_E_soon_4 rfl ?_
  refine z_getF2 C 0 (by decide) 9 (by decide) rfl 55 0 rfl (55) rfl zp_0 zk_0 zfl_0_60 d_E_soon_5 ?_
  refine z_iload_n C 1 rfl d_E_soon_8 rfl ?_
  refine z_iload_n C 2 rfl d_E_soon_9 rfl ?_
  obtain ⟨r4, h3, h⟩ := zb1_some h
  refine z_cV C 4 (by decide) (m_Pa_soonest l h3) mf_Pa_soonest lk_0_229 in_Pa_soonest se_Pa_soonest rfl zo_55 zk_55 ⟨rfl, rfl⟩ ⟨by decide, by decide⟩ ⟨Nat.zero_le _, Nat.zero_le _⟩ rfl _ [] rfl (Nat.le_of_ble_eq_true rfl) d_E_soon_10 ?_
  cases h
  exact z_iret C .int hret rfl ⟨Nat.zero_le _, Nat.zero_le _⟩ d_E_soon_13
def f_Pa_nextOnWay_25 (fu : Nat) : Nat → Int32 → Int32 → Int32 → zSt → Option Int32
  | 0, _, _, _, _ => none
  | n + 1, a1, a2, a3, S => if (zI S 55 0) ≤ a3 then some (-1 : Int32) else zb1 (f_Pa_pair a1 a3) (fun r3 => zgd (0 ≤ r3 ∧ r3.toNatClampNeg < 81) (zb1 (f_Pa_pair a3 a2) (fun r6 => zgd (0 ≤ r6 ∧ r6.toNatClampNeg < 81) (zb1 (f_Pa_pair a1 a2) (fun r9 => zgd (0 ≤ r9 ∧ r9.toNatClampNeg < 81) (if ((zI S 57 r3.toNatClampNeg) + (zI S 58 r6.toNatClampNeg)) = (zI S 58 r9.toNatClampNeg) then some a3 else f_Pa_nextOnWay_25 fu n a1 a2 (a3 + (1 : Int32)) S))))))
def f_Pa_nextOnWay (fu : Nat) (a1 : Int32) (a2 : Int32) (S : zSt) : Option Int32 := zb1 (f_Pa_has a1 S) (fun r2 => if r2 = 0 then some (-1 : Int32) else zb1 (f_Pa_has a2 S) (fun r5 => if r5 = 0 then some (-1 : Int32) else if a1 = a2 then some (-1 : Int32) else f_Pa_nextOnWay_25 fu fu a1 a2 (0 : Int32) S))
set_option maxRecDepth 100000 in
set_option maxHeartbeats 4000000 in
theorem c_Pa_nextOnWay_25 {p : Program} {l : Launch} {e : Env} {s : State} {m : MethodId} {args : Array Value} {below : List Frame} {meth : Method} {c : Code} {G : zG} (C : zC p s m args meth c G b_Pa_nextOnWay 4 y_Pa_nextOnWay.cls) (hret : meth.sig.returnType = (some .int)) {fu : Nat} {r : Int32} : ∀ (n : Nat) (a1 : Int32) (a2 : Int32) (a3 : Int32) (S : zSt) , f_Pa_nextOnWay_25 fu n a1 a2 a3 S = some r → zJ p l e rm_Pa_nextOnWay s m args below meth c G true 4 0 0 (zQm below G args s rm_Pa_nextOnWay true (some (zi r)) S) S 25 [(0, zr (some 55)), (1, zi a1), (2, zi a2), (3, zi a3)] [] := by
  intro n
  induction n with
  | zero =>
    intro a1 a2 a3 S h
    cases h
  | succ n ih =>
    intro a1 a2 a3 S h
    rw [f_Pa_nextOnWay_25] at h
    refine z_iload_n C 3 rfl d_Pa_nextOnWay_25 rfl ?_
    refine z_aload_n C 0 rfl d_Pa_nextOnWay_26 rfl ?_
    refine z_getI C 4 (by decide) 0 (by decide) rfl zo_55 zk_55 zfl_4_9 d_Pa_nextOnWay_27 ?_
    rcases zite h with ⟨c1, h⟩ | ⟨c1, h⟩
    · refine z_icmp_get C 75 c1 d_Pa_nextOnWay_30 (by decide) ?_
      refine z_iconst C (-1 : Int32) (by decide) d_Pa_nextOnWay_75 ?_
      cases h
      exact z_iret C .int hret rfl ⟨Nat.zero_le _, Nat.zero_le _⟩ d_Pa_nextOnWay_76
    · refine z_icmp_gef C 75 c1 d_Pa_nextOnWay_30 (by decide) ?_
      refine z_aload_n C 0 rfl d_Pa_nextOnWay_33 rfl ?_
      refine z_getF2 C 4 (by decide) 2 (by decide) rfl 2 81 rfl (57) rfl zp_55 zk_55 zfl_4_19 d_Pa_nextOnWay_34 ?_
      refine z_iload_n C 1 rfl d_Pa_nextOnWay_37 rfl ?_
      refine z_iload_n C 3 rfl d_Pa_nextOnWay_38 rfl ?_
      obtain ⟨r3, h2, h⟩ := zb1_some h
      refine z_cS C (m_Pa_pair l h2) mf_Pa_pair lk_4_50 st_Pa_pair ⟨rfl, rfl⟩ ⟨by decide, by decide⟩ ⟨Nat.zero_le _, Nat.zero_le _⟩ rfl _ [zr (some 57)] rfl (Nat.le_of_ble_eq_true rfl) d_Pa_nextOnWay_39 ?_
      refine z_fact (fun hSR => ?_)
      obtain ⟨g4, h⟩ := zgd_some h
      refine z_ialoadS C zo_57 zk_57 (za_57 hSR) g4 d_Pa_nextOnWay_42 ?_
      refine z_aload_n C 0 rfl d_Pa_nextOnWay_43 rfl ?_
      refine z_getF2 C 4 (by decide) 3 (by decide) rfl 3 81 rfl (58) rfl zp_55 zk_55 zfl_4_22 d_Pa_nextOnWay_44 ?_
      refine z_iload_n C 3 rfl d_Pa_nextOnWay_47 rfl ?_
      refine z_iload_n C 2 rfl d_Pa_nextOnWay_48 rfl ?_
      obtain ⟨r6, h5, h⟩ := zb1_some h
      refine z_cS C (m_Pa_pair l h5) mf_Pa_pair lk_4_50 st_Pa_pair ⟨rfl, rfl⟩ ⟨by decide, by decide⟩ ⟨Nat.zero_le _, Nat.zero_le _⟩ rfl _ [zr (some 58), zi (zI S 57 r3.toNatClampNeg)] rfl (Nat.le_of_ble_eq_true rfl) d_Pa_nextOnWay_49 ?_
      refine z_fact (fun hSR => ?_)
      obtain ⟨g7, h⟩ := zgd_some h
      refine z_ialoadS C zo_58 zk_58 (za_58 hSR) g7 d_Pa_nextOnWay_52 ?_
      refine z_iadd C d_Pa_nextOnWay_53 ?_
      refine z_aload_n C 0 rfl d_Pa_nextOnWay_54 rfl ?_
      refine z_getF2 C 4 (by decide) 3 (by decide) rfl 3 81 rfl (58) rfl zp_55 zk_55 zfl_4_22 d_Pa_nextOnWay_55 ?_
      refine z_iload_n C 1 rfl d_Pa_nextOnWay_58 rfl ?_
      refine z_iload_n C 2 rfl d_Pa_nextOnWay_59 rfl ?_
      obtain ⟨r9, h8, h⟩ := zb1_some h
      refine z_cS C (m_Pa_pair l h8) mf_Pa_pair lk_4_50 st_Pa_pair ⟨rfl, rfl⟩ ⟨by decide, by decide⟩ ⟨Nat.zero_le _, Nat.zero_le _⟩ rfl _ [zr (some 58), zi ((zI S 57 r3.toNatClampNeg) + (zI S 58 r6.toNatClampNeg))] rfl (Nat.le_of_ble_eq_true rfl) d_Pa_nextOnWay_60 ?_
      refine z_fact (fun hSR => ?_)
      obtain ⟨g10, h⟩ := zgd_some h
      refine z_ialoadS C zo_58 zk_58 (za_58 hSR) g10 d_Pa_nextOnWay_63 ?_
      rcases zite h with ⟨c11, h⟩ | ⟨c11, h⟩
      · refine z_icmp_nef C 69 c11 d_Pa_nextOnWay_64 (by decide) ?_
        refine z_iload_n C 3 rfl d_Pa_nextOnWay_67 rfl ?_
        cases h
        exact z_iret C .int hret rfl ⟨Nat.zero_le _, Nat.zero_le _⟩ d_Pa_nextOnWay_68
      · refine z_icmp_net C 69 c11 d_Pa_nextOnWay_64 (by decide) ?_
        refine z_iinc C 3 (a3 + (1 : Int32)) [(3, zi (a3 + (1 : Int32))), (0, zr (some 55)), (1, zi a1), (2, zi a2)] rfl d_Pa_nextOnWay_69 (by first | rfl | decide) (by decide) rfl ?_
        refine z_goto C 25 d_Pa_nextOnWay_72 (by decide) ?_
        refine zq_lsub [1, 2, 3, 0] [(0, zr (some 55)), (1, zi a1), (2, zi a2), (3, zi (a3 + (1 : Int32)))] rfl ?_
        exact ih a1 a2 (a3 + (1 : Int32)) S h
set_option maxRecDepth 100000 in
set_option maxHeartbeats 4000000 in
theorem m_Pa_nextOnWay (l : Launch) {fu : Nat} {a1 : Int32} {a2 : Int32} {S : zSt} {r : Int32} (h : f_Pa_nextOnWay fu a1 a2 S = some r) : zPM l y_Pa_nextOnWay b_Pa_nextOnWay 4 (some .int) rm_Pa_nextOnWay true true [zr (some 55), zi a1, zi a2] S (some (zi r)) S := by
  refine zPM_of (by decide) (Nat.le_of_ble_eq_true rfl) (fun p e s m args below meth c G C hret hname => ?_)
  unfold f_Pa_nextOnWay at h
  refine (?_ : zJ p l e rm_Pa_nextOnWay s m args below meth c G true 4 0 0 (zQm below G args s rm_Pa_nextOnWay true (some (zi r)) S) S 0 [(0, zr (some 55)), (1, zi a1), (2, zi a2)] [])
  refine z_aload_n C 0 rfl d_Pa_nextOnWay_0 rfl ?_
  refine z_iload_n C 1 rfl d_Pa_nextOnWay_1 rfl ?_
  obtain ⟨r2, h1, h⟩ := zb1_some h
  refine z_cV C 4 (by decide) (m_Pa_has l h1) mf_Pa_has lk_4_61 in_Pa_has se_Pa_has rfl zo_55 zk_55 ⟨rfl, rfl⟩ ⟨by decide, by decide⟩ ⟨Nat.zero_le _, Nat.zero_le _⟩ rfl _ [] rfl (Nat.le_of_ble_eq_true rfl) d_Pa_nextOnWay_2 ?_
  rcases zite h with ⟨c3, h⟩ | ⟨c3, h⟩
  · refine z_if_eqt C 21 c3 d_Pa_nextOnWay_5 (by decide) ?_
    refine z_iconst C (-1 : Int32) (by decide) d_Pa_nextOnWay_21 ?_
    cases h
    exact z_iret C .int hret rfl ⟨Nat.zero_le _, Nat.zero_le _⟩ d_Pa_nextOnWay_22
  · refine z_if_eqf C 21 c3 d_Pa_nextOnWay_5 (by decide) ?_
    refine z_aload_n C 0 rfl d_Pa_nextOnWay_8 rfl ?_
    refine z_iload_n C 2 rfl d_Pa_nextOnWay_9 rfl ?_
    obtain ⟨r5, h4, h⟩ := zb1_some h
    refine z_cV C 4 (by decide) (m_Pa_has l h4) mf_Pa_has lk_4_61 in_Pa_has se_Pa_has rfl zo_55 zk_55 ⟨rfl, rfl⟩ ⟨by decide, by decide⟩ ⟨Nat.zero_le _, Nat.zero_le _⟩ rfl _ [] rfl (Nat.le_of_ble_eq_true rfl) d_Pa_nextOnWay_10 ?_
    rcases zite h with ⟨c6, h⟩ | ⟨c6, h⟩
    · refine z_if_eqt C 21 c6 d_Pa_nextOnWay_13 (by decide) ?_
      refine z_iconst C (-1 : Int32) (by decide) d_Pa_nextOnWay_21 ?_
      cases h
      exact z_iret C .int hret rfl ⟨Nat.zero_le _, Nat.zero_le _⟩ d_Pa_nextOnWay_22
    · refine z_if_eqf C 21 c6 d_Pa_nextOnWay_13 (by decide) ?_
      refine z_iload_n C 1 rfl d_Pa_nextOnWay_16 rfl ?_
      refine z_iload_n C 2 rfl d_Pa_nextOnWay_17 rfl ?_
      rcases zite h with ⟨c7, h⟩ | ⟨c7, h⟩
      · refine z_icmp_nef C 23 c7 d_Pa_nextOnWay_18 (by decide) ?_
        refine z_iconst C (-1 : Int32) (by decide) d_Pa_nextOnWay_21 ?_
        cases h
        exact z_iret C .int hret rfl ⟨Nat.zero_le _, Nat.zero_le _⟩ d_Pa_nextOnWay_22
      · refine z_icmp_net C 23 c7 d_Pa_nextOnWay_18 (by decide) ?_
        refine z_iconst C (0 : Int32) (by decide) d_Pa_nextOnWay_23 ?_
        refine z_istore_n C [(3, zi (0 : Int32)), (0, zr (some 55)), (1, zi a1), (2, zi a2)] d_Pa_nextOnWay_24 rfl (by decide) rfl ?_
        refine zq_lsub [1, 2, 3, 0] [(0, zr (some 55)), (1, zi a1), (2, zi a2), (3, zi (0 : Int32))] rfl ?_
        exact c_Pa_nextOnWay_25 C hret fu  a1 a2 (0 : Int32) S h
def f_Pa_onWay_28 (fu : Nat) : Nat → Int32 → Int32 → Int32 → Int32 → zSt → Option Int32
  | 0, _, _, _, _, _ => none
  | n + 1, a2, a3, a4, a5, S => if a3 ≤ a5 then some a4 else zb1 (f_Pa_nextOnWay fu a4 a2 S) (fun r3 => f_Pa_onWay_28 fu n a2 a3 r3 (a5 + (1 : Int32)) S)
def f_Pa_onWay (fu : Nat) (a1 : Int32) (a2 : Int32) (a3 : Int32) (S : zSt) : Option Int32 := if a3 < 0 then some (-1 : Int32) else if (9 : Int32) ≤ a3 then some (-1 : Int32) else zb1 (f_Pa_soonest a1 a2 S) (fun r4 => if r4 = (-1 : Int32) then some (-1 : Int32) else f_Pa_onWay_28 fu fu a2 a3 a1 (0 : Int32) S)
set_option maxRecDepth 100000 in
set_option maxHeartbeats 4000000 in
theorem c_Pa_onWay_28 {p : Program} {l : Launch} {e : Env} {s : State} {m : MethodId} {args : Array Value} {below : List Frame} {meth : Method} {c : Code} {G : zG} (C : zC p s m args meth c G b_Pa_onWay 6 y_Pa_onWay.cls) (hret : meth.sig.returnType = (some .int)) {fu : Nat} {r : Int32} : ∀ (n : Nat) (a2 : Int32) (a3 : Int32) (a4 : Int32) (a5 : Int32) (S : zSt) , f_Pa_onWay_28 fu n a2 a3 a4 a5 S = some r → zJ p l e rm_Pa_onWay s m args below meth c G true 6 0 0 (zQm below G args s rm_Pa_onWay true (some (zi r)) S) S 28 [(0, zr (some 55)), (2, zi a2), (3, zi a3), (4, zi a4), (5, zi a5)] [] := by
  intro n
  induction n with
  | zero =>
    intro a2 a3 a4 a5 S h
    cases h
  | succ n ih =>
    intro a2 a3 a4 a5 S h
    rw [f_Pa_onWay_28] at h
    refine z_iload C 4 rfl d_Pa_onWay_28 ?_
    refine z_iload_n C 2 rfl d_Pa_onWay_30 rfl ?_
    rcases zite h with ⟨c1, h⟩ | ⟨c1, h⟩
    · refine z_icmp_get C 49 c1 d_Pa_onWay_31 (by decide) ?_
      refine z_iload C 3 rfl d_Pa_onWay_49 ?_
      cases h
      exact z_iret C .int hret rfl ⟨Nat.zero_le _, Nat.zero_le _⟩ d_Pa_onWay_51
    · refine z_icmp_gef C 49 c1 d_Pa_onWay_31 (by decide) ?_
      refine z_aload_n C 0 rfl d_Pa_onWay_34 rfl ?_
      refine z_iload C 3 rfl d_Pa_onWay_35 ?_
      refine z_iload_n C 1 rfl d_Pa_onWay_37 rfl ?_
      obtain ⟨r3, h2, h⟩ := zb1_some h
      refine z_cV C 4 (by decide) (m_Pa_nextOnWay l h2) mf_Pa_nextOnWay lk_4_67 in_Pa_nextOnWay se_Pa_nextOnWay rfl zo_55 zk_55 ⟨rfl, rfl⟩ ⟨by decide, by decide⟩ ⟨Nat.zero_le _, Nat.zero_le _⟩ rfl _ [] rfl (Nat.le_of_ble_eq_true rfl) d_Pa_onWay_38 ?_
      refine z_istore C [(4, zi r3), (0, zr (some 55)), (2, zi a2), (3, zi a3), (5, zi a5)] d_Pa_onWay_41 (by decide) rfl ?_
      refine z_iinc C 4 (a5 + (1 : Int32)) [(5, zi (a5 + (1 : Int32))), (4, zi r3), (0, zr (some 55)), (2, zi a2), (3, zi a3)] rfl d_Pa_onWay_43 (by first | rfl | decide) (by decide) rfl ?_
      refine z_goto C 28 d_Pa_onWay_46 (by decide) ?_
      refine zq_lsub [2, 3, 4, 1, 0] [(0, zr (some 55)), (2, zi a2), (3, zi a3), (4, zi r3), (5, zi (a5 + (1 : Int32)))] rfl ?_
      exact ih a2 a3 r3 (a5 + (1 : Int32)) S h
set_option maxRecDepth 100000 in
set_option maxHeartbeats 4000000 in
theorem m_Pa_onWay (l : Launch) {fu : Nat} {a1 : Int32} {a2 : Int32} {a3 : Int32} {S : zSt} {r : Int32} (h : f_Pa_onWay fu a1 a2 a3 S = some r) : zPM l y_Pa_onWay b_Pa_onWay 6 (some .int) rm_Pa_onWay true true [zr (some 55), zi a1, zi a2, zi a3] S (some (zi r)) S := by
  refine zPM_of (by decide) (Nat.le_of_ble_eq_true rfl) (fun p e s m args below meth c G C hret hname => ?_)
  unfold f_Pa_onWay at h
  refine (?_ : zJ p l e rm_Pa_onWay s m args below meth c G true 6 0 0 (zQm below G args s rm_Pa_onWay true (some (zi r)) S) S 0 [(0, zr (some 55)), (1, zi a1), (2, zi a2), (3, zi a3)] [])
  refine z_iload_n C 3 rfl d_Pa_onWay_0 rfl ?_
  rcases zite h with ⟨c1, h⟩ | ⟨c1, h⟩
  · refine z_if_ltt C 20 c1 d_Pa_onWay_1 (by decide) ?_
    refine z_iconst C (-1 : Int32) (by decide) d_Pa_onWay_20 ?_
    cases h
    exact z_iret C .int hret rfl ⟨Nat.zero_le _, Nat.zero_le _⟩ d_Pa_onWay_21
  · refine z_if_ltf C 20 c1 d_Pa_onWay_1 (by decide) ?_
    refine z_iload_n C 3 rfl d_Pa_onWay_4 rfl ?_
    refine z_bipush C (9 : Int32) (by decide) d_Pa_onWay_5 ?_
    rcases zite h with ⟨c2, h⟩ | ⟨c2, h⟩
    · refine z_icmp_get C 20 c2 d_Pa_onWay_7 (by decide) ?_
      refine z_iconst C (-1 : Int32) (by decide) d_Pa_onWay_20 ?_
      cases h
      exact z_iret C .int hret rfl ⟨Nat.zero_le _, Nat.zero_le _⟩ d_Pa_onWay_21
    · refine z_icmp_gef C 20 c2 d_Pa_onWay_7 (by decide) ?_
      refine z_aload_n C 0 rfl d_Pa_onWay_10 rfl ?_
      refine z_iload_n C 1 rfl d_Pa_onWay_11 rfl ?_
      refine z_iload_n C 2 rfl d_Pa_onWay_12 rfl ?_
      obtain ⟨r4, h3, h⟩ := zb1_some h
      refine z_cV C 4 (by decide) (m_Pa_soonest l h3) mf_Pa_soonest lk_4_64 in_Pa_soonest se_Pa_soonest rfl zo_55 zk_55 ⟨rfl, rfl⟩ ⟨by decide, by decide⟩ ⟨Nat.zero_le _, Nat.zero_le _⟩ rfl _ [] rfl (Nat.le_of_ble_eq_true rfl) d_Pa_onWay_13 ?_
      refine z_iconst C (-1 : Int32) (by decide) d_Pa_onWay_16 ?_
      rcases zite h with ⟨c5, h⟩ | ⟨c5, h⟩
      · refine z_icmp_nef C 22 c5 d_Pa_onWay_17 (by decide) ?_
        refine z_iconst C (-1 : Int32) (by decide) d_Pa_onWay_20 ?_
        cases h
        exact z_iret C .int hret rfl ⟨Nat.zero_le _, Nat.zero_le _⟩ d_Pa_onWay_21
      · refine z_icmp_net C 22 c5 d_Pa_onWay_17 (by decide) ?_
        refine z_iload_n C 1 rfl d_Pa_onWay_22 rfl ?_
        refine z_istore C [(4, zi a1), (0, zr (some 55)), (1, zi a1), (2, zi a2), (3, zi a3)] d_Pa_onWay_23 (by decide) rfl ?_
        refine z_iconst C (0 : Int32) (by decide) d_Pa_onWay_25 ?_
        refine z_istore C [(5, zi (0 : Int32)), (4, zi a1), (0, zr (some 55)), (1, zi a1), (2, zi a2), (3, zi a3)] d_Pa_onWay_26 (by decide) rfl ?_
        refine zq_lsub [2, 4, 5, 1, 0] [(0, zr (some 55)), (2, zi a2), (3, zi a3), (4, zi a1), (5, zi (0 : Int32))] rfl ?_
        exact c_Pa_onWay_28 C hret fu  a2 a3 a1 (0 : Int32) S h
def f_E_way (fu : Nat) (a1 : Int32) (a2 : Int32) (a3 : Int32) (S : zSt) : Option (Int32 × zSt) := zb1 (f_E_fillPaper fu S) (fun S2 => zb1 (f_Pa_onWay fu a1 a2 a3 S2) (fun r4 => some (r4, S2)))
set_option maxRecDepth 100000 in
set_option maxHeartbeats 4000000 in
theorem m_E_way (l : Launch) {fu : Nat} {a1 : Int32} {a2 : Int32} {a3 : Int32} {S : zSt} {r : Int32} {S1 : zSt} (h : f_E_way fu a1 a2 a3 S = some (r, S1)) : zPM l y_E_way b_E_way 4 (some .int) rm_E_way true true [zr (some 0), zi a1, zi a2, zi a3] S (some (zi r)) S1 := by
  refine zPM_of (by decide) (Nat.le_of_ble_eq_true rfl) (fun p e s m args below meth c G C hret hname => ?_)
  unfold f_E_way at h
  refine (?_ : zJ p l e rm_E_way s m args below meth c G true 4 0 0 (zQm below G args s rm_E_way true (some (zi r)) S1) S 0 [(0, zr (some 0)), (1, zi a1), (2, zi a2), (3, zi a3)] [])
  refine z_aload_n C 0 rfl d_E_way_0 rfl ?_
  obtain ⟨S2, h1, h⟩ := zb1_some h
  refine z_cV C 0 (by decide) (m_E_fillPaper l h1) mf_E_fillPaper lk_0_226 in_E_fillPaper se_E_fillPaper rfl zo_0 zk_0 ⟨rfl, rfl⟩ ⟨by decide, by decide⟩ ⟨Nat.zero_le _, Nat.zero_le _⟩ rfl _ [] rfl (Nat.le_of_ble_eq_true rfl) d_E_way_1 ?_
  refine z_aload_n C 0 rfl d_E_way_4 rfl ?_
  refine z_getF2 C 0 (by decide) 9 (by decide) rfl 55 0 rfl (55) rfl zp_0 zk_0 zfl_0_60 d_E_way_5 ?_
  refine z_iload_n C 1 rfl d_E_way_8 rfl ?_
  refine z_iload_n C 2 rfl d_E_way_9 rfl ?_
  refine z_iload_n C 3 rfl d_E_way_10 rfl ?_
  obtain ⟨r4, h3, h⟩ := zb1_some h
  refine z_cV C 4 (by decide) (m_Pa_onWay l h3) mf_Pa_onWay lk_0_232 in_Pa_onWay se_Pa_onWay rfl zo_55 zk_55 ⟨rfl, rfl⟩ ⟨by decide, by decide⟩ ⟨Nat.zero_le _, Nat.zero_le _⟩ rfl _ [] rfl (Nat.le_of_ble_eq_true rfl) d_E_way_11 ?_
  cases h
  exact z_iret C .int hret rfl ⟨Nat.zero_le _, Nat.zero_le _⟩ d_E_way_14

/-! printed by dec4.py: 2e.model -/
abbrev rm_M_years : Room := { frames := 141, cells := 0, slots := 0, locals := 3672 }
abbrev rm_M_drawn : Room := { frames := 2, cells := 0, slots := 0, locals := 86 }
abbrev rm_M_count : Room := { frames := 5, cells := 0, slots := 0, locals := 151 }
abbrev rm_M_status : Room := { frames := 1, cells := 0, slots := 0, locals := 64 }
def y_M_years : MethodName := ⟨zNm 11, "years", "(II)I"⟩
abbrev b_M_years : ByteArray := prog_13_method_133_code
theorem d_M_years_0 : decode b_M_years 0 = .ok (.iload_n 1, 1) := by decide +kernel
theorem d_M_years_1 : decode b_M_years 1 = .ok (.iconst 0, 1) := by decide +kernel
theorem d_M_years_2 : decode b_M_years 2 = .ok (.ldc 177, 2) := by decide +kernel
theorem d_M_years_4 : decode b_M_years 4 = .ok (.invokestatic 108, 3) := by decide +kernel
theorem d_M_years_7 : decode b_M_years 7 = .ok (.ifCond .eq 13, 3) := by decide +kernel
theorem d_M_years_10 : decode b_M_years 10 = .ok (.iload_n 2, 1) := by decide +kernel
theorem d_M_years_11 : decode b_M_years 11 = .ok (.iconst 1, 1) := by decide +kernel
theorem d_M_years_12 : decode b_M_years 12 = .ok (.bipush 60, 2) := by decide +kernel
theorem d_M_years_14 : decode b_M_years 14 = .ok (.invokestatic 108, 3) := by decide +kernel
theorem d_M_years_17 : decode b_M_years 17 = .ok (.ifCond .ne 9, 3) := by decide +kernel
theorem d_M_years_20 : decode b_M_years 20 = .ok (.aload_n 0, 1) := by decide +kernel
theorem d_M_years_21 : decode b_M_years 21 = .ok (.iconst (-1), 1) := by decide +kernel
theorem d_M_years_22 : decode b_M_years 22 = .ok (.invokevirtual 112, 3) := by decide +kernel
theorem d_M_years_25 : decode b_M_years 25 = .ok (.ireturn, 1) := by decide +kernel
theorem d_M_years_26 : decode b_M_years 26 = .ok (.aload_n 0, 1) := by decide +kernel
theorem d_M_years_27 : decode b_M_years 27 = .ok (.invokevirtual 118, 3) := by decide +kernel
theorem d_M_years_30 : decode b_M_years 30 = .ok (.ifCond .ne 10, 3) := by decide +kernel
theorem d_M_years_33 : decode b_M_years 33 = .ok (.aload_n 0, 1) := by decide +kernel
theorem d_M_years_34 : decode b_M_years 34 = .ok (.bipush (-3), 2) := by decide +kernel
theorem d_M_years_36 : decode b_M_years 36 = .ok (.invokevirtual 112, 3) := by decide +kernel
theorem d_M_years_39 : decode b_M_years 39 = .ok (.ireturn, 1) := by decide +kernel
theorem d_M_years_40 : decode b_M_years 40 = .ok (.aload_n 0, 1) := by decide +kernel
theorem d_M_years_41 : decode b_M_years 41 = .ok (.iload_n 1, 1) := by decide +kernel
theorem d_M_years_42 : decode b_M_years 42 = .ok (.putfield 478, 3) := by decide +kernel
theorem d_M_years_45 : decode b_M_years 45 = .ok (.aload_n 0, 1) := by decide +kernel
theorem d_M_years_46 : decode b_M_years 46 = .ok (.aload_n 0, 1) := by decide +kernel
theorem d_M_years_47 : decode b_M_years 47 = .ok (.invokevirtual 118, 3) := by decide +kernel
theorem d_M_years_50 : decode b_M_years 50 = .ok (.putfield 105, 3) := by decide +kernel
theorem d_M_years_53 : decode b_M_years 53 = .ok (.aload_n 0, 1) := by decide +kernel
theorem d_M_years_54 : decode b_M_years 54 = .ok (.iconst 0, 1) := by decide +kernel
theorem d_M_years_55 : decode b_M_years 55 = .ok (.invokevirtual 436, 3) := by decide +kernel
theorem d_M_years_58 : decode b_M_years 58 = .ok (.iconst 0, 1) := by decide +kernel
theorem d_M_years_59 : decode b_M_years 59 = .ok (.istore_n 3, 1) := by decide +kernel
theorem d_M_years_60 : decode b_M_years 60 = .ok (.iconst 0, 1) := by decide +kernel
theorem d_M_years_61 : decode b_M_years 61 = .ok (.istore 4, 2) := by decide +kernel
theorem d_M_years_63 : decode b_M_years 63 = .ok (.iload 4, 2) := by decide +kernel
theorem d_M_years_65 : decode b_M_years 65 = .ok (.iload_n 2, 1) := by decide +kernel
theorem d_M_years_66 : decode b_M_years 66 = .ok (.if_icmp .ge 34, 3) := by decide +kernel
theorem d_M_years_69 : decode b_M_years 69 = .ok (.aload_n 0, 1) := by decide +kernel
theorem d_M_years_70 : decode b_M_years 70 = .ok (.getfield 24, 3) := by decide +kernel
theorem d_M_years_73 : decode b_M_years 73 = .ok (.bipush 91, 2) := by decide +kernel
theorem d_M_years_75 : decode b_M_years 75 = .ok (.iaload, 1) := by decide +kernel
theorem d_M_years_76 : decode b_M_years 76 = .ok (.sipush 999, 3) := by decide +kernel
theorem d_M_years_79 : decode b_M_years 79 = .ok (.if_icmp .ge 21, 3) := by decide +kernel
theorem d_M_years_82 : decode b_M_years 82 = .ok (.iload_n 3, 1) := by decide +kernel
theorem d_M_years_83 : decode b_M_years 83 = .ok (.aload_n 0, 1) := by decide +kernel
theorem d_M_years_84 : decode b_M_years 84 = .ok (.invokevirtual 488, 3) := by decide +kernel
theorem d_M_years_87 : decode b_M_years 87 = .ok (.iadd, 1) := by decide +kernel
theorem d_M_years_88 : decode b_M_years 88 = .ok (.istore_n 3, 1) := by decide +kernel
theorem d_M_years_89 : decode b_M_years 89 = .ok (.aload_n 0, 1) := by decide +kernel
theorem d_M_years_90 : decode b_M_years 90 = .ok (.invokevirtual 354, 3) := by decide +kernel
theorem d_M_years_93 : decode b_M_years 93 = .ok (.pop, 1) := by decide +kernel
theorem d_M_years_94 : decode b_M_years 94 = .ok (.iinc 4 1, 3) := by decide +kernel
theorem d_M_years_97 : decode b_M_years 97 = .ok (.goto (-34), 3) := by decide +kernel
theorem d_M_years_100 : decode b_M_years 100 = .ok (.iconst 0, 1) := by decide +kernel
theorem d_M_years_101 : decode b_M_years 101 = .ok (.istore 4, 2) := by decide +kernel
theorem d_M_years_103 : decode b_M_years 103 = .ok (.iload 4, 2) := by decide +kernel
theorem d_M_years_105 : decode b_M_years 105 = .ok (.bipush 92, 2) := by decide +kernel
theorem d_M_years_107 : decode b_M_years 107 = .ok (.if_icmp .ge 23, 3) := by decide +kernel
theorem d_M_years_110 : decode b_M_years 110 = .ok (.aload_n 0, 1) := by decide +kernel
theorem d_M_years_111 : decode b_M_years 111 = .ok (.getfield 102, 3) := by decide +kernel
theorem d_M_years_114 : decode b_M_years 114 = .ok (.iload 4, 2) := by decide +kernel
theorem d_M_years_116 : decode b_M_years 116 = .ok (.aload_n 0, 1) := by decide +kernel
theorem d_M_years_117 : decode b_M_years 117 = .ok (.getfield 24, 3) := by decide +kernel
theorem d_M_years_120 : decode b_M_years 120 = .ok (.iload 4, 2) := by decide +kernel
theorem d_M_years_122 : decode b_M_years 122 = .ok (.iaload, 1) := by decide +kernel
theorem d_M_years_123 : decode b_M_years 123 = .ok (.iastore, 1) := by decide +kernel
theorem d_M_years_124 : decode b_M_years 124 = .ok (.iinc 4 1, 3) := by decide +kernel
theorem d_M_years_127 : decode b_M_years 127 = .ok (.goto (-24), 3) := by decide +kernel
theorem d_M_years_130 : decode b_M_years 130 = .ok (.aload_n 0, 1) := by decide +kernel
theorem d_M_years_131 : decode b_M_years 131 = .ok (.iconst 0, 1) := by decide +kernel
theorem d_M_years_132 : decode b_M_years 132 = .ok (.invokevirtual 445, 3) := by decide +kernel
theorem d_M_years_135 : decode b_M_years 135 = .ok (.aload_n 0, 1) := by decide +kernel
theorem d_M_years_136 : decode b_M_years 136 = .ok (.iload_n 3, 1) := by decide +kernel
theorem d_M_years_137 : decode b_M_years 137 = .ok (.invokevirtual 14, 3) := by decide +kernel
theorem d_M_years_140 : decode b_M_years 140 = .ok (.ireturn, 1) := by decide +kernel
theorem mf_M_years : zMF y_M_years b_M_years 5 (some .int) 2 := ⟨zGW_in 1949 (by decide +kernel) (by decide +kernel), zGW_in 135 (by decide +kernel) (by decide +kernel), by decide +kernel⟩
theorem in_M_years : Cond.instanceMethod y_M_years ∈ zGW := zGW_in 1947 (by decide +kernel) (by decide +kernel)
theorem se_M_years : Cond.selects y_M_years.cls y_M_years y_M_years ∈ zGW := zGW_in 1948 (by decide +kernel) (by decide +kernel)
def y_M_drawn : MethodName := ⟨zNm 11, "drawn", "(II)I"⟩
abbrev b_M_drawn : ByteArray := prog_13_method_134_code
theorem d_M_drawn_0 : decode b_M_drawn 0 = .ok (.iload_n 1, 1) := by decide +kernel
theorem d_M_drawn_1 : decode b_M_drawn 1 = .ok (.iconst 0, 1) := by decide +kernel
theorem d_M_drawn_2 : decode b_M_drawn 2 = .ok (.aload_n 0, 1) := by decide +kernel
theorem d_M_drawn_3 : decode b_M_drawn 3 = .ok (.getfield 105, 3) := by decide +kernel
theorem d_M_drawn_6 : decode b_M_drawn 6 = .ok (.iconst 1, 1) := by decide +kernel
theorem d_M_drawn_7 : decode b_M_drawn 7 = .ok (.isub, 1) := by decide +kernel
theorem d_M_drawn_8 : decode b_M_drawn 8 = .ok (.invokestatic 108, 3) := by decide +kernel
theorem d_M_drawn_11 : decode b_M_drawn 11 = .ok (.ifCond .eq 12, 3) := by decide +kernel
theorem d_M_drawn_14 : decode b_M_drawn 14 = .ok (.iload_n 2, 1) := by decide +kernel
theorem d_M_drawn_15 : decode b_M_drawn 15 = .ok (.iconst 0, 1) := by decide +kernel
theorem d_M_drawn_16 : decode b_M_drawn 16 = .ok (.iconst 1, 1) := by decide +kernel
theorem d_M_drawn_17 : decode b_M_drawn 17 = .ok (.invokestatic 108, 3) := by decide +kernel
theorem d_M_drawn_20 : decode b_M_drawn 20 = .ok (.ifCond .ne 5, 3) := by decide +kernel
theorem d_M_drawn_23 : decode b_M_drawn 23 = .ok (.iconst (-1), 1) := by decide +kernel
theorem d_M_drawn_24 : decode b_M_drawn 24 = .ok (.ireturn, 1) := by decide +kernel
theorem d_M_drawn_25 : decode b_M_drawn 25 = .ok (.iload_n 2, 1) := by decide +kernel
theorem d_M_drawn_26 : decode b_M_drawn 26 = .ok (.ifCond .ne 14, 3) := by decide +kernel
theorem d_M_drawn_29 : decode b_M_drawn 29 = .ok (.aload_n 0, 1) := by decide +kernel
theorem d_M_drawn_30 : decode b_M_drawn 30 = .ok (.getfield 102, 3) := by decide +kernel
theorem d_M_drawn_33 : decode b_M_drawn 33 = .ok (.iconst 1, 1) := by decide +kernel
theorem d_M_drawn_34 : decode b_M_drawn 34 = .ok (.iload_n 1, 1) := by decide +kernel
theorem d_M_drawn_35 : decode b_M_drawn 35 = .ok (.iadd, 1) := by decide +kernel
theorem d_M_drawn_36 : decode b_M_drawn 36 = .ok (.iaload, 1) := by decide +kernel
theorem d_M_drawn_37 : decode b_M_drawn 37 = .ok (.goto 18, 3) := by decide +kernel
theorem d_M_drawn_40 : decode b_M_drawn 40 = .ok (.aload_n 0, 1) := by decide +kernel
theorem d_M_drawn_41 : decode b_M_drawn 41 = .ok (.getfield 102, 3) := by decide +kernel
theorem d_M_drawn_44 : decode b_M_drawn 44 = .ok (.iconst 0, 1) := by decide +kernel
theorem d_M_drawn_45 : decode b_M_drawn 45 = .ok (.iaload, 1) := by decide +kernel
theorem d_M_drawn_46 : decode b_M_drawn 46 = .ok (.iload_n 1, 1) := by decide +kernel
theorem d_M_drawn_47 : decode b_M_drawn 47 = .ok (.if_icmp .ne 7, 3) := by decide +kernel
theorem d_M_drawn_50 : decode b_M_drawn 50 = .ok (.iconst 1, 1) := by decide +kernel
theorem d_M_drawn_51 : decode b_M_drawn 51 = .ok (.goto 4, 3) := by decide +kernel
theorem d_M_drawn_54 : decode b_M_drawn 54 = .ok (.iconst 0, 1) := by decide +kernel
theorem d_M_drawn_55 : decode b_M_drawn 55 = .ok (.ireturn, 1) := by decide +kernel
theorem mf_M_drawn : zMF y_M_drawn b_M_drawn 3 (some .int) 2 := ⟨zGW_in 1964 (by decide +kernel) (by decide +kernel), zGW_in 135 (by decide +kernel) (by decide +kernel), by decide +kernel⟩
theorem in_M_drawn : Cond.instanceMethod y_M_drawn ∈ zGW := zGW_in 1962 (by decide +kernel) (by decide +kernel)
theorem se_M_drawn : Cond.selects y_M_drawn.cls y_M_drawn y_M_drawn ∈ zGW := zGW_in 1963 (by decide +kernel) (by decide +kernel)
def y_M_count : MethodName := ⟨zNm 11, "count", "(I)I"⟩
abbrev b_M_count : ByteArray := prog_13_method_135_code
theorem d_M_count_0 : decode b_M_count 0 = .ok (.iload_n 1, 1) := by decide +kernel
theorem d_M_count_1 : decode b_M_count 1 = .ok (.tableswitch 181 0 16 #[83, 88, 95, 101, 106, 115, 124, 129, 134, 134, 134, 144, 151, 159, 168, 168, 168], 83) := by decide +kernel
theorem d_M_count_84 : decode b_M_count 84 = .ok (.aload_n 0, 1) := by decide +kernel
theorem d_M_count_85 : decode b_M_count 85 = .ok (.invokevirtual 118, 3) := by decide +kernel
theorem d_M_count_88 : decode b_M_count 88 = .ok (.ireturn, 1) := by decide +kernel
theorem d_M_count_89 : decode b_M_count 89 = .ok (.aload_n 0, 1) := by decide +kernel
theorem d_M_count_90 : decode b_M_count 90 = .ok (.getfield 24, 3) := by decide +kernel
theorem d_M_count_93 : decode b_M_count 93 = .ok (.iconst 0, 1) := by decide +kernel
theorem d_M_count_94 : decode b_M_count 94 = .ok (.iaload, 1) := by decide +kernel
theorem d_M_count_95 : decode b_M_count 95 = .ok (.ireturn, 1) := by decide +kernel
theorem d_M_count_96 : decode b_M_count 96 = .ok (.aload_n 0, 1) := by decide +kernel
theorem d_M_count_97 : decode b_M_count 97 = .ok (.iconst 0, 1) := by decide +kernel
theorem d_M_count_98 : decode b_M_count 98 = .ok (.invokevirtual 341, 3) := by decide +kernel
theorem d_M_count_101 : decode b_M_count 101 = .ok (.ireturn, 1) := by decide +kernel
theorem d_M_count_102 : decode b_M_count 102 = .ok (.aload_n 0, 1) := by decide +kernel
theorem d_M_count_103 : decode b_M_count 103 = .ok (.invokevirtual 310, 3) := by decide +kernel
theorem d_M_count_106 : decode b_M_count 106 = .ok (.ireturn, 1) := by decide +kernel
theorem d_M_count_107 : decode b_M_count 107 = .ok (.aload_n 0, 1) := by decide +kernel
theorem d_M_count_108 : decode b_M_count 108 = .ok (.getfield 24, 3) := by decide +kernel
theorem d_M_count_111 : decode b_M_count 111 = .ok (.sipush 197, 3) := by decide +kernel
theorem d_M_count_114 : decode b_M_count 114 = .ok (.iaload, 1) := by decide +kernel
theorem d_M_count_115 : decode b_M_count 115 = .ok (.ireturn, 1) := by decide +kernel
theorem d_M_count_116 : decode b_M_count 116 = .ok (.aload_n 0, 1) := by decide +kernel
theorem d_M_count_117 : decode b_M_count 117 = .ok (.getfield 24, 3) := by decide +kernel
theorem d_M_count_120 : decode b_M_count 120 = .ok (.sipush 198, 3) := by decide +kernel
theorem d_M_count_123 : decode b_M_count 123 = .ok (.iaload, 1) := by decide +kernel
theorem d_M_count_124 : decode b_M_count 124 = .ok (.ireturn, 1) := by decide +kernel
theorem d_M_count_125 : decode b_M_count 125 = .ok (.aload_n 0, 1) := by decide +kernel
theorem d_M_count_126 : decode b_M_count 126 = .ok (.getfield 11, 3) := by decide +kernel
theorem d_M_count_129 : decode b_M_count 129 = .ok (.ireturn, 1) := by decide +kernel
theorem d_M_count_130 : decode b_M_count 130 = .ok (.aload_n 0, 1) := by decide +kernel
theorem d_M_count_131 : decode b_M_count 131 = .ok (.getfield 159, 3) := by decide +kernel
theorem d_M_count_134 : decode b_M_count 134 = .ok (.ireturn, 1) := by decide +kernel
theorem d_M_count_135 : decode b_M_count 135 = .ok (.aload_n 0, 1) := by decide +kernel
theorem d_M_count_136 : decode b_M_count 136 = .ok (.getfield 7, 3) := by decide +kernel
theorem d_M_count_139 : decode b_M_count 139 = .ok (.iload_n 1, 1) := by decide +kernel
theorem d_M_count_140 : decode b_M_count 140 = .ok (.bipush 7, 2) := by decide +kernel
theorem d_M_count_142 : decode b_M_count 142 = .ok (.isub, 1) := by decide +kernel
theorem d_M_count_143 : decode b_M_count 143 = .ok (.iaload, 1) := by decide +kernel
theorem d_M_count_144 : decode b_M_count 144 = .ok (.ireturn, 1) := by decide +kernel
theorem d_M_count_145 : decode b_M_count 145 = .ok (.aload_n 0, 1) := by decide +kernel
theorem d_M_count_146 : decode b_M_count 146 = .ok (.getfield 7, 3) := by decide +kernel
theorem d_M_count_149 : decode b_M_count 149 = .ok (.iconst 5, 1) := by decide +kernel
theorem d_M_count_150 : decode b_M_count 150 = .ok (.iaload, 1) := by decide +kernel
theorem d_M_count_151 : decode b_M_count 151 = .ok (.ireturn, 1) := by decide +kernel
theorem d_M_count_152 : decode b_M_count 152 = .ok (.aload_n 0, 1) := by decide +kernel
theorem d_M_count_153 : decode b_M_count 153 = .ok (.getfield 7, 3) := by decide +kernel
theorem d_M_count_156 : decode b_M_count 156 = .ok (.bipush 6, 2) := by decide +kernel
theorem d_M_count_158 : decode b_M_count 158 = .ok (.iaload, 1) := by decide +kernel
theorem d_M_count_159 : decode b_M_count 159 = .ok (.ireturn, 1) := by decide +kernel
theorem d_M_count_160 : decode b_M_count 160 = .ok (.aload_n 0, 1) := by decide +kernel
theorem d_M_count_161 : decode b_M_count 161 = .ok (.getfield 24, 3) := by decide +kernel
theorem d_M_count_164 : decode b_M_count 164 = .ok (.sipush 199, 3) := by decide +kernel
theorem d_M_count_167 : decode b_M_count 167 = .ok (.iaload, 1) := by decide +kernel
theorem d_M_count_168 : decode b_M_count 168 = .ok (.ireturn, 1) := by decide +kernel
theorem d_M_count_169 : decode b_M_count 169 = .ok (.aload_n 0, 1) := by decide +kernel
theorem d_M_count_170 : decode b_M_count 170 = .ok (.getfield 24, 3) := by decide +kernel
theorem d_M_count_173 : decode b_M_count 173 = .ok (.iload_n 1, 1) := by decide +kernel
theorem d_M_count_174 : decode b_M_count 174 = .ok (.bipush 14, 2) := by decide +kernel
theorem d_M_count_176 : decode b_M_count 176 = .ok (.isub, 1) := by decide +kernel
theorem d_M_count_177 : decode b_M_count 177 = .ok (.invokestatic 156, 3) := by decide +kernel
theorem d_M_count_180 : decode b_M_count 180 = .ok (.iaload, 1) := by decide +kernel
theorem d_M_count_181 : decode b_M_count 181 = .ok (.ireturn, 1) := by decide +kernel
theorem d_M_count_182 : decode b_M_count 182 = .ok (.iconst (-1), 1) := by decide +kernel
theorem d_M_count_183 : decode b_M_count 183 = .ok (.ireturn, 1) := by decide +kernel
theorem mf_M_count : zMF y_M_count b_M_count 2 (some .int) 1 := ⟨zGW_in 1968 (by decide +kernel) (by decide +kernel), zGW_in 135 (by decide +kernel) (by decide +kernel), by decide +kernel⟩
theorem in_M_count : Cond.instanceMethod y_M_count ∈ zGW := zGW_in 1966 (by decide +kernel) (by decide +kernel)
theorem se_M_count : Cond.selects y_M_count.cls y_M_count y_M_count ∈ zGW := zGW_in 1967 (by decide +kernel) (by decide +kernel)
def y_M_status : MethodName := ⟨zNm 11, "status", "()I"⟩
abbrev b_M_status : ByteArray := prog_13_method_136_code
theorem d_M_status_0 : decode b_M_status 0 = .ok (.aload_n 0, 1) := by decide +kernel
theorem d_M_status_1 : decode b_M_status 1 = .ok (.getfield 3, 3) := by decide +kernel
theorem d_M_status_4 : decode b_M_status 4 = .ok (.ireturn, 1) := by decide +kernel
theorem mf_M_status : zMF y_M_status b_M_status 1 (some .int) 0 := ⟨zGW_in 1972 (by decide +kernel) (by decide +kernel), zGW_in 135 (by decide +kernel) (by decide +kernel), by decide +kernel⟩
theorem in_M_status : Cond.instanceMethod y_M_status ∈ zGW := zGW_in 1970 (by decide +kernel) (by decide +kernel)
theorem se_M_status : Cond.selects y_M_status.cls y_M_status y_M_status ∈ zGW := zGW_in 1971 (by decide +kernel) (by decide +kernel)
theorem lk_11_488 : Cond.methodLink (zNm 11) 488 y_M_drawnAct ∈ zGW := zGW_in 1950 (by decide +kernel) (by decide +kernel)
def f_M_years_130 (fu : Nat) (a3 : Int32) (S : zSt) : Option (Int32 × zSt) := zb1 (f_M_takesBack fu (0 : Int32) S) (fun S2 => zb2 (f_M_good a3 S2) (fun r4 S5 => some (r4, S5)))
def f_M_years_103 (fu : Nat) : Nat → Int32 → Int32 → zSt → Option (Int32 × zSt)
  | 0, _, _, _ => none
  | n + 1, a3, a4, S => if (92 : Int32) ≤ a4 then f_M_years_130 fu a3 S else zgd (0 ≤ a4 ∧ a4.toNatClampNeg < 5807) (zgd (0 ≤ a4 ∧ a4.toNatClampNeg < 92) (f_M_years_103 fu n a3 (a4 + (1 : Int32)) (zwI S 97 a4.toNatClampNeg (zI S 74 a4.toNatClampNeg))))
def f_M_years_63 (fu : Nat) : Nat → Int32 → Int32 → Int32 → zSt → Option (Int32 × zSt)
  | 0, _, _, _, _ => none
  | n + 1, a2, a3, a4, S => if a2 ≤ a4 then f_M_years_103 fu fu a3 (0 : Int32) S else if (999 : Int32) ≤ (zI S 74 (91 : Int32).toNatClampNeg) then f_M_years_103 fu fu a3 (0 : Int32) S else zb2 (f_M_drawnAct fu S) (fun r4 S5 => zb2 (f_M_dayPasses fu S5) (fun r7 S8 => f_M_years_63 fu n a2 (a3 + r4) (a4 + (1 : Int32)) S8))
def f_M_years (fu : Nat) (a1 : Int32) (a2 : Int32) (S : zSt) : Option (Int32 × zSt) := zb1 (f_M_lies a1 (0 : Int32) (1000000 : Int32)) (fun r2 => if r2 = 0 then zb2 (f_M_refuses (-1 : Int32) S) (fun r5 S6 => some (r5, S6)) else zb1 (f_M_lies a2 (1 : Int32) (60 : Int32)) (fun r8 => if r8 = 0 then zb2 (f_M_refuses (-1 : Int32) S) (fun r21 S22 => some (r21, S22)) else zb1 (f_M_springMany S) (fun r11 => if r11 = 0 then zb2 (f_M_refuses (-3 : Int32) S) (fun r18 S19 => some (r18, S19)) else zb1 (f_M_springMany (zwI S 72 50 a1)) (fun r14 => zb1 (f_M_laysAside fu (0 : Int32) (zwI (zwI S 72 50 a1) 72 49 r14)) (fun S16 => f_M_years_63 fu fu a2 (0 : Int32) (0 : Int32) S16)))))
set_option maxRecDepth 100000 in
set_option maxHeartbeats 4000000 in
theorem c_M_years_130 {p : Program} {l : Launch} {e : Env} {s : State} {m : MethodId} {args : Array Value} {below : List Frame} {meth : Method} {c : Code} {G : zG} (C : zC p s m args meth c G b_M_years 5 y_M_years.cls) (hret : meth.sig.returnType = (some .int)) {fu : Nat} {r : Int32} {S1 : zSt} : ∀ (a3 : Int32) (S : zSt) , f_M_years_130 fu a3 S = some (r, S1) → zJ p l e rm_M_years s m args below meth c G true 5 0 0 (zQm below G args s rm_M_years true (some (zi r)) S1) S 130 [(0, zr (some 72)), (3, zi a3)] [] := by
  intro a3 S h
  unfold f_M_years_130 at h
  refine z_aload_n C 0 rfl d_M_years_130 rfl ?_
  refine z_iconst C (0 : Int32) (by decide) d_M_years_131 ?_
  obtain ⟨S2, h1, h⟩ := zb1_some h
  refine z_cV C 11 (by decide) (m_M_takesBack l h1) mf_M_takesBack lk_11_445 in_M_takesBack se_M_takesBack rfl zo_72 zk_72 ⟨rfl, rfl⟩ ⟨by decide, by decide⟩ ⟨Nat.zero_le _, Nat.zero_le _⟩ rfl _ [] rfl (Nat.le_of_ble_eq_true rfl) d_M_years_132 ?_
  refine z_aload_n C 0 rfl d_M_years_135 rfl ?_
  refine z_iload_n C 1 rfl d_M_years_136 rfl ?_
  obtain ⟨r4, S5, h3, h⟩ := zb2_some h
  refine z_cV C 11 (by decide) (m_M_good l h3) mf_M_good lk_11_14 in_M_good se_M_good rfl zo_72 zk_72 ⟨rfl, rfl⟩ ⟨by decide, by decide⟩ ⟨Nat.zero_le _, Nat.zero_le _⟩ rfl _ [] rfl (Nat.le_of_ble_eq_true rfl) d_M_years_137 ?_
  cases h
  exact z_iret C .int hret rfl ⟨Nat.zero_le _, Nat.zero_le _⟩ d_M_years_140
set_option maxRecDepth 100000 in
set_option maxHeartbeats 4000000 in
theorem c_M_years_103 {p : Program} {l : Launch} {e : Env} {s : State} {m : MethodId} {args : Array Value} {below : List Frame} {meth : Method} {c : Code} {G : zG} (C : zC p s m args meth c G b_M_years 5 y_M_years.cls) (hret : meth.sig.returnType = (some .int)) {fu : Nat} {r : Int32} {S1 : zSt} : ∀ (n : Nat) (a3 : Int32) (a4 : Int32) (S : zSt) , f_M_years_103 fu n a3 a4 S = some (r, S1) → zJ p l e rm_M_years s m args below meth c G true 5 0 0 (zQm below G args s rm_M_years true (some (zi r)) S1) S 103 [(0, zr (some 72)), (3, zi a3), (4, zi a4)] [] := by
  intro n
  induction n with
  | zero =>
    intro a3 a4 S h
    cases h
  | succ n ih =>
    intro a3 a4 S h
    rw [f_M_years_103] at h
    refine z_iload C 2 rfl d_M_years_103 ?_
    refine z_bipush C (92 : Int32) (by decide) d_M_years_105 ?_
    rcases zite h with ⟨c1, h⟩ | ⟨c1, h⟩
    · refine z_icmp_get C 130 c1 d_M_years_107 (by decide) ?_
      refine zq_lsub [0, 1] [(0, zr (some 72)), (3, zi a3)] rfl ?_
      exact c_M_years_130 C hret  a3 S h
    · refine z_icmp_gef C 130 c1 d_M_years_107 (by decide) ?_
      refine z_aload_n C 0 rfl d_M_years_110 rfl ?_
      refine z_getF2 C 11 (by decide) 48 (by decide) rfl 25 92 rfl (97) rfl zp_72 zk_72 zfl_11_102 d_M_years_111 ?_
      refine z_iload C 2 rfl d_M_years_114 ?_
      refine z_aload_n C 0 rfl d_M_years_116 rfl ?_
      refine z_getF2 C 11 (by decide) 2 (by decide) rfl 2 5807 rfl (74) rfl zp_72 zk_72 zfl_11_24 d_M_years_117 ?_
      refine z_iload C 2 rfl d_M_years_120 ?_
      refine z_fact (fun hSR => ?_)
      obtain ⟨g2, h⟩ := zgd_some h
      refine z_ialoadS C zo_74 zk_74 (za_74 hSR) g2 d_M_years_122 ?_
      refine z_fact (fun hSR => ?_)
      obtain ⟨g3, h⟩ := zgd_some h
      refine z_iastoreS C zo_97 zk_97 (za_97 hSR) g3 d_M_years_123 ?_
      refine z_iinc C 2 (a4 + (1 : Int32)) [(4, zi (a4 + (1 : Int32))), (0, zr (some 72)), (3, zi a3)] rfl d_M_years_124 (by first | rfl | decide) (by decide) rfl ?_
      refine z_goto C 103 d_M_years_127 (by decide) ?_
      refine zq_lsub [1, 2, 0] [(0, zr (some 72)), (3, zi a3), (4, zi (a4 + (1 : Int32)))] rfl ?_
      exact ih a3 (a4 + (1 : Int32)) (zwI S 97 a4.toNatClampNeg (zI S 74 a4.toNatClampNeg)) h
set_option maxRecDepth 100000 in
set_option maxHeartbeats 4000000 in
theorem c_M_years_63 {p : Program} {l : Launch} {e : Env} {s : State} {m : MethodId} {args : Array Value} {below : List Frame} {meth : Method} {c : Code} {G : zG} (C : zC p s m args meth c G b_M_years 5 y_M_years.cls) (hret : meth.sig.returnType = (some .int)) {fu : Nat} {r : Int32} {S1 : zSt} : ∀ (n : Nat) (a2 : Int32) (a3 : Int32) (a4 : Int32) (S : zSt) , f_M_years_63 fu n a2 a3 a4 S = some (r, S1) → zJ p l e rm_M_years s m args below meth c G true 5 0 0 (zQm below G args s rm_M_years true (some (zi r)) S1) S 63 [(0, zr (some 72)), (2, zi a2), (3, zi a3), (4, zi a4)] [] := by
  intro n
  induction n with
  | zero =>
    intro a2 a3 a4 S h
    cases h
  | succ n ih =>
    intro a2 a3 a4 S h
    rw [f_M_years_63] at h
    refine z_iload C 3 rfl d_M_years_63 ?_
    refine z_iload_n C 1 rfl d_M_years_65 rfl ?_
    rcases zite h with ⟨c1, h⟩ | ⟨c1, h⟩
    · refine z_icmp_get C 100 c1 d_M_years_66 (by decide) ?_
      refine z_iconst C (0 : Int32) (by decide) d_M_years_100 ?_
      refine z_istore C [(4, zi (0 : Int32)), (0, zr (some 72)), (2, zi a2), (3, zi a3)] d_M_years_101 (by decide) rfl ?_
      refine zq_lsub [1, 3, 0] [(0, zr (some 72)), (3, zi a3), (4, zi (0 : Int32))] rfl ?_
      exact c_M_years_103 C hret fu  a3 (0 : Int32) S h
    · refine z_icmp_gef C 100 c1 d_M_years_66 (by decide) ?_
      refine z_aload_n C 0 rfl d_M_years_69 rfl ?_
      refine z_getF2 C 11 (by decide) 2 (by decide) rfl 2 5807 rfl (74) rfl zp_72 zk_72 zfl_11_24 d_M_years_70 ?_
      refine z_bipush C (91 : Int32) (by decide) d_M_years_73 ?_
      refine z_fact (fun hSR => ?_)
      refine z_ialoadS C zo_74 zk_74 (za_74 hSR) (by decide) d_M_years_75 ?_
      refine z_sipush C (999 : Int32) (by decide) d_M_years_76 ?_
      rcases zite h with ⟨c2, h⟩ | ⟨c2, h⟩
      · refine z_icmp_get C 100 c2 d_M_years_79 (by decide) ?_
        refine z_iconst C (0 : Int32) (by decide) d_M_years_100 ?_
        refine z_istore C [(4, zi (0 : Int32)), (0, zr (some 72)), (2, zi a2), (3, zi a3)] d_M_years_101 (by decide) rfl ?_
        refine zq_lsub [1, 3, 0] [(0, zr (some 72)), (3, zi a3), (4, zi (0 : Int32))] rfl ?_
        exact c_M_years_103 C hret fu  a3 (0 : Int32) S h
      · refine z_icmp_gef C 100 c2 d_M_years_79 (by decide) ?_
        refine z_iload_n C 2 rfl d_M_years_82 rfl ?_
        refine z_aload_n C 0 rfl d_M_years_83 rfl ?_
        obtain ⟨r4, S5, h3, h⟩ := zb2_some h
        refine z_cV C 11 (by decide) (m_M_drawnAct l h3) mf_M_drawnAct lk_11_488 in_M_drawnAct se_M_drawnAct rfl zo_72 zk_72 ⟨rfl, rfl⟩ ⟨by decide, by decide⟩ ⟨Nat.zero_le _, Nat.zero_le _⟩ rfl _ [zi a3] rfl (Nat.le_of_ble_eq_true rfl) d_M_years_84 ?_
        refine z_iadd C d_M_years_87 ?_
        refine z_istore_n C [(3, zi (a3 + r4)), (0, zr (some 72)), (2, zi a2), (4, zi a4)] d_M_years_88 rfl (by decide) rfl ?_
        refine z_aload_n C 1 rfl d_M_years_89 rfl ?_
        obtain ⟨r7, S8, h6, h⟩ := zb2_some h
        refine z_cV C 11 (by decide) (m_M_dayPasses l h6) mf_M_dayPasses lk_11_354 in_M_dayPasses se_M_dayPasses rfl zo_72 zk_72 ⟨rfl, rfl⟩ ⟨by decide, by decide⟩ ⟨Nat.zero_le _, Nat.zero_le _⟩ rfl _ [] rfl (Nat.le_of_ble_eq_true rfl) d_M_years_90 ?_
        refine z_pop C rfl d_M_years_93 ?_
        refine z_iinc C 3 (a4 + (1 : Int32)) [(4, zi (a4 + (1 : Int32))), (3, zi (a3 + r4)), (0, zr (some 72)), (2, zi a2)] rfl d_M_years_94 (by first | rfl | decide) (by decide) rfl ?_
        refine z_goto C 63 d_M_years_97 (by decide) ?_
        refine zq_lsub [2, 3, 1, 0] [(0, zr (some 72)), (2, zi a2), (3, zi (a3 + r4)), (4, zi (a4 + (1 : Int32)))] rfl ?_
        exact ih a2 (a3 + r4) (a4 + (1 : Int32)) S8 h
set_option maxRecDepth 100000 in
set_option maxHeartbeats 4000000 in
theorem m_M_years (l : Launch) {fu : Nat} {a1 : Int32} {a2 : Int32} {S : zSt} {r : Int32} {S1 : zSt} (h : f_M_years fu a1 a2 S = some (r, S1)) : zPM l y_M_years b_M_years 5 (some .int) rm_M_years true true [zr (some 72), zi a1, zi a2] S (some (zi r)) S1 := by
  refine zPM_of (by decide) (Nat.le_of_ble_eq_true rfl) (fun p e s m args below meth c G C hret hname => ?_)
  unfold f_M_years at h
  refine (?_ : zJ p l e rm_M_years s m args below meth c G true 5 0 0 (zQm below G args s rm_M_years true (some (zi r)) S1) S 0 [(0, zr (some 72)), (1, zi a1), (2, zi a2)] [])
  refine z_iload_n C 1 rfl d_M_years_0 rfl ?_
  refine z_iconst C (0 : Int32) (by decide) d_M_years_1 ?_
  refine z_ldc C zc_11_177 d_M_years_2 ?_
  obtain ⟨r2, h1, h⟩ := zb1_some h
  refine z_cS C (m_M_lies l h1) mf_M_lies lk_11_108 st_M_lies ⟨rfl, rfl⟩ ⟨by decide, by decide⟩ ⟨Nat.zero_le _, Nat.zero_le _⟩ rfl _ [] rfl (Nat.le_of_ble_eq_true rfl) d_M_years_4 ?_
  rcases zite h with ⟨c3, h⟩ | ⟨c3, h⟩
  · refine z_if_eqt C 20 c3 d_M_years_7 (by decide) ?_
    refine z_aload_n C 0 rfl d_M_years_20 rfl ?_
    refine z_iconst C (-1 : Int32) (by decide) d_M_years_21 ?_
    obtain ⟨r5, S6, h4, h⟩ := zb2_some h
    refine z_cV C 11 (by decide) (m_M_refuses l h4) mf_M_refuses lk_11_112 in_M_refuses se_M_refuses rfl zo_72 zk_72 ⟨rfl, rfl⟩ ⟨by decide, by decide⟩ ⟨Nat.zero_le _, Nat.zero_le _⟩ rfl _ [] rfl (Nat.le_of_ble_eq_true rfl) d_M_years_22 ?_
    cases h
    exact z_iret C .int hret rfl ⟨Nat.zero_le _, Nat.zero_le _⟩ d_M_years_25
  · refine z_if_eqf C 20 c3 d_M_years_7 (by decide) ?_
    refine z_iload_n C 2 rfl d_M_years_10 rfl ?_
    refine z_iconst C (1 : Int32) (by decide) d_M_years_11 ?_
    refine z_bipush C (60 : Int32) (by decide) d_M_years_12 ?_
    obtain ⟨r8, h7, h⟩ := zb1_some h
    refine z_cS C (m_M_lies l h7) mf_M_lies lk_11_108 st_M_lies ⟨rfl, rfl⟩ ⟨by decide, by decide⟩ ⟨Nat.zero_le _, Nat.zero_le _⟩ rfl _ [] rfl (Nat.le_of_ble_eq_true rfl) d_M_years_14 ?_
    rcases zite h with ⟨c9, h⟩ | ⟨c9, h⟩
    · refine z_if_nef C 26 c9 d_M_years_17 (by decide) ?_
      refine z_aload_n C 0 rfl d_M_years_20 rfl ?_
      refine z_iconst C (-1 : Int32) (by decide) d_M_years_21 ?_
      obtain ⟨r21, S22, h20, h⟩ := zb2_some h
      refine z_cV C 11 (by decide) (m_M_refuses l h20) mf_M_refuses lk_11_112 in_M_refuses se_M_refuses rfl zo_72 zk_72 ⟨rfl, rfl⟩ ⟨by decide, by decide⟩ ⟨Nat.zero_le _, Nat.zero_le _⟩ rfl _ [] rfl (Nat.le_of_ble_eq_true rfl) d_M_years_22 ?_
      cases h
      exact z_iret C .int hret rfl ⟨Nat.zero_le _, Nat.zero_le _⟩ d_M_years_25
    · refine z_if_net C 26 c9 d_M_years_17 (by decide) ?_
      refine z_aload_n C 0 rfl d_M_years_26 rfl ?_
      obtain ⟨r11, h10, h⟩ := zb1_some h
      refine z_cV C 11 (by decide) (m_M_springMany l h10) mf_M_springMany lk_11_118 in_M_springMany se_M_springMany rfl zo_72 zk_72 ⟨rfl, rfl⟩ ⟨by decide, by decide⟩ ⟨Nat.zero_le _, Nat.zero_le _⟩ rfl _ [] rfl (Nat.le_of_ble_eq_true rfl) d_M_years_27 ?_
      rcases zite h with ⟨c12, h⟩ | ⟨c12, h⟩
      · refine z_if_nef C 40 c12 d_M_years_30 (by decide) ?_
        refine z_aload_n C 0 rfl d_M_years_33 rfl ?_
        refine z_bipush C (-3 : Int32) (by decide) d_M_years_34 ?_
        obtain ⟨r18, S19, h17, h⟩ := zb2_some h
        refine z_cV C 11 (by decide) (m_M_refuses l h17) mf_M_refuses lk_11_112 in_M_refuses se_M_refuses rfl zo_72 zk_72 ⟨rfl, rfl⟩ ⟨by decide, by decide⟩ ⟨Nat.zero_le _, Nat.zero_le _⟩ rfl _ [] rfl (Nat.le_of_ble_eq_true rfl) d_M_years_36 ?_
        cases h
        exact z_iret C .int hret rfl ⟨Nat.zero_le _, Nat.zero_le _⟩ d_M_years_39
      · refine z_if_net C 40 c12 d_M_years_30 (by decide) ?_
        refine z_aload_n C 0 rfl d_M_years_40 rfl ?_
        refine z_iload_n C 1 rfl d_M_years_41 rfl ?_
        refine z_putI C 11 (by decide) 50 (by decide) rfl (Or.inl rfl) zo_72 zk_72 zfl_11_478 (Or.inl rfl) d_M_years_42 ?_
        refine z_aload_n C 0 rfl d_M_years_45 rfl ?_
        refine z_aload_n C 0 rfl d_M_years_46 rfl ?_
        obtain ⟨r14, h13, h⟩ := zb1_some h
        refine z_cV C 11 (by decide) (m_M_springMany l h13) mf_M_springMany lk_11_118 in_M_springMany se_M_springMany rfl zo_72 zk_72 ⟨rfl, rfl⟩ ⟨by decide, by decide⟩ ⟨Nat.zero_le _, Nat.zero_le _⟩ rfl _ [zr (some 72)] rfl (Nat.le_of_ble_eq_true rfl) d_M_years_47 ?_
        refine z_putI C 11 (by decide) 49 (by decide) rfl (Or.inl rfl) zo_72 zk_72 zfl_11_105 (Or.inl rfl) d_M_years_50 ?_
        refine z_aload_n C 0 rfl d_M_years_53 rfl ?_
        refine z_iconst C (0 : Int32) (by decide) d_M_years_54 ?_
        obtain ⟨S16, h15, h⟩ := zb1_some h
        refine z_cV C 11 (by decide) (m_M_laysAside l h15) mf_M_laysAside lk_11_436 in_M_laysAside se_M_laysAside rfl zo_72 zk_72 ⟨rfl, rfl⟩ ⟨by decide, by decide⟩ ⟨Nat.zero_le _, Nat.zero_le _⟩ rfl _ [] rfl (Nat.le_of_ble_eq_true rfl) d_M_years_55 ?_
        refine z_iconst C (0 : Int32) (by decide) d_M_years_58 ?_
        refine z_istore_n C [(3, zi (0 : Int32)), (0, zr (some 72)), (1, zi a1), (2, zi a2)] d_M_years_59 rfl (by decide) rfl ?_
        refine z_iconst C (0 : Int32) (by decide) d_M_years_60 ?_
        refine z_istore C [(4, zi (0 : Int32)), (3, zi (0 : Int32)), (0, zr (some 72)), (1, zi a1), (2, zi a2)] d_M_years_61 (by decide) rfl ?_
        refine zq_lsub [2, 4, 1, 0] [(0, zr (some 72)), (2, zi a2), (3, zi (0 : Int32)), (4, zi (0 : Int32))] rfl ?_
        exact c_M_years_63 C hret fu  a2 (0 : Int32) (0 : Int32) S16 h
def f_M_drawn (a1 : Int32) (a2 : Int32) (S : zSt) : Option Int32 := zb1 (f_M_lies a1 (0 : Int32) ((zI S 72 49) - (1 : Int32))) (fun r2 => if r2 = 0 then some (-1 : Int32) else zb1 (f_M_lies a2 (0 : Int32) (1 : Int32)) (fun r5 => if r5 = 0 then some (-1 : Int32) else if a2 = 0 then zgd (0 ≤ ((1 : Int32) + a1) ∧ ((1 : Int32) + a1).toNatClampNeg < 92) (some (zI S 97 ((1 : Int32) + a1).toNatClampNeg)) else if (zI S 97 (0 : Int32).toNatClampNeg) = a1 then some (1 : Int32) else some (0 : Int32)))
set_option maxRecDepth 100000 in
set_option maxHeartbeats 4000000 in
theorem m_M_drawn (l : Launch) {a1 : Int32} {a2 : Int32} {S : zSt} {r : Int32} (h : f_M_drawn a1 a2 S = some r) : zPM l y_M_drawn b_M_drawn 3 (some .int) rm_M_drawn true true [zr (some 72), zi a1, zi a2] S (some (zi r)) S := by
  refine zPM_of (by decide) (Nat.le_of_ble_eq_true rfl) (fun p e s m args below meth c G C hret hname => ?_)
  unfold f_M_drawn at h
  refine (?_ : zJ p l e rm_M_drawn s m args below meth c G true 3 0 0 (zQm below G args s rm_M_drawn true (some (zi r)) S) S 0 [(0, zr (some 72)), (1, zi a1), (2, zi a2)] [])
  refine z_iload_n C 1 rfl d_M_drawn_0 rfl ?_
  refine z_iconst C (0 : Int32) (by decide) d_M_drawn_1 ?_
  refine z_aload_n C 0 rfl d_M_drawn_2 rfl ?_
  refine z_getI C 11 (by decide) 49 (by decide) rfl zo_72 zk_72 zfl_11_105 d_M_drawn_3 ?_
  refine z_iconst C (1 : Int32) (by decide) d_M_drawn_6 ?_
  refine z_isub C d_M_drawn_7 ?_
  obtain ⟨r2, h1, h⟩ := zb1_some h
  refine z_cS C (m_M_lies l h1) mf_M_lies lk_11_108 st_M_lies ⟨rfl, rfl⟩ ⟨by decide, by decide⟩ ⟨Nat.zero_le _, Nat.zero_le _⟩ rfl _ [] rfl (Nat.le_of_ble_eq_true rfl) d_M_drawn_8 ?_
  rcases zite h with ⟨c3, h⟩ | ⟨c3, h⟩
  · refine z_if_eqt C 23 c3 d_M_drawn_11 (by decide) ?_
    refine z_iconst C (-1 : Int32) (by decide) d_M_drawn_23 ?_
    cases h
    exact z_iret C .int hret rfl ⟨Nat.zero_le _, Nat.zero_le _⟩ d_M_drawn_24
  · refine z_if_eqf C 23 c3 d_M_drawn_11 (by decide) ?_
    refine z_iload_n C 2 rfl d_M_drawn_14 rfl ?_
    refine z_iconst C (0 : Int32) (by decide) d_M_drawn_15 ?_
    refine z_iconst C (1 : Int32) (by decide) d_M_drawn_16 ?_
    obtain ⟨r5, h4, h⟩ := zb1_some h
    refine z_cS C (m_M_lies l h4) mf_M_lies lk_11_108 st_M_lies ⟨rfl, rfl⟩ ⟨by decide, by decide⟩ ⟨Nat.zero_le _, Nat.zero_le _⟩ rfl _ [] rfl (Nat.le_of_ble_eq_true rfl) d_M_drawn_17 ?_
    rcases zite h with ⟨c6, h⟩ | ⟨c6, h⟩
    · refine z_if_nef C 25 c6 d_M_drawn_20 (by decide) ?_
      refine z_iconst C (-1 : Int32) (by decide) d_M_drawn_23 ?_
      cases h
      exact z_iret C .int hret rfl ⟨Nat.zero_le _, Nat.zero_le _⟩ d_M_drawn_24
    · refine z_if_net C 25 c6 d_M_drawn_20 (by decide) ?_
      refine z_iload_n C 2 rfl d_M_drawn_25 rfl ?_
      rcases zite h with ⟨c7, h⟩ | ⟨c7, h⟩
      · refine z_if_nef C 40 c7 d_M_drawn_26 (by decide) ?_
        refine z_aload_n C 0 rfl d_M_drawn_29 rfl ?_
        refine z_getF2 C 11 (by decide) 48 (by decide) rfl 25 92 rfl (97) rfl zp_72 zk_72 zfl_11_102 d_M_drawn_30 ?_
        refine z_iconst C (1 : Int32) (by decide) d_M_drawn_33 ?_
        refine z_iload_n C 1 rfl d_M_drawn_34 rfl ?_
        refine z_iadd C d_M_drawn_35 ?_
        refine z_fact (fun hSR => ?_)
        obtain ⟨g9, h⟩ := zgd_some h
        refine z_ialoadS C zo_97 zk_97 (za_97 hSR) g9 d_M_drawn_36 ?_
        refine z_goto C 55 d_M_drawn_37 (by decide) ?_
        cases h
        exact z_iret C .int hret rfl ⟨Nat.zero_le _, Nat.zero_le _⟩ d_M_drawn_55
      · refine z_if_net C 40 c7 d_M_drawn_26 (by decide) ?_
        refine z_aload_n C 0 rfl d_M_drawn_40 rfl ?_
        refine z_getF2 C 11 (by decide) 48 (by decide) rfl 25 92 rfl (97) rfl zp_72 zk_72 zfl_11_102 d_M_drawn_41 ?_
        refine z_iconst C (0 : Int32) (by decide) d_M_drawn_44 ?_
        refine z_fact (fun hSR => ?_)
        refine z_ialoadS C zo_97 zk_97 (za_97 hSR) (by decide) d_M_drawn_45 ?_
        refine z_iload_n C 1 rfl d_M_drawn_46 rfl ?_
        rcases zite h with ⟨c8, h⟩ | ⟨c8, h⟩
        · refine z_icmp_nef C 54 c8 d_M_drawn_47 (by decide) ?_
          refine z_iconst C (1 : Int32) (by decide) d_M_drawn_50 ?_
          refine z_goto C 55 d_M_drawn_51 (by decide) ?_
          cases h
          exact z_iret C .int hret rfl ⟨Nat.zero_le _, Nat.zero_le _⟩ d_M_drawn_55
        · refine z_icmp_net C 54 c8 d_M_drawn_47 (by decide) ?_
          refine z_iconst C (0 : Int32) (by decide) d_M_drawn_54 ?_
          cases h
          exact z_iret C .int hret rfl ⟨Nat.zero_le _, Nat.zero_le _⟩ d_M_drawn_55
def f_M_count (fu : Nat) (a1 : Int32) (S : zSt) : Option Int32 := if a1 = (0 : Int32) then zb1 (f_M_springMany S) (fun r3 => some r3) else if a1 = (1 : Int32) then some (zI S 74 (0 : Int32).toNatClampNeg) else if a1 = (2 : Int32) then zb1 (f_M_channelMany fu (0 : Int32) S) (fun r7 => some r7) else if a1 = (3 : Int32) then zb1 (f_M_shutMany fu S) (fun r10 => some r10) else if a1 = (4 : Int32) then some (zI S 74 (197 : Int32).toNatClampNeg) else if a1 = (5 : Int32) then some (zI S 74 (198 : Int32).toNatClampNeg) else if a1 = (6 : Int32) then some (zI S 72 32) else if a1 = (7 : Int32) then some (zI S 72 13) else if a1 = (8 : Int32) then zgd (0 ≤ (a1 - (7 : Int32)) ∧ (a1 - (7 : Int32)).toNatClampNeg < 7) (some (zI S 73 (a1 - (7 : Int32)).toNatClampNeg)) else if a1 = (9 : Int32) then zgd (0 ≤ (a1 - (7 : Int32)) ∧ (a1 - (7 : Int32)).toNatClampNeg < 7) (some (zI S 73 (a1 - (7 : Int32)).toNatClampNeg)) else if a1 = (10 : Int32) then zgd (0 ≤ (a1 - (7 : Int32)) ∧ (a1 - (7 : Int32)).toNatClampNeg < 7) (some (zI S 73 (a1 - (7 : Int32)).toNatClampNeg)) else if a1 = (11 : Int32) then some (zI S 73 (5 : Int32).toNatClampNeg) else if a1 = (12 : Int32) then some (zI S 73 (6 : Int32).toNatClampNeg) else if a1 = (13 : Int32) then some (zI S 74 (199 : Int32).toNatClampNeg) else if a1 = (14 : Int32) then zb1 (f_M_termAt (a1 - (14 : Int32))) (fun r26 => zgd (0 ≤ r26 ∧ r26.toNatClampNeg < 5807) (some (zI S 74 r26.toNatClampNeg))) else if a1 = (15 : Int32) then zb1 (f_M_termAt (a1 - (14 : Int32))) (fun r30 => zgd (0 ≤ r30 ∧ r30.toNatClampNeg < 5807) (some (zI S 74 r30.toNatClampNeg))) else if a1 = (16 : Int32) then zb1 (f_M_termAt (a1 - (14 : Int32))) (fun r34 => zgd (0 ≤ r34 ∧ r34.toNatClampNeg < 5807) (some (zI S 74 r34.toNatClampNeg))) else some (-1 : Int32)
set_option maxRecDepth 100000 in
set_option maxHeartbeats 4000000 in
theorem m_M_count (l : Launch) {fu : Nat} {a1 : Int32} {S : zSt} {r : Int32} (h : f_M_count fu a1 S = some r) : zPM l y_M_count b_M_count 2 (some .int) rm_M_count true true [zr (some 72), zi a1] S (some (zi r)) S := by
  refine zPM_of (by decide) (Nat.le_of_ble_eq_true rfl) (fun p e s m args below meth c G C hret hname => ?_)
  unfold f_M_count at h
  refine (?_ : zJ p l e rm_M_count s m args below meth c G true 2 0 0 (zQm below G args s rm_M_count true (some (zi r)) S) S 0 [(0, zr (some 72)), (1, zi a1)] [])
  refine z_iload_n C 1 rfl d_M_count_0 rfl ?_
  rcases zite h with ⟨c1, h⟩ | ⟨c1, h⟩
  · refine z_tab C (0 : Int32) 83 84 c1 (by decide) (by decide) (by decide) (by decide) d_M_count_1 ?_
    refine z_aload_n C 0 rfl d_M_count_84 rfl ?_
    obtain ⟨r3, h2, h⟩ := zb1_some h
    refine z_cV C 11 (by decide) (m_M_springMany l h2) mf_M_springMany lk_11_118 in_M_springMany se_M_springMany rfl zo_72 zk_72 ⟨rfl, rfl⟩ ⟨by decide, by decide⟩ ⟨Nat.zero_le _, Nat.zero_le _⟩ rfl _ [] rfl (Nat.le_of_ble_eq_true rfl) d_M_count_85 ?_
    cases h
    exact z_iret C .int hret rfl ⟨Nat.zero_le _, Nat.zero_le _⟩ d_M_count_88
  · rcases zite h with ⟨c4, h⟩ | ⟨c4, h⟩
    · refine z_tab C (1 : Int32) 88 89 c4 (by decide) (by decide) (by decide) (by decide) d_M_count_1 ?_
      refine z_aload_n C 0 rfl d_M_count_89 rfl ?_
      refine z_getF2 C 11 (by decide) 2 (by decide) rfl 2 5807 rfl (74) rfl zp_72 zk_72 zfl_11_24 d_M_count_90 ?_
      refine z_iconst C (0 : Int32) (by decide) d_M_count_93 ?_
      refine z_fact (fun hSR => ?_)
      refine z_ialoadS C zo_74 zk_74 (za_74 hSR) (by decide) d_M_count_94 ?_
      cases h
      exact z_iret C .int hret rfl ⟨Nat.zero_le _, Nat.zero_le _⟩ d_M_count_95
    · rcases zite h with ⟨c5, h⟩ | ⟨c5, h⟩
      · refine z_tab C (2 : Int32) 95 96 c5 (by decide) (by decide) (by decide) (by decide) d_M_count_1 ?_
        refine z_aload_n C 0 rfl d_M_count_96 rfl ?_
        refine z_iconst C (0 : Int32) (by decide) d_M_count_97 ?_
        obtain ⟨r7, h6, h⟩ := zb1_some h
        refine z_cV C 11 (by decide) (m_M_channelMany l h6) mf_M_channelMany lk_11_341 in_M_channelMany se_M_channelMany rfl zo_72 zk_72 ⟨rfl, rfl⟩ ⟨by decide, by decide⟩ ⟨Nat.zero_le _, Nat.zero_le _⟩ rfl _ [] rfl (Nat.le_of_ble_eq_true rfl) d_M_count_98 ?_
        cases h
        exact z_iret C .int hret rfl ⟨Nat.zero_le _, Nat.zero_le _⟩ d_M_count_101
      · rcases zite h with ⟨c8, h⟩ | ⟨c8, h⟩
        · refine z_tab C (3 : Int32) 101 102 c8 (by decide) (by decide) (by decide) (by decide) d_M_count_1 ?_
          refine z_aload_n C 0 rfl d_M_count_102 rfl ?_
          obtain ⟨r10, h9, h⟩ := zb1_some h
          refine z_cV C 11 (by decide) (m_M_shutMany l h9) mf_M_shutMany lk_11_310 in_M_shutMany se_M_shutMany rfl zo_72 zk_72 ⟨rfl, rfl⟩ ⟨by decide, by decide⟩ ⟨Nat.zero_le _, Nat.zero_le _⟩ rfl _ [] rfl (Nat.le_of_ble_eq_true rfl) d_M_count_103 ?_
          cases h
          exact z_iret C .int hret rfl ⟨Nat.zero_le _, Nat.zero_le _⟩ d_M_count_106
        · rcases zite h with ⟨c11, h⟩ | ⟨c11, h⟩
          · refine z_tab C (4 : Int32) 106 107 c11 (by decide) (by decide) (by decide) (by decide) d_M_count_1 ?_
            refine z_aload_n C 0 rfl d_M_count_107 rfl ?_
            refine z_getF2 C 11 (by decide) 2 (by decide) rfl 2 5807 rfl (74) rfl zp_72 zk_72 zfl_11_24 d_M_count_108 ?_
            refine z_sipush C (197 : Int32) (by decide) d_M_count_111 ?_
            refine z_fact (fun hSR => ?_)
            refine z_ialoadS C zo_74 zk_74 (za_74 hSR) (by decide) d_M_count_114 ?_
            cases h
            exact z_iret C .int hret rfl ⟨Nat.zero_le _, Nat.zero_le _⟩ d_M_count_115
          · rcases zite h with ⟨c12, h⟩ | ⟨c12, h⟩
            · refine z_tab C (5 : Int32) 115 116 c12 (by decide) (by decide) (by decide) (by decide) d_M_count_1 ?_
              refine z_aload_n C 0 rfl d_M_count_116 rfl ?_
              refine z_getF2 C 11 (by decide) 2 (by decide) rfl 2 5807 rfl (74) rfl zp_72 zk_72 zfl_11_24 d_M_count_117 ?_
              refine z_sipush C (198 : Int32) (by decide) d_M_count_120 ?_
              refine z_fact (fun hSR => ?_)
              refine z_ialoadS C zo_74 zk_74 (za_74 hSR) (by decide) d_M_count_123 ?_
              cases h
              exact z_iret C .int hret rfl ⟨Nat.zero_le _, Nat.zero_le _⟩ d_M_count_124
            · rcases zite h with ⟨c13, h⟩ | ⟨c13, h⟩
              · refine z_tab C (6 : Int32) 124 125 c13 (by decide) (by decide) (by decide) (by decide) d_M_count_1 ?_
                refine z_aload_n C 0 rfl d_M_count_125 rfl ?_
                refine z_getI C 11 (by decide) 32 (by decide) rfl zo_72 zk_72 zfl_11_11 d_M_count_126 ?_
                cases h
                exact z_iret C .int hret rfl ⟨Nat.zero_le _, Nat.zero_le _⟩ d_M_count_129
              · rcases zite h with ⟨c14, h⟩ | ⟨c14, h⟩
                · refine z_tab C (7 : Int32) 129 130 c14 (by decide) (by decide) (by decide) (by decide) d_M_count_1 ?_
                  refine z_aload_n C 0 rfl d_M_count_130 rfl ?_
                  refine z_getI C 11 (by decide) 13 (by decide) rfl zo_72 zk_72 zfl_11_159 d_M_count_131 ?_
                  cases h
                  exact z_iret C .int hret rfl ⟨Nat.zero_le _, Nat.zero_le _⟩ d_M_count_134
                · rcases zite h with ⟨c15, h⟩ | ⟨c15, h⟩
                  · refine z_tab C (8 : Int32) 134 135 c15 (by decide) (by decide) (by decide) (by decide) d_M_count_1 ?_
                    refine z_aload_n C 0 rfl d_M_count_135 rfl ?_
                    refine z_getF2 C 11 (by decide) 1 (by decide) rfl 1 7 rfl (73) rfl zp_72 zk_72 zfl_11_7 d_M_count_136 ?_
                    refine z_iload_n C 1 rfl d_M_count_139 rfl ?_
                    refine z_bipush C (7 : Int32) (by decide) d_M_count_140 ?_
                    refine z_isub C d_M_count_142 ?_
                    refine z_fact (fun hSR => ?_)
                    obtain ⟨g16, h⟩ := zgd_some h
                    refine z_ialoadS C zo_73 zk_73 (za_73 hSR) g16 d_M_count_143 ?_
                    cases h
                    exact z_iret C .int hret rfl ⟨Nat.zero_le _, Nat.zero_le _⟩ d_M_count_144
                  · rcases zite h with ⟨c17, h⟩ | ⟨c17, h⟩
                    · refine z_tab C (9 : Int32) 134 135 c17 (by decide) (by decide) (by decide) (by decide) d_M_count_1 ?_
                      refine z_aload_n C 0 rfl d_M_count_135 rfl ?_
                      refine z_getF2 C 11 (by decide) 1 (by decide) rfl 1 7 rfl (73) rfl zp_72 zk_72 zfl_11_7 d_M_count_136 ?_
                      refine z_iload_n C 1 rfl d_M_count_139 rfl ?_
                      refine z_bipush C (7 : Int32) (by decide) d_M_count_140 ?_
                      refine z_isub C d_M_count_142 ?_
                      refine z_fact (fun hSR => ?_)
                      obtain ⟨g18, h⟩ := zgd_some h
                      refine z_ialoadS C zo_73 zk_73 (za_73 hSR) g18 d_M_count_143 ?_
                      cases h
                      exact z_iret C .int hret rfl ⟨Nat.zero_le _, Nat.zero_le _⟩ d_M_count_144
                    · rcases zite h with ⟨c19, h⟩ | ⟨c19, h⟩
                      · refine z_tab C (10 : Int32) 134 135 c19 (by decide) (by decide) (by decide) (by decide) d_M_count_1 ?_
                        refine z_aload_n C 0 rfl d_M_count_135 rfl ?_
                        refine z_getF2 C 11 (by decide) 1 (by decide) rfl 1 7 rfl (73) rfl zp_72 zk_72 zfl_11_7 d_M_count_136 ?_
                        refine z_iload_n C 1 rfl d_M_count_139 rfl ?_
                        refine z_bipush C (7 : Int32) (by decide) d_M_count_140 ?_
                        refine z_isub C d_M_count_142 ?_
                        refine z_fact (fun hSR => ?_)
                        obtain ⟨g20, h⟩ := zgd_some h
                        refine z_ialoadS C zo_73 zk_73 (za_73 hSR) g20 d_M_count_143 ?_
                        cases h
                        exact z_iret C .int hret rfl ⟨Nat.zero_le _, Nat.zero_le _⟩ d_M_count_144
                      · rcases zite h with ⟨c21, h⟩ | ⟨c21, h⟩
                        · refine z_tab C (11 : Int32) 144 145 c21 (by decide) (by decide) (by decide) (by decide) d_M_count_1 ?_
                          refine z_aload_n C 0 rfl d_M_count_145 rfl ?_
                          refine z_getF2 C 11 (by decide) 1 (by decide) rfl 1 7 rfl (73) rfl zp_72 zk_72 zfl_11_7 d_M_count_146 ?_
                          refine z_iconst C (5 : Int32) (by decide) d_M_count_149 ?_
                          refine z_fact (fun hSR => ?_)
                          refine z_ialoadS C zo_73 zk_73 (za_73 hSR) (by decide) d_M_count_150 ?_
                          cases h
                          exact z_iret C .int hret rfl ⟨Nat.zero_le _, Nat.zero_le _⟩ d_M_count_151
                        · rcases zite h with ⟨c22, h⟩ | ⟨c22, h⟩
                          · refine z_tab C (12 : Int32) 151 152 c22 (by decide) (by decide) (by decide) (by decide) d_M_count_1 ?_
                            refine z_aload_n C 0 rfl d_M_count_152 rfl ?_
                            refine z_getF2 C 11 (by decide) 1 (by decide) rfl 1 7 rfl (73) rfl zp_72 zk_72 zfl_11_7 d_M_count_153 ?_
                            refine z_bipush C (6 : Int32) (by decide) d_M_count_156 ?_
                            refine z_fact (fun hSR => ?_)
                            refine z_ialoadS C zo_73 zk_73 (za_73 hSR) (by decide) d_M_count_158 ?_
                            cases h
                            exact z_iret C .int hret rfl ⟨Nat.zero_le _, Nat.zero_le _⟩ d_M_count_159
                          · rcases zite h with ⟨c23, h⟩ | ⟨c23, h⟩
                            · refine z_tab C (13 : Int32) 159 160 c23 (by decide) (by decide) (by decide) (by decide) d_M_count_1 ?_
                              refine z_aload_n C 0 rfl d_M_count_160 rfl ?_
                              refine z_getF2 C 11 (by decide) 2 (by decide) rfl 2 5807 rfl (74) rfl zp_72 zk_72 zfl_11_24 d_M_count_161 ?_
                              refine z_sipush C (199 : Int32) (by decide) d_M_count_164 ?_
                              refine z_fact (fun hSR => ?_)
                              refine z_ialoadS C zo_74 zk_74 (za_74 hSR) (by decide) d_M_count_167 ?_
                              cases h
                              exact z_iret C .int hret rfl ⟨Nat.zero_le _, Nat.zero_le _⟩ d_M_count_168
                            · rcases zite h with ⟨c24, h⟩ | ⟨c24, h⟩
                              · refine z_tab C (14 : Int32) 168 169 c24 (by decide) (by decide) (by decide) (by decide) d_M_count_1 ?_
                                refine z_aload_n C 0 rfl d_M_count_169 rfl ?_
                                refine z_getF2 C 11 (by decide) 2 (by decide) rfl 2 5807 rfl (74) rfl zp_72 zk_72 zfl_11_24 d_M_count_170 ?_
                                refine z_iload_n C 1 rfl d_M_count_173 rfl ?_
                                refine z_bipush C (14 : Int32) (by decide) d_M_count_174 ?_
                                refine z_isub C d_M_count_176 ?_
                                obtain ⟨r26, h25, h⟩ := zb1_some h
                                refine z_cS C (m_M_termAt l h25) mf_M_termAt lk_11_156 st_M_termAt ⟨rfl, rfl⟩ ⟨by decide, by decide⟩ ⟨Nat.zero_le _, Nat.zero_le _⟩ rfl _ [zr (some 74)] rfl (Nat.le_of_ble_eq_true rfl) d_M_count_177 ?_
                                refine z_fact (fun hSR => ?_)
                                obtain ⟨g27, h⟩ := zgd_some h
                                refine z_ialoadS C zo_74 zk_74 (za_74 hSR) g27 d_M_count_180 ?_
                                cases h
                                exact z_iret C .int hret rfl ⟨Nat.zero_le _, Nat.zero_le _⟩ d_M_count_181
                              · rcases zite h with ⟨c28, h⟩ | ⟨c28, h⟩
                                · refine z_tab C (15 : Int32) 168 169 c28 (by decide) (by decide) (by decide) (by decide) d_M_count_1 ?_
                                  refine z_aload_n C 0 rfl d_M_count_169 rfl ?_
                                  refine z_getF2 C 11 (by decide) 2 (by decide) rfl 2 5807 rfl (74) rfl zp_72 zk_72 zfl_11_24 d_M_count_170 ?_
                                  refine z_iload_n C 1 rfl d_M_count_173 rfl ?_
                                  refine z_bipush C (14 : Int32) (by decide) d_M_count_174 ?_
                                  refine z_isub C d_M_count_176 ?_
                                  obtain ⟨r30, h29, h⟩ := zb1_some h
                                  refine z_cS C (m_M_termAt l h29) mf_M_termAt lk_11_156 st_M_termAt ⟨rfl, rfl⟩ ⟨by decide, by decide⟩ ⟨Nat.zero_le _, Nat.zero_le _⟩ rfl _ [zr (some 74)] rfl (Nat.le_of_ble_eq_true rfl) d_M_count_177 ?_
                                  refine z_fact (fun hSR => ?_)
                                  obtain ⟨g31, h⟩ := zgd_some h
                                  refine z_ialoadS C zo_74 zk_74 (za_74 hSR) g31 d_M_count_180 ?_
                                  cases h
                                  exact z_iret C .int hret rfl ⟨Nat.zero_le _, Nat.zero_le _⟩ d_M_count_181
                                · rcases zite h with ⟨c32, h⟩ | ⟨c32, h⟩
                                  · refine z_tab C (16 : Int32) 168 169 c32 (by decide) (by decide) (by decide) (by decide) d_M_count_1 ?_
                                    refine z_aload_n C 0 rfl d_M_count_169 rfl ?_
                                    refine z_getF2 C 11 (by decide) 2 (by decide) rfl 2 5807 rfl (74) rfl zp_72 zk_72 zfl_11_24 d_M_count_170 ?_
                                    refine z_iload_n C 1 rfl d_M_count_173 rfl ?_
                                    refine z_bipush C (14 : Int32) (by decide) d_M_count_174 ?_
                                    refine z_isub C d_M_count_176 ?_
                                    obtain ⟨r34, h33, h⟩ := zb1_some h
                                    refine z_cS C (m_M_termAt l h33) mf_M_termAt lk_11_156 st_M_termAt ⟨rfl, rfl⟩ ⟨by decide, by decide⟩ ⟨Nat.zero_le _, Nat.zero_le _⟩ rfl _ [zr (some 74)] rfl (Nat.le_of_ble_eq_true rfl) d_M_count_177 ?_
                                    refine z_fact (fun hSR => ?_)
                                    obtain ⟨g35, h⟩ := zgd_some h
                                    refine z_ialoadS C zo_74 zk_74 (za_74 hSR) g35 d_M_count_180 ?_
                                    cases h
                                    exact z_iret C .int hret rfl ⟨Nat.zero_le _, Nat.zero_le _⟩ d_M_count_181
                                  · refine z_tabO C (0) 17 (by decide) (fun j hj => by match j, hj with | 0, _ => exact c1 | 1, _ => exact c4 | 2, _ => exact c5 | 3, _ => exact c8 | 4, _ => exact c11 | 5, _ => exact c12 | 6, _ => exact c13 | 7, _ => exact c14 | 8, _ => exact c15 | 9, _ => exact c17 | 10, _ => exact c19 | 11, _ => exact c21 | 12, _ => exact c22 | 13, _ => exact c23 | 14, _ => exact c24 | 15, _ => exact c28 | 16, _ => exact c32 | j + 17, hj => omega) 182 (by decide) d_M_count_1 ?_
                                    refine z_iconst C (-1 : Int32) (by decide) d_M_count_182 ?_
                                    cases h
                                    exact z_iret C .int hret rfl ⟨Nat.zero_le _, Nat.zero_le _⟩ d_M_count_183
def f_M_status (S : zSt) : Option Int32 := some (zI S 72 0)
set_option maxRecDepth 100000 in
set_option maxHeartbeats 4000000 in
theorem m_M_status (l : Launch) {S : zSt} {r : Int32} (h : f_M_status  S = some r) : zPM l y_M_status b_M_status 1 (some .int) rm_M_status true true [zr (some 72)] S (some (zi r)) S := by
  refine zPM_of (by decide) (Nat.le_of_ble_eq_true rfl) (fun p e s m args below meth c G C hret hname => ?_)
  unfold f_M_status at h
  refine (?_ : zJ p l e rm_M_status s m args below meth c G true 1 0 0 (zQm below G args s rm_M_status true (some (zi r)) S) S 0 [(0, zr (some 72))] [])
  refine z_aload_n C 0 rfl d_M_status_0 rfl ?_
  refine z_getI C 11 (by decide) 0 (by decide) rfl zo_72 zk_72 zfl_11_3 d_M_status_1 ?_
  cases h
  exact z_iret C .int hret rfl ⟨Nat.zero_le _, Nat.zero_le _⟩ d_M_status_4

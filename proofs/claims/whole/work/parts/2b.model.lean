/-! printed by dec4.py: 2b.model -/
abbrev rm_M_between : Room := { frames := 138, cells := 0, slots := 0, locals := 3603 }
abbrev rm_M_isTerm : Room := { frames := 2, cells := 0, slots := 0, locals := 86 }
abbrev rm_M_termAt : Room := { frames := 1, cells := 0, slots := 0, locals := 64 }
abbrev rm_M_terms : Room := { frames := 3, cells := 0, slots := 0, locals := 107 }
abbrev rm_M_row : Room := { frames := 4, cells := 0, slots := 0, locals := 129 }
abbrev rm_M_bubbles : Room := { frames := 1, cells := 0, slots := 0, locals := 64 }
abbrev rm_M_feed : Room := { frames := 1, cells := 0, slots := 0, locals := 64 }
abbrev rm_M_end : Room := { frames := 2, cells := 0, slots := 0, locals := 86 }
abbrev rm_M_isSmall : Room := { frames := 1, cells := 0, slots := 0, locals := 64 }
abbrev rm_M_isDigit : Room := { frames := 1, cells := 0, slots := 0, locals := 64 }
abbrev rm_M_wordOf : Room := { frames := 1, cells := 0, slots := 0, locals := 64 }
abbrev rm_M_splits : Room := { frames := 2, cells := 0, slots := 0, locals := 91 }
abbrev rm_M_fine : Room := { frames := 1, cells := 0, slots := 0, locals := 64 }
abbrev rm_M_takes0 : Room := { frames := 2, cells := 0, slots := 0, locals := 84 }
abbrev rm_M_faults : Room := { frames := 2, cells := 0, slots := 0, locals := 84 }
abbrev rm_M_must : Room := { frames := 3, cells := 0, slots := 0, locals := 106 }
abbrev rm_M_leaf : Room := { frames := 3, cells := 0, slots := 0, locals := 104 }
abbrev rm_M_mustNumber : Room := { frames := 3, cells := 0, slots := 0, locals := 104 }
def rm_g3 (d : Nat) : Room := { frames := 4 + d, cells := 0, slots := 0, locals := 127 + d * 22 }
def rm_g4 (d : Nat) : Room := { frames := 69 + d, cells := 0, slots := 0, locals := 1556 + d * 23 }
abbrev rm_M_readOrder : Room := { frames := 134, cells := 0, slots := 0, locals := 3049 }
abbrev rm_M_readClause : Room := { frames := 134, cells := 0, slots := 0, locals := 3049 }
abbrev rm_M_readOne : Room := { frames := 135, cells := 0, slots := 0, locals := 3069 }
abbrev rm_M_reads : Room := { frames := 136, cells := 0, slots := 0, locals := 3089 }
abbrev rm_M_readsAs : Room := { frames := 137, cells := 0, slots := 0, locals := 3110 }
abbrev rm_M_lays : Room := { frames := 1, cells := 0, slots := 0, locals := 64 }
abbrev rm_M_law : Room := { frames := 138, cells := 0, slots := 0, locals := 3131 }
abbrev rm_M_fault : Room := { frames := 1, cells := 0, slots := 0, locals := 64 }
abbrev rm_M_isLaw : Room := { frames := 2, cells := 0, slots := 0, locals := 86 }
abbrev rm_M_force : Room := { frames := 3, cells := 0, slots := 0, locals := 107 }
theorem rm_le_M_readPart_M_fine {dp : Nat} : rm_M_fine.frames + 1 ≤ (rm_g3 (dp + 1)).frames ∧ 8 + (1 + 11) + rm_M_fine.locals ≤ (rm_g3 (dp + 1)).locals := by
  unfold rm_g3
  constructor <;> simp only [] <;> omega
theorem rm_le_M_readPart_M_sign {dp : Nat} : rm_M_sign.frames + 1 ≤ (rm_g3 (dp + 1)).frames ∧ 8 + (1 + 11) + rm_M_sign.locals ≤ (rm_g3 (dp + 1)).locals := by
  unfold rm_g3
  constructor <;> simp only [] <;> omega
theorem rm_le_M_readPart_M_faults {dp : Nat} : rm_M_faults.frames + 1 ≤ (rm_g3 (dp + 1)).frames ∧ 8 + (1 + 11) + rm_M_faults.locals ≤ (rm_g3 (dp + 1)).locals := by
  unfold rm_g3
  constructor <;> simp only [] <;> omega
theorem rm_le_M_readPart_M_readSum {dp : Nat} : (rm_g3 dp).frames + 1 ≤ (rm_g3 (dp + 1)).frames ∧ 8 + (2 + 11) + (rm_g3 dp).locals ≤ (rm_g3 (dp + 1)).locals := by
  unfold rm_g3
  constructor <;> simp only [] <;> omega
theorem rm_le_M_readPart_M_must {dp : Nat} : rm_M_must.frames + 1 ≤ (rm_g3 (dp + 1)).frames ∧ 8 + (2 + 11) + rm_M_must.locals ≤ (rm_g3 (dp + 1)).locals := by
  unfold rm_g3
  constructor <;> simp only [] <;> omega
theorem rm_le_M_readPart_M_leaf {dp : Nat} : rm_M_leaf.frames + 1 ≤ (rm_g3 (dp + 1)).frames ∧ 8 + (1 + 11) + rm_M_leaf.locals ≤ (rm_g3 (dp + 1)).locals := by
  unfold rm_g3
  constructor <;> simp only [] <;> omega
theorem rm_le_M_readPart_M_mustNumber {dp : Nat} : rm_M_mustNumber.frames + 1 ≤ (rm_g3 (dp + 1)).frames ∧ 8 + (3 + 11) + rm_M_mustNumber.locals ≤ (rm_g3 (dp + 1)).locals := by
  unfold rm_g3
  constructor <;> simp only [] <;> omega
theorem rm_le_M_readTerm_M_readPart {dp : Nat} : (rm_g3 dp).frames + 1 ≤ (rm_g3 (dp + 1)).frames ∧ 8 + (3 + 11) + (rm_g3 dp).locals ≤ (rm_g3 (dp + 1)).locals := by
  unfold rm_g3
  constructor <;> simp only [] <;> omega
theorem rm_le_M_readTerm_M_sign {dp : Nat} : rm_M_sign.frames + 1 ≤ (rm_g3 (dp + 1)).frames ∧ 8 + (1 + 11) + rm_M_sign.locals ≤ (rm_g3 (dp + 1)).locals := by
  unfold rm_g3
  constructor <;> simp only [] <;> omega
theorem rm_le_M_readTerm_M_takes0 {dp : Nat} : rm_M_takes0.frames + 1 ≤ (rm_g3 (dp + 1)).frames ∧ 8 + (3 + 11) + rm_M_takes0.locals ≤ (rm_g3 (dp + 1)).locals := by
  unfold rm_g3
  constructor <;> simp only [] <;> omega
theorem rm_le_M_readSum_M_readTerm {dp : Nat} : (rm_g3 dp).frames + 1 ≤ (rm_g3 (dp + 1)).frames ∧ 8 + (2 + 11) + (rm_g3 dp).locals ≤ (rm_g3 (dp + 1)).locals := by
  unfold rm_g3
  constructor <;> simp only [] <;> omega
theorem rm_le_M_readSum_M_sign {dp : Nat} : rm_M_sign.frames + 1 ≤ (rm_g3 (dp + 1)).frames ∧ 8 + (1 + 11) + rm_M_sign.locals ≤ (rm_g3 (dp + 1)).locals := by
  unfold rm_g3
  constructor <;> simp only [] <;> omega
theorem rm_le_M_readSum_M_takes0 {dp : Nat} : rm_M_takes0.frames + 1 ≤ (rm_g3 (dp + 1)).frames ∧ 8 + (3 + 11) + rm_M_takes0.locals ≤ (rm_g3 (dp + 1)).locals := by
  unfold rm_g3
  constructor <;> simp only [] <;> omega
theorem rm_le_M_readPlain_M_takes0 {dp : Nat} : rm_M_takes0.frames + 1 ≤ (rm_g4 (dp + 1)).frames ∧ 8 + (3 + 11) + rm_M_takes0.locals ≤ (rm_g4 (dp + 1)).locals := by
  unfold rm_g4
  constructor <;> simp only [] <;> omega
theorem rm_le_M_readPlain_M_fine {dp : Nat} : rm_M_fine.frames + 1 ≤ (rm_g4 (dp + 1)).frames ∧ 8 + (1 + 11) + rm_M_fine.locals ≤ (rm_g4 (dp + 1)).locals := by
  unfold rm_g4
  constructor <;> simp only [] <;> omega
theorem rm_le_M_readPlain_M_sign {dp : Nat} : rm_M_sign.frames + 1 ≤ (rm_g4 (dp + 1)).frames ∧ 8 + (1 + 11) + rm_M_sign.locals ≤ (rm_g4 (dp + 1)).locals := by
  unfold rm_g4
  constructor <;> simp only [] <;> omega
theorem rm_le_M_readPlain_M_faults {dp : Nat} : rm_M_faults.frames + 1 ≤ (rm_g4 (dp + 1)).frames ∧ 8 + (1 + 11) + rm_M_faults.locals ≤ (rm_g4 (dp + 1)).locals := by
  unfold rm_g4
  constructor <;> simp only [] <;> omega
theorem rm_le_M_readPlain_M_readTest {dp : Nat} : (rm_g4 dp).frames + 1 ≤ (rm_g4 (dp + 1)).frames ∧ 8 + (2 + 11) + (rm_g4 dp).locals ≤ (rm_g4 (dp + 1)).locals := by
  unfold rm_g4
  constructor <;> simp only [] <;> omega
theorem rm_le_M_readPlain_M_must {dp : Nat} : rm_M_must.frames + 1 ≤ (rm_g4 (dp + 1)).frames ∧ 8 + (2 + 11) + rm_M_must.locals ≤ (rm_g4 (dp + 1)).locals := by
  unfold rm_g4
  constructor <;> simp only [] <;> omega
theorem rm_le_M_readPlain_M_readSum {dp : Nat} : (rm_g3 64).frames + 1 ≤ (rm_g4 (dp + 1)).frames ∧ 8 + (2 + 11) + (rm_g3 64).locals ≤ (rm_g4 (dp + 1)).locals := by
  unfold rm_g4 rm_g3
  constructor <;> simp only [] <;> omega
theorem rm_le_M_readBoth_M_readPlain {dp : Nat} : (rm_g4 dp).frames + 1 ≤ (rm_g4 (dp + 1)).frames ∧ 8 + (4 + 11) + (rm_g4 dp).locals ≤ (rm_g4 (dp + 1)).locals := by
  unfold rm_g4
  constructor <;> simp only [] <;> omega
theorem rm_le_M_readBoth_M_takes0 {dp : Nat} : rm_M_takes0.frames + 1 ≤ (rm_g4 (dp + 1)).frames ∧ 8 + (3 + 11) + rm_M_takes0.locals ≤ (rm_g4 (dp + 1)).locals := by
  unfold rm_g4
  constructor <;> simp only [] <;> omega
theorem rm_le_M_readTest_M_readBoth {dp : Nat} : (rm_g4 dp).frames + 1 ≤ (rm_g4 (dp + 1)).frames ∧ 8 + (2 + 11) + (rm_g4 dp).locals ≤ (rm_g4 (dp + 1)).locals := by
  unfold rm_g4
  constructor <;> simp only [] <;> omega
theorem rm_le_M_readTest_M_takes0 {dp : Nat} : rm_M_takes0.frames + 1 ≤ (rm_g4 (dp + 1)).frames ∧ 8 + (3 + 11) + rm_M_takes0.locals ≤ (rm_g4 (dp + 1)).locals := by
  unfold rm_g4
  constructor <;> simp only [] <;> omega
def y_M_between : MethodName := ⟨zNm 11, "between", "(III)I"⟩
abbrev b_M_between : ByteArray := prog_13_method_23_code
theorem d_M_between_0 : decode b_M_between 0 = .ok (.aload_n 0, 1) := by decide +kernel
theorem d_M_between_1 : decode b_M_between 1 = .ok (.iload_n 1, 1) := by decide +kernel
theorem d_M_between_2 : decode b_M_between 2 = .ok (.iload_n 2, 1) := by decide +kernel
theorem d_M_between_3 : decode b_M_between 3 = .ok (.invokevirtual 130, 3) := by decide +kernel
theorem d_M_between_6 : decode b_M_between 6 = .ok (.ifCond .ne 5, 3) := by decide +kernel
theorem d_M_between_9 : decode b_M_between 9 = .ok (.iconst (-1), 1) := by decide +kernel
theorem d_M_between_10 : decode b_M_between 10 = .ok (.ireturn, 1) := by decide +kernel
theorem d_M_between_11 : decode b_M_between 11 = .ok (.iload_n 3, 1) := by decide +kernel
theorem d_M_between_12 : decode b_M_between 12 = .ok (.ifCond .ne 10, 3) := by decide +kernel
theorem d_M_between_15 : decode b_M_between 15 = .ok (.aload_n 0, 1) := by decide +kernel
theorem d_M_between_16 : decode b_M_between 16 = .ok (.iload_n 1, 1) := by decide +kernel
theorem d_M_between_17 : decode b_M_between 17 = .ok (.iload_n 2, 1) := by decide +kernel
theorem d_M_between_18 : decode b_M_between 18 = .ok (.invokevirtual 134, 3) := by decide +kernel
theorem d_M_between_21 : decode b_M_between 21 = .ok (.ireturn, 1) := by decide +kernel
theorem d_M_between_22 : decode b_M_between 22 = .ok (.iload_n 3, 1) := by decide +kernel
theorem d_M_between_23 : decode b_M_between 23 = .ok (.iconst 1, 1) := by decide +kernel
theorem d_M_between_24 : decode b_M_between 24 = .ok (.if_icmp .ne 17, 3) := by decide +kernel
theorem d_M_between_27 : decode b_M_between 27 = .ok (.aload_n 0, 1) := by decide +kernel
theorem d_M_between_28 : decode b_M_between 28 = .ok (.getfield 24, 3) := by decide +kernel
theorem d_M_between_31 : decode b_M_between 31 = .ok (.bipush 10, 2) := by decide +kernel
theorem d_M_between_33 : decode b_M_between 33 = .ok (.iload_n 1, 1) := by decide +kernel
theorem d_M_between_34 : decode b_M_between 34 = .ok (.iload_n 2, 1) := by decide +kernel
theorem d_M_between_35 : decode b_M_between 35 = .ok (.invokestatic 126, 3) := by decide +kernel
theorem d_M_between_38 : decode b_M_between 38 = .ok (.iadd, 1) := by decide +kernel
theorem d_M_between_39 : decode b_M_between 39 = .ok (.iaload, 1) := by decide +kernel
theorem d_M_between_40 : decode b_M_between 40 = .ok (.ireturn, 1) := by decide +kernel
theorem d_M_between_41 : decode b_M_between 41 = .ok (.aload_n 0, 1) := by decide +kernel
theorem d_M_between_42 : decode b_M_between 42 = .ok (.iload_n 1, 1) := by decide +kernel
theorem d_M_between_43 : decode b_M_between 43 = .ok (.iload_n 2, 1) := by decide +kernel
theorem d_M_between_44 : decode b_M_between 44 = .ok (.invokevirtual 134, 3) := by decide +kernel
theorem d_M_between_47 : decode b_M_between 47 = .ok (.ifCond .ne 5, 3) := by decide +kernel
theorem d_M_between_50 : decode b_M_between 50 = .ok (.iconst (-1), 1) := by decide +kernel
theorem d_M_between_51 : decode b_M_between 51 = .ok (.ireturn, 1) := by decide +kernel
theorem d_M_between_52 : decode b_M_between 52 = .ok (.iload_n 3, 1) := by decide +kernel
theorem d_M_between_53 : decode b_M_between 53 = .ok (.tableswitch 56 2 4 #[27, 34, 41], 27) := by decide +kernel
theorem d_M_between_80 : decode b_M_between 80 = .ok (.aload_n 0, 1) := by decide +kernel
theorem d_M_between_81 : decode b_M_between 81 = .ok (.iload_n 1, 1) := by decide +kernel
theorem d_M_between_82 : decode b_M_between 82 = .ok (.iload_n 2, 1) := by decide +kernel
theorem d_M_between_83 : decode b_M_between 83 = .ok (.invokevirtual 144, 3) := by decide +kernel
theorem d_M_between_86 : decode b_M_between 86 = .ok (.ireturn, 1) := by decide +kernel
theorem d_M_between_87 : decode b_M_between 87 = .ok (.aload_n 0, 1) := by decide +kernel
theorem d_M_between_88 : decode b_M_between 88 = .ok (.iload_n 1, 1) := by decide +kernel
theorem d_M_between_89 : decode b_M_between 89 = .ok (.iload_n 2, 1) := by decide +kernel
theorem d_M_between_90 : decode b_M_between 90 = .ok (.invokevirtual 147, 3) := by decide +kernel
theorem d_M_between_93 : decode b_M_between 93 = .ok (.ireturn, 1) := by decide +kernel
theorem d_M_between_94 : decode b_M_between 94 = .ok (.aload_n 0, 1) := by decide +kernel
theorem d_M_between_95 : decode b_M_between 95 = .ok (.iload_n 1, 1) := by decide +kernel
theorem d_M_between_96 : decode b_M_between 96 = .ok (.iload_n 2, 1) := by decide +kernel
theorem d_M_between_97 : decode b_M_between 97 = .ok (.invokevirtual 150, 3) := by decide +kernel
theorem d_M_between_100 : decode b_M_between 100 = .ok (.ifCond .eq 7, 3) := by decide +kernel
theorem d_M_between_103 : decode b_M_between 103 = .ok (.iconst 1, 1) := by decide +kernel
theorem d_M_between_104 : decode b_M_between 104 = .ok (.goto 4, 3) := by decide +kernel
theorem d_M_between_107 : decode b_M_between 107 = .ok (.iconst 0, 1) := by decide +kernel
theorem d_M_between_108 : decode b_M_between 108 = .ok (.ireturn, 1) := by decide +kernel
theorem d_M_between_109 : decode b_M_between 109 = .ok (.iconst (-1), 1) := by decide +kernel
theorem d_M_between_110 : decode b_M_between 110 = .ok (.ireturn, 1) := by decide +kernel
theorem mf_M_between : zMF y_M_between b_M_between 4 (some .int) 3 := ⟨zGW_in 1568 (by decide +kernel) (by decide +kernel), zGW_in 135 (by decide +kernel) (by decide +kernel), by decide +kernel⟩
theorem in_M_between : Cond.instanceMethod y_M_between ∈ zGW := zGW_in 1566 (by decide +kernel) (by decide +kernel)
theorem se_M_between : Cond.selects y_M_between.cls y_M_between y_M_between ∈ zGW := zGW_in 1567 (by decide +kernel) (by decide +kernel)
def y_M_isTerm : MethodName := ⟨zNm 11, "isTerm", "(II)Z"⟩
abbrev b_M_isTerm : ByteArray := prog_13_method_24_code
theorem d_M_isTerm_0 : decode b_M_isTerm 0 = .ok (.iload_n 0, 1) := by decide +kernel
theorem d_M_isTerm_1 : decode b_M_isTerm 1 = .ok (.tableswitch 52 0 2 #[27, 36, 44], 27) := by decide +kernel
theorem d_M_isTerm_28 : decode b_M_isTerm 28 = .ok (.iload_n 1, 1) := by decide +kernel
theorem d_M_isTerm_29 : decode b_M_isTerm 29 = .ok (.iconst 0, 1) := by decide +kernel
theorem d_M_isTerm_30 : decode b_M_isTerm 30 = .ok (.sipush 999, 3) := by decide +kernel
theorem d_M_isTerm_33 : decode b_M_isTerm 33 = .ok (.invokestatic 108, 3) := by decide +kernel
theorem d_M_isTerm_36 : decode b_M_isTerm 36 = .ok (.ireturn, 1) := by decide +kernel
theorem d_M_isTerm_37 : decode b_M_isTerm 37 = .ok (.iload_n 1, 1) := by decide +kernel
theorem d_M_isTerm_38 : decode b_M_isTerm 38 = .ok (.iconst 0, 1) := by decide +kernel
theorem d_M_isTerm_39 : decode b_M_isTerm 39 = .ok (.bipush 10, 2) := by decide +kernel
theorem d_M_isTerm_41 : decode b_M_isTerm 41 = .ok (.invokestatic 108, 3) := by decide +kernel
theorem d_M_isTerm_44 : decode b_M_isTerm 44 = .ok (.ireturn, 1) := by decide +kernel
theorem d_M_isTerm_45 : decode b_M_isTerm 45 = .ok (.iload_n 1, 1) := by decide +kernel
theorem d_M_isTerm_46 : decode b_M_isTerm 46 = .ok (.iconst 0, 1) := by decide +kernel
theorem d_M_isTerm_47 : decode b_M_isTerm 47 = .ok (.bipush 9, 2) := by decide +kernel
theorem d_M_isTerm_49 : decode b_M_isTerm 49 = .ok (.invokestatic 108, 3) := by decide +kernel
theorem d_M_isTerm_52 : decode b_M_isTerm 52 = .ok (.ireturn, 1) := by decide +kernel
theorem d_M_isTerm_53 : decode b_M_isTerm 53 = .ok (.iconst 0, 1) := by decide +kernel
theorem d_M_isTerm_54 : decode b_M_isTerm 54 = .ok (.ireturn, 1) := by decide +kernel
theorem mf_M_isTerm : zMF y_M_isTerm b_M_isTerm 2 (some .boolean) 2 := ⟨zGW_in 1591 (by decide +kernel) (by decide +kernel), zGW_in 135 (by decide +kernel) (by decide +kernel), by decide +kernel⟩
theorem st_M_isTerm : Cond.static y_M_isTerm ∈ zGW := zGW_in 1590 (by decide +kernel) (by decide +kernel)
def y_M_termAt : MethodName := ⟨zNm 11, "termAt", "(I)I"⟩
abbrev b_M_termAt : ByteArray := prog_13_method_25_code
theorem d_M_termAt_0 : decode b_M_termAt 0 = .ok (.iload_n 0, 1) := by decide +kernel
theorem d_M_termAt_1 : decode b_M_termAt 1 = .ok (.ifCond .ne 8, 3) := by decide +kernel
theorem d_M_termAt_4 : decode b_M_termAt 4 = .ok (.bipush 91, 2) := by decide +kernel
theorem d_M_termAt_6 : decode b_M_termAt 6 = .ok (.goto 17, 3) := by decide +kernel
theorem d_M_termAt_9 : decode b_M_termAt 9 = .ok (.iload_n 0, 1) := by decide +kernel
theorem d_M_termAt_10 : decode b_M_termAt 10 = .ok (.iconst 1, 1) := by decide +kernel
theorem d_M_termAt_11 : decode b_M_termAt 11 = .ok (.if_icmp .ne 9, 3) := by decide +kernel
theorem d_M_termAt_14 : decode b_M_termAt 14 = .ok (.sipush 194, 3) := by decide +kernel
theorem d_M_termAt_17 : decode b_M_termAt 17 = .ok (.goto 6, 3) := by decide +kernel
theorem d_M_termAt_20 : decode b_M_termAt 20 = .ok (.sipush 195, 3) := by decide +kernel
theorem d_M_termAt_23 : decode b_M_termAt 23 = .ok (.ireturn, 1) := by decide +kernel
theorem mf_M_termAt : zMF y_M_termAt b_M_termAt 1 (some .int) 1 := ⟨zGW_in 1594 (by decide +kernel) (by decide +kernel), zGW_in 135 (by decide +kernel) (by decide +kernel), by decide +kernel⟩
theorem st_M_termAt : Cond.static y_M_termAt ∈ zGW := zGW_in 1593 (by decide +kernel) (by decide +kernel)
def y_M_terms : MethodName := ⟨zNm 11, "terms", "(II)I"⟩
abbrev b_M_terms : ByteArray := prog_13_method_26_code
theorem d_M_terms_0 : decode b_M_terms 0 = .ok (.iload_n 1, 1) := by decide +kernel
theorem d_M_terms_1 : decode b_M_terms 1 = .ok (.iload_n 2, 1) := by decide +kernel
theorem d_M_terms_2 : decode b_M_terms 2 = .ok (.invokestatic 153, 3) := by decide +kernel
theorem d_M_terms_5 : decode b_M_terms 5 = .ok (.ifCond .ne 9, 3) := by decide +kernel
theorem d_M_terms_8 : decode b_M_terms 8 = .ok (.aload_n 0, 1) := by decide +kernel
theorem d_M_terms_9 : decode b_M_terms 9 = .ok (.iconst (-1), 1) := by decide +kernel
theorem d_M_terms_10 : decode b_M_terms 10 = .ok (.invokevirtual 112, 3) := by decide +kernel
theorem d_M_terms_13 : decode b_M_terms 13 = .ok (.ireturn, 1) := by decide +kernel
theorem d_M_terms_14 : decode b_M_terms 14 = .ok (.aload_n 0, 1) := by decide +kernel
theorem d_M_terms_15 : decode b_M_terms 15 = .ok (.getfield 24, 3) := by decide +kernel
theorem d_M_terms_18 : decode b_M_terms 18 = .ok (.iload_n 1, 1) := by decide +kernel
theorem d_M_terms_19 : decode b_M_terms 19 = .ok (.invokestatic 156, 3) := by decide +kernel
theorem d_M_terms_22 : decode b_M_terms 22 = .ok (.iaload, 1) := by decide +kernel
theorem d_M_terms_23 : decode b_M_terms 23 = .ok (.istore_n 3, 1) := by decide +kernel
theorem d_M_terms_24 : decode b_M_terms 24 = .ok (.aload_n 0, 1) := by decide +kernel
theorem d_M_terms_25 : decode b_M_terms 25 = .ok (.getfield 24, 3) := by decide +kernel
theorem d_M_terms_28 : decode b_M_terms 28 = .ok (.iload_n 1, 1) := by decide +kernel
theorem d_M_terms_29 : decode b_M_terms 29 = .ok (.invokestatic 156, 3) := by decide +kernel
theorem d_M_terms_32 : decode b_M_terms 32 = .ok (.iload_n 2, 1) := by decide +kernel
theorem d_M_terms_33 : decode b_M_terms 33 = .ok (.iastore, 1) := by decide +kernel
theorem d_M_terms_34 : decode b_M_terms 34 = .ok (.aload_n 0, 1) := by decide +kernel
theorem d_M_terms_35 : decode b_M_terms 35 = .ok (.iload_n 3, 1) := by decide +kernel
theorem d_M_terms_36 : decode b_M_terms 36 = .ok (.invokevirtual 115, 3) := by decide +kernel
theorem d_M_terms_39 : decode b_M_terms 39 = .ok (.ireturn, 1) := by decide +kernel
theorem mf_M_terms : zMF y_M_terms b_M_terms 4 (some .int) 2 := ⟨zGW_in 1588 (by decide +kernel) (by decide +kernel), zGW_in 135 (by decide +kernel) (by decide +kernel), by decide +kernel⟩
theorem in_M_terms : Cond.instanceMethod y_M_terms ∈ zGW := zGW_in 1586 (by decide +kernel) (by decide +kernel)
theorem se_M_terms : Cond.selects y_M_terms.cls y_M_terms y_M_terms ∈ zGW := zGW_in 1587 (by decide +kernel) (by decide +kernel)
def y_M_row : MethodName := ⟨zNm 11, "row", "()I"⟩
abbrev b_M_row : ByteArray := prog_13_method_27_code
theorem d_M_row_0 : decode b_M_row 0 = .ok (.aload_n 0, 1) := by decide +kernel
theorem d_M_row_1 : decode b_M_row 1 = .ok (.getfield 159, 3) := by decide +kernel
theorem d_M_row_4 : decode b_M_row 4 = .ok (.istore_n 1, 1) := by decide +kernel
theorem d_M_row_5 : decode b_M_row 5 = .ok (.aload_n 0, 1) := by decide +kernel
theorem d_M_row_6 : decode b_M_row 6 = .ok (.iconst 0, 1) := by decide +kernel
theorem d_M_row_7 : decode b_M_row 7 = .ok (.putfield 159, 3) := by decide +kernel
theorem d_M_row_10 : decode b_M_row 10 = .ok (.iload_n 1, 1) := by decide +kernel
theorem d_M_row_11 : decode b_M_row 11 = .ok (.ifCond .ne 10, 3) := by decide +kernel
theorem d_M_row_14 : decode b_M_row 14 = .ok (.aload_n 0, 1) := by decide +kernel
theorem d_M_row_15 : decode b_M_row 15 = .ok (.bipush (-6), 2) := by decide +kernel
theorem d_M_row_17 : decode b_M_row 17 = .ok (.invokevirtual 112, 3) := by decide +kernel
theorem d_M_row_20 : decode b_M_row 20 = .ok (.ireturn, 1) := by decide +kernel
theorem d_M_row_21 : decode b_M_row 21 = .ok (.iconst 0, 1) := by decide +kernel
theorem d_M_row_22 : decode b_M_row 22 = .ok (.istore_n 2, 1) := by decide +kernel
theorem d_M_row_23 : decode b_M_row 23 = .ok (.aload_n 0, 1) := by decide +kernel
theorem d_M_row_24 : decode b_M_row 24 = .ok (.iload_n 1, 1) := by decide +kernel
theorem d_M_row_25 : decode b_M_row 25 = .ok (.iconst 3, 1) := by decide +kernel
theorem d_M_row_26 : decode b_M_row 26 = .ok (.irem, 1) := by decide +kernel
theorem d_M_row_27 : decode b_M_row 27 = .ok (.ifCond .ne 7, 3) := by decide +kernel
theorem d_M_row_30 : decode b_M_row 30 = .ok (.iconst 0, 1) := by decide +kernel
theorem d_M_row_31 : decode b_M_row 31 = .ok (.goto 4, 3) := by decide +kernel
theorem d_M_row_34 : decode b_M_row 34 = .ok (.iconst 1, 1) := by decide +kernel
theorem d_M_row_35 : decode b_M_row 35 = .ok (.putfield 162, 3) := by decide +kernel
theorem d_M_row_38 : decode b_M_row 38 = .ok (.iconst 0, 1) := by decide +kernel
theorem d_M_row_39 : decode b_M_row 39 = .ok (.istore_n 3, 1) := by decide +kernel
theorem d_M_row_40 : decode b_M_row 40 = .ok (.iload_n 3, 1) := by decide +kernel
theorem d_M_row_41 : decode b_M_row 41 = .ok (.iconst 3, 1) := by decide +kernel
theorem d_M_row_42 : decode b_M_row 42 = .ok (.iadd, 1) := by decide +kernel
theorem d_M_row_43 : decode b_M_row 43 = .ok (.iload_n 1, 1) := by decide +kernel
theorem d_M_row_44 : decode b_M_row 44 = .ok (.if_icmp .gt 117, 3) := by decide +kernel
theorem d_M_row_47 : decode b_M_row 47 = .ok (.aload_n 0, 1) := by decide +kernel
theorem d_M_row_48 : decode b_M_row 48 = .ok (.aload_n 0, 1) := by decide +kernel
theorem d_M_row_49 : decode b_M_row 49 = .ok (.getfield 41, 3) := by decide +kernel
theorem d_M_row_52 : decode b_M_row 52 = .ok (.iload_n 3, 1) := by decide +kernel
theorem d_M_row_53 : decode b_M_row 53 = .ok (.baload, 1) := by decide +kernel
theorem d_M_row_54 : decode b_M_row 54 = .ok (.aload_n 0, 1) := by decide +kernel
theorem d_M_row_55 : decode b_M_row 55 = .ok (.getfield 41, 3) := by decide +kernel
theorem d_M_row_58 : decode b_M_row 58 = .ok (.iload_n 3, 1) := by decide +kernel
theorem d_M_row_59 : decode b_M_row 59 = .ok (.iconst 1, 1) := by decide +kernel
theorem d_M_row_60 : decode b_M_row 60 = .ok (.iadd, 1) := by decide +kernel
theorem d_M_row_61 : decode b_M_row 61 = .ok (.baload, 1) := by decide +kernel
theorem d_M_row_62 : decode b_M_row 62 = .ok (.invokevirtual 130, 3) := by decide +kernel
theorem d_M_row_65 : decode b_M_row 65 = .ok (.ifCond .eq 24, 3) := by decide +kernel
theorem d_M_row_68 : decode b_M_row 68 = .ok (.aload_n 0, 1) := by decide +kernel
theorem d_M_row_69 : decode b_M_row 69 = .ok (.getfield 41, 3) := by decide +kernel
theorem d_M_row_72 : decode b_M_row 72 = .ok (.iload_n 3, 1) := by decide +kernel
theorem d_M_row_73 : decode b_M_row 73 = .ok (.iconst 2, 1) := by decide +kernel
theorem d_M_row_74 : decode b_M_row 74 = .ok (.iadd, 1) := by decide +kernel
theorem d_M_row_75 : decode b_M_row 75 = .ok (.baload, 1) := by decide +kernel
theorem d_M_row_76 : decode b_M_row 76 = .ok (.iconst 0, 1) := by decide +kernel
theorem d_M_row_77 : decode b_M_row 77 = .ok (.bipush 50, 2) := by decide +kernel
theorem d_M_row_79 : decode b_M_row 79 = .ok (.invokestatic 108, 3) := by decide +kernel
theorem d_M_row_82 : decode b_M_row 82 = .ok (.ifCond .eq 7, 3) := by decide +kernel
theorem d_M_row_85 : decode b_M_row 85 = .ok (.iconst 1, 1) := by decide +kernel
theorem d_M_row_86 : decode b_M_row 86 = .ok (.goto 4, 3) := by decide +kernel
theorem d_M_row_89 : decode b_M_row 89 = .ok (.iconst 0, 1) := by decide +kernel
theorem d_M_row_90 : decode b_M_row 90 = .ok (.istore 4, 2) := by decide +kernel
theorem d_M_row_92 : decode b_M_row 92 = .ok (.iload 4, 2) := by decide +kernel
theorem d_M_row_94 : decode b_M_row 94 = .ok (.ifCond .eq 29, 3) := by decide +kernel
theorem d_M_row_97 : decode b_M_row 97 = .ok (.aload_n 0, 1) := by decide +kernel
theorem d_M_row_98 : decode b_M_row 98 = .ok (.aload_n 0, 1) := by decide +kernel
theorem d_M_row_99 : decode b_M_row 99 = .ok (.getfield 41, 3) := by decide +kernel
theorem d_M_row_102 : decode b_M_row 102 = .ok (.iload_n 3, 1) := by decide +kernel
theorem d_M_row_103 : decode b_M_row 103 = .ok (.baload, 1) := by decide +kernel
theorem d_M_row_104 : decode b_M_row 104 = .ok (.aload_n 0, 1) := by decide +kernel
theorem d_M_row_105 : decode b_M_row 105 = .ok (.getfield 41, 3) := by decide +kernel
theorem d_M_row_108 : decode b_M_row 108 = .ok (.iload_n 3, 1) := by decide +kernel
theorem d_M_row_109 : decode b_M_row 109 = .ok (.iconst 1, 1) := by decide +kernel
theorem d_M_row_110 : decode b_M_row 110 = .ok (.iadd, 1) := by decide +kernel
theorem d_M_row_111 : decode b_M_row 111 = .ok (.baload, 1) := by decide +kernel
theorem d_M_row_112 : decode b_M_row 112 = .ok (.aload_n 0, 1) := by decide +kernel
theorem d_M_row_113 : decode b_M_row 113 = .ok (.getfield 41, 3) := by decide +kernel
theorem d_M_row_116 : decode b_M_row 116 = .ok (.iload_n 3, 1) := by decide +kernel
theorem d_M_row_117 : decode b_M_row 117 = .ok (.iconst 2, 1) := by decide +kernel
theorem d_M_row_118 : decode b_M_row 118 = .ok (.iadd, 1) := by decide +kernel
theorem d_M_row_119 : decode b_M_row 119 = .ok (.baload, 1) := by decide +kernel
theorem d_M_row_120 : decode b_M_row 120 = .ok (.invokevirtual 137, 3) := by decide +kernel
theorem d_M_row_123 : decode b_M_row 123 = .ok (.iload_n 2, 1) := by decide +kernel
theorem d_M_row_124 : decode b_M_row 124 = .ok (.iload 4, 2) := by decide +kernel
theorem d_M_row_126 : decode b_M_row 126 = .ok (.ifCond .eq 7, 3) := by decide +kernel
theorem d_M_row_129 : decode b_M_row 129 = .ok (.iconst 1, 1) := by decide +kernel
theorem d_M_row_130 : decode b_M_row 130 = .ok (.goto 4, 3) := by decide +kernel
theorem d_M_row_133 : decode b_M_row 133 = .ok (.iconst 0, 1) := by decide +kernel
theorem d_M_row_134 : decode b_M_row 134 = .ok (.iadd, 1) := by decide +kernel
theorem d_M_row_135 : decode b_M_row 135 = .ok (.istore_n 2, 1) := by decide +kernel
theorem d_M_row_136 : decode b_M_row 136 = .ok (.aload_n 0, 1) := by decide +kernel
theorem d_M_row_137 : decode b_M_row 137 = .ok (.dup, 1) := by decide +kernel
theorem d_M_row_138 : decode b_M_row 138 = .ok (.getfield 162, 3) := by decide +kernel
theorem d_M_row_141 : decode b_M_row 141 = .ok (.iload 4, 2) := by decide +kernel
theorem d_M_row_143 : decode b_M_row 143 = .ok (.ifCond .eq 7, 3) := by decide +kernel
theorem d_M_row_146 : decode b_M_row 146 = .ok (.iconst 0, 1) := by decide +kernel
theorem d_M_row_147 : decode b_M_row 147 = .ok (.goto 4, 3) := by decide +kernel
theorem d_M_row_150 : decode b_M_row 150 = .ok (.iconst 1, 1) := by decide +kernel
theorem d_M_row_151 : decode b_M_row 151 = .ok (.iadd, 1) := by decide +kernel
theorem d_M_row_152 : decode b_M_row 152 = .ok (.putfield 162, 3) := by decide +kernel
theorem d_M_row_155 : decode b_M_row 155 = .ok (.iinc 3 3, 3) := by decide +kernel
theorem d_M_row_158 : decode b_M_row 158 = .ok (.goto (-118), 3) := by decide +kernel
theorem d_M_row_161 : decode b_M_row 161 = .ok (.aload_n 0, 1) := by decide +kernel
theorem d_M_row_162 : decode b_M_row 162 = .ok (.iload_n 2, 1) := by decide +kernel
theorem d_M_row_163 : decode b_M_row 163 = .ok (.invokevirtual 115, 3) := by decide +kernel
theorem d_M_row_166 : decode b_M_row 166 = .ok (.ireturn, 1) := by decide +kernel
theorem mf_M_row : zMF y_M_row b_M_row 5 (some .int) 0 := ⟨zGW_in 1598 (by decide +kernel) (by decide +kernel), zGW_in 135 (by decide +kernel) (by decide +kernel), by decide +kernel⟩
theorem in_M_row : Cond.instanceMethod y_M_row ∈ zGW := zGW_in 1596 (by decide +kernel) (by decide +kernel)
theorem se_M_row : Cond.selects y_M_row.cls y_M_row y_M_row ∈ zGW := zGW_in 1597 (by decide +kernel) (by decide +kernel)
def y_M_bubbles : MethodName := ⟨zNm 11, "bubbles", "()I"⟩
abbrev b_M_bubbles : ByteArray := prog_13_method_28_code
theorem d_M_bubbles_0 : decode b_M_bubbles 0 = .ok (.aload_n 0, 1) := by decide +kernel
theorem d_M_bubbles_1 : decode b_M_bubbles 1 = .ok (.getfield 162, 3) := by decide +kernel
theorem d_M_bubbles_4 : decode b_M_bubbles 4 = .ok (.ireturn, 1) := by decide +kernel
theorem mf_M_bubbles : zMF y_M_bubbles b_M_bubbles 1 (some .int) 0 := ⟨zGW_in 1602 (by decide +kernel) (by decide +kernel), zGW_in 135 (by decide +kernel) (by decide +kernel), by decide +kernel⟩
theorem in_M_bubbles : Cond.instanceMethod y_M_bubbles ∈ zGW := zGW_in 1600 (by decide +kernel) (by decide +kernel)
theorem se_M_bubbles : Cond.selects y_M_bubbles.cls y_M_bubbles y_M_bubbles ∈ zGW := zGW_in 1601 (by decide +kernel) (by decide +kernel)
def y_M_feed : MethodName := ⟨zNm 11, "feed", "(IIIII)I"⟩
abbrev b_M_feed : ByteArray := prog_13_method_29_code
theorem d_M_feed_0 : decode b_M_feed 0 = .ok (.aload_n 0, 1) := by decide +kernel
theorem d_M_feed_1 : decode b_M_feed 1 = .ok (.getfield 159, 3) := by decide +kernel
theorem d_M_feed_4 : decode b_M_feed 4 = .ok (.bipush 20, 2) := by decide +kernel
theorem d_M_feed_6 : decode b_M_feed 6 = .ok (.iadd, 1) := by decide +kernel
theorem d_M_feed_7 : decode b_M_feed 7 = .ok (.sipush 400, 3) := by decide +kernel
theorem d_M_feed_10 : decode b_M_feed 10 = .ok (.if_icmp .le 5, 3) := by decide +kernel
theorem d_M_feed_13 : decode b_M_feed 13 = .ok (.iconst (-1), 1) := by decide +kernel
theorem d_M_feed_14 : decode b_M_feed 14 = .ok (.ireturn, 1) := by decide +kernel
theorem d_M_feed_15 : decode b_M_feed 15 = .ok (.aload_n 0, 1) := by decide +kernel
theorem d_M_feed_16 : decode b_M_feed 16 = .ok (.getfield 44, 3) := by decide +kernel
theorem d_M_feed_19 : decode b_M_feed 19 = .ok (.iconst 0, 1) := by decide +kernel
theorem d_M_feed_20 : decode b_M_feed 20 = .ok (.iload_n 1, 1) := by decide +kernel
theorem d_M_feed_21 : decode b_M_feed 21 = .ok (.iastore, 1) := by decide +kernel
theorem d_M_feed_22 : decode b_M_feed 22 = .ok (.aload_n 0, 1) := by decide +kernel
theorem d_M_feed_23 : decode b_M_feed 23 = .ok (.getfield 44, 3) := by decide +kernel
theorem d_M_feed_26 : decode b_M_feed 26 = .ok (.iconst 1, 1) := by decide +kernel
theorem d_M_feed_27 : decode b_M_feed 27 = .ok (.iload_n 2, 1) := by decide +kernel
theorem d_M_feed_28 : decode b_M_feed 28 = .ok (.iastore, 1) := by decide +kernel
theorem d_M_feed_29 : decode b_M_feed 29 = .ok (.aload_n 0, 1) := by decide +kernel
theorem d_M_feed_30 : decode b_M_feed 30 = .ok (.getfield 44, 3) := by decide +kernel
theorem d_M_feed_33 : decode b_M_feed 33 = .ok (.iconst 2, 1) := by decide +kernel
theorem d_M_feed_34 : decode b_M_feed 34 = .ok (.iload_n 3, 1) := by decide +kernel
theorem d_M_feed_35 : decode b_M_feed 35 = .ok (.iastore, 1) := by decide +kernel
theorem d_M_feed_36 : decode b_M_feed 36 = .ok (.aload_n 0, 1) := by decide +kernel
theorem d_M_feed_37 : decode b_M_feed 37 = .ok (.getfield 44, 3) := by decide +kernel
theorem d_M_feed_40 : decode b_M_feed 40 = .ok (.iconst 3, 1) := by decide +kernel
theorem d_M_feed_41 : decode b_M_feed 41 = .ok (.iload 4, 2) := by decide +kernel
theorem d_M_feed_43 : decode b_M_feed 43 = .ok (.iastore, 1) := by decide +kernel
theorem d_M_feed_44 : decode b_M_feed 44 = .ok (.aload_n 0, 1) := by decide +kernel
theorem d_M_feed_45 : decode b_M_feed 45 = .ok (.getfield 44, 3) := by decide +kernel
theorem d_M_feed_48 : decode b_M_feed 48 = .ok (.iconst 4, 1) := by decide +kernel
theorem d_M_feed_49 : decode b_M_feed 49 = .ok (.iload 5, 2) := by decide +kernel
theorem d_M_feed_51 : decode b_M_feed 51 = .ok (.iastore, 1) := by decide +kernel
theorem d_M_feed_52 : decode b_M_feed 52 = .ok (.iconst 0, 1) := by decide +kernel
theorem d_M_feed_53 : decode b_M_feed 53 = .ok (.istore 6, 2) := by decide +kernel
theorem d_M_feed_55 : decode b_M_feed 55 = .ok (.iload 6, 2) := by decide +kernel
theorem d_M_feed_57 : decode b_M_feed 57 = .ok (.bipush 20, 2) := by decide +kernel
theorem d_M_feed_59 : decode b_M_feed 59 = .ok (.if_icmp .ge 42, 3) := by decide +kernel
theorem d_M_feed_62 : decode b_M_feed 62 = .ok (.aload_n 0, 1) := by decide +kernel
theorem d_M_feed_63 : decode b_M_feed 63 = .ok (.getfield 41, 3) := by decide +kernel
theorem d_M_feed_66 : decode b_M_feed 66 = .ok (.aload_n 0, 1) := by decide +kernel
theorem d_M_feed_67 : decode b_M_feed 67 = .ok (.getfield 159, 3) := by decide +kernel
theorem d_M_feed_70 : decode b_M_feed 70 = .ok (.iload 6, 2) := by decide +kernel
theorem d_M_feed_72 : decode b_M_feed 72 = .ok (.iadd, 1) := by decide +kernel
theorem d_M_feed_73 : decode b_M_feed 73 = .ok (.aload_n 0, 1) := by decide +kernel
theorem d_M_feed_74 : decode b_M_feed 74 = .ok (.getfield 44, 3) := by decide +kernel
theorem d_M_feed_77 : decode b_M_feed 77 = .ok (.iload 6, 2) := by decide +kernel
theorem d_M_feed_79 : decode b_M_feed 79 = .ok (.iconst 4, 1) := by decide +kernel
theorem d_M_feed_80 : decode b_M_feed 80 = .ok (.idiv, 1) := by decide +kernel
theorem d_M_feed_81 : decode b_M_feed 81 = .ok (.iaload, 1) := by decide +kernel
theorem d_M_feed_82 : decode b_M_feed 82 = .ok (.bipush 24, 2) := by decide +kernel
theorem d_M_feed_84 : decode b_M_feed 84 = .ok (.bipush 8, 2) := by decide +kernel
theorem d_M_feed_86 : decode b_M_feed 86 = .ok (.iload 6, 2) := by decide +kernel
theorem d_M_feed_88 : decode b_M_feed 88 = .ok (.iconst 4, 1) := by decide +kernel
theorem d_M_feed_89 : decode b_M_feed 89 = .ok (.irem, 1) := by decide +kernel
theorem d_M_feed_90 : decode b_M_feed 90 = .ok (.imul, 1) := by decide +kernel
theorem d_M_feed_91 : decode b_M_feed 91 = .ok (.isub, 1) := by decide +kernel
theorem d_M_feed_92 : decode b_M_feed 92 = .ok (.ishr, 1) := by decide +kernel
theorem d_M_feed_93 : decode b_M_feed 93 = .ok (.i2b, 1) := by decide +kernel
theorem d_M_feed_94 : decode b_M_feed 94 = .ok (.bastore, 1) := by decide +kernel
theorem d_M_feed_95 : decode b_M_feed 95 = .ok (.iinc 6 1, 3) := by decide +kernel
theorem d_M_feed_98 : decode b_M_feed 98 = .ok (.goto (-43), 3) := by decide +kernel
theorem d_M_feed_101 : decode b_M_feed 101 = .ok (.aload_n 0, 1) := by decide +kernel
theorem d_M_feed_102 : decode b_M_feed 102 = .ok (.dup, 1) := by decide +kernel
theorem d_M_feed_103 : decode b_M_feed 103 = .ok (.getfield 159, 3) := by decide +kernel
theorem d_M_feed_106 : decode b_M_feed 106 = .ok (.bipush 20, 2) := by decide +kernel
theorem d_M_feed_108 : decode b_M_feed 108 = .ok (.iadd, 1) := by decide +kernel
theorem d_M_feed_109 : decode b_M_feed 109 = .ok (.putfield 159, 3) := by decide +kernel
theorem d_M_feed_112 : decode b_M_feed 112 = .ok (.aload_n 0, 1) := by decide +kernel
theorem d_M_feed_113 : decode b_M_feed 113 = .ok (.getfield 159, 3) := by decide +kernel
theorem d_M_feed_116 : decode b_M_feed 116 = .ok (.ireturn, 1) := by decide +kernel
theorem mf_M_feed : zMF y_M_feed b_M_feed 7 (some .int) 5 := ⟨zGW_in 1606 (by decide +kernel) (by decide +kernel), zGW_in 135 (by decide +kernel) (by decide +kernel), by decide +kernel⟩
theorem in_M_feed : Cond.instanceMethod y_M_feed ∈ zGW := zGW_in 1604 (by decide +kernel) (by decide +kernel)
theorem se_M_feed : Cond.selects y_M_feed.cls y_M_feed y_M_feed ∈ zGW := zGW_in 1605 (by decide +kernel) (by decide +kernel)
def y_M_end : MethodName := ⟨zNm 11, "end", "(I)I"⟩
abbrev b_M_end : ByteArray := prog_13_method_30_code
theorem d_M_end_0 : decode b_M_end 0 = .ok (.iload_n 1, 1) := by decide +kernel
theorem d_M_end_1 : decode b_M_end 1 = .ok (.iconst 0, 1) := by decide +kernel
theorem d_M_end_2 : decode b_M_end 2 = .ok (.aload_n 0, 1) := by decide +kernel
theorem d_M_end_3 : decode b_M_end 3 = .ok (.getfield 159, 3) := by decide +kernel
theorem d_M_end_6 : decode b_M_end 6 = .ok (.invokestatic 108, 3) := by decide +kernel
theorem d_M_end_9 : decode b_M_end 9 = .ok (.ifCond .ne 5, 3) := by decide +kernel
theorem d_M_end_12 : decode b_M_end 12 = .ok (.iconst (-1), 1) := by decide +kernel
theorem d_M_end_13 : decode b_M_end 13 = .ok (.ireturn, 1) := by decide +kernel
theorem d_M_end_14 : decode b_M_end 14 = .ok (.aload_n 0, 1) := by decide +kernel
theorem d_M_end_15 : decode b_M_end 15 = .ok (.iload_n 1, 1) := by decide +kernel
theorem d_M_end_16 : decode b_M_end 16 = .ok (.putfield 159, 3) := by decide +kernel
theorem d_M_end_19 : decode b_M_end 19 = .ok (.iload_n 1, 1) := by decide +kernel
theorem d_M_end_20 : decode b_M_end 20 = .ok (.ireturn, 1) := by decide +kernel
theorem mf_M_end : zMF y_M_end b_M_end 2 (some .int) 1 := ⟨zGW_in 1610 (by decide +kernel) (by decide +kernel), zGW_in 135 (by decide +kernel) (by decide +kernel), by decide +kernel⟩
theorem in_M_end : Cond.instanceMethod y_M_end ∈ zGW := zGW_in 1608 (by decide +kernel) (by decide +kernel)
theorem se_M_end : Cond.selects y_M_end.cls y_M_end y_M_end ∈ zGW := zGW_in 1609 (by decide +kernel) (by decide +kernel)
def y_M_isSmall : MethodName := ⟨zNm 11, "isSmall", "(I)Z"⟩
abbrev b_M_isSmall : ByteArray := prog_13_method_31_code
theorem d_M_isSmall_0 : decode b_M_isSmall 0 = .ok (.iload_n 0, 1) := by decide +kernel
theorem d_M_isSmall_1 : decode b_M_isSmall 1 = .ok (.bipush 97, 2) := by decide +kernel
theorem d_M_isSmall_3 : decode b_M_isSmall 3 = .ok (.if_icmp .lt 13, 3) := by decide +kernel
theorem d_M_isSmall_6 : decode b_M_isSmall 6 = .ok (.iload_n 0, 1) := by decide +kernel
theorem d_M_isSmall_7 : decode b_M_isSmall 7 = .ok (.bipush 122, 2) := by decide +kernel
theorem d_M_isSmall_9 : decode b_M_isSmall 9 = .ok (.if_icmp .gt 7, 3) := by decide +kernel
theorem d_M_isSmall_12 : decode b_M_isSmall 12 = .ok (.iconst 1, 1) := by decide +kernel
theorem d_M_isSmall_13 : decode b_M_isSmall 13 = .ok (.goto 4, 3) := by decide +kernel
theorem d_M_isSmall_16 : decode b_M_isSmall 16 = .ok (.iconst 0, 1) := by decide +kernel
theorem d_M_isSmall_17 : decode b_M_isSmall 17 = .ok (.ireturn, 1) := by decide +kernel
theorem mf_M_isSmall : zMF y_M_isSmall b_M_isSmall 1 (some .boolean) 1 := ⟨zGW_in 1629 (by decide +kernel) (by decide +kernel), zGW_in 135 (by decide +kernel) (by decide +kernel), by decide +kernel⟩
theorem st_M_isSmall : Cond.static y_M_isSmall ∈ zGW := zGW_in 1628 (by decide +kernel) (by decide +kernel)
def y_M_isDigit : MethodName := ⟨zNm 11, "isDigit", "(I)Z"⟩
abbrev b_M_isDigit : ByteArray := prog_13_method_32_code
theorem d_M_isDigit_0 : decode b_M_isDigit 0 = .ok (.iload_n 0, 1) := by decide +kernel
theorem d_M_isDigit_1 : decode b_M_isDigit 1 = .ok (.bipush 48, 2) := by decide +kernel
theorem d_M_isDigit_3 : decode b_M_isDigit 3 = .ok (.if_icmp .lt 13, 3) := by decide +kernel
theorem d_M_isDigit_6 : decode b_M_isDigit 6 = .ok (.iload_n 0, 1) := by decide +kernel
theorem d_M_isDigit_7 : decode b_M_isDigit 7 = .ok (.bipush 57, 2) := by decide +kernel
theorem d_M_isDigit_9 : decode b_M_isDigit 9 = .ok (.if_icmp .gt 7, 3) := by decide +kernel
theorem d_M_isDigit_12 : decode b_M_isDigit 12 = .ok (.iconst 1, 1) := by decide +kernel
theorem d_M_isDigit_13 : decode b_M_isDigit 13 = .ok (.goto 4, 3) := by decide +kernel
theorem d_M_isDigit_16 : decode b_M_isDigit 16 = .ok (.iconst 0, 1) := by decide +kernel
theorem d_M_isDigit_17 : decode b_M_isDigit 17 = .ok (.ireturn, 1) := by decide +kernel
theorem mf_M_isDigit : zMF y_M_isDigit b_M_isDigit 1 (some .boolean) 1 := ⟨zGW_in 1632 (by decide +kernel) (by decide +kernel), zGW_in 135 (by decide +kernel) (by decide +kernel), by decide +kernel⟩
theorem st_M_isDigit : Cond.static y_M_isDigit ∈ zGW := zGW_in 1631 (by decide +kernel) (by decide +kernel)
def y_M_wordOf : MethodName := ⟨zNm 11, "wordOf", "(II)I"⟩
abbrev b_M_wordOf : ByteArray := prog_13_method_33_code
theorem d_M_wordOf_0 : decode b_M_wordOf 0 = .ok (.iconst 1, 1) := by decide +kernel
theorem d_M_wordOf_1 : decode b_M_wordOf 1 = .ok (.istore_n 3, 1) := by decide +kernel
theorem d_M_wordOf_2 : decode b_M_wordOf 2 = .ok (.iconst 0, 1) := by decide +kernel
theorem d_M_wordOf_3 : decode b_M_wordOf 3 = .ok (.istore 4, 2) := by decide +kernel
theorem d_M_wordOf_5 : decode b_M_wordOf 5 = .ok (.iload 4, 2) := by decide +kernel
theorem d_M_wordOf_7 : decode b_M_wordOf 7 = .ok (.aload_n 0, 1) := by decide +kernel
theorem d_M_wordOf_8 : decode b_M_wordOf 8 = .ok (.getfield 37, 3) := by decide +kernel
theorem d_M_wordOf_11 : decode b_M_wordOf 11 = .ok (.arraylength, 1) := by decide +kernel
theorem d_M_wordOf_12 : decode b_M_wordOf 12 = .ok (.if_icmp .ge 114, 3) := by decide +kernel
theorem d_M_wordOf_15 : decode b_M_wordOf 15 = .ok (.iconst 0, 1) := by decide +kernel
theorem d_M_wordOf_16 : decode b_M_wordOf 16 = .ok (.istore 5, 2) := by decide +kernel
theorem d_M_wordOf_18 : decode b_M_wordOf 18 = .ok (.aload_n 0, 1) := by decide +kernel
theorem d_M_wordOf_19 : decode b_M_wordOf 19 = .ok (.getfield 37, 3) := by decide +kernel
theorem d_M_wordOf_22 : decode b_M_wordOf 22 = .ok (.iload 4, 2) := by decide +kernel
theorem d_M_wordOf_24 : decode b_M_wordOf 24 = .ok (.iload 5, 2) := by decide +kernel
theorem d_M_wordOf_26 : decode b_M_wordOf 26 = .ok (.iadd, 1) := by decide +kernel
theorem d_M_wordOf_27 : decode b_M_wordOf 27 = .ok (.baload, 1) := by decide +kernel
theorem d_M_wordOf_28 : decode b_M_wordOf 28 = .ok (.bipush 32, 2) := by decide +kernel
theorem d_M_wordOf_30 : decode b_M_wordOf 30 = .ok (.if_icmp .eq 9, 3) := by decide +kernel
theorem d_M_wordOf_33 : decode b_M_wordOf 33 = .ok (.iinc 5 1, 3) := by decide +kernel
theorem d_M_wordOf_36 : decode b_M_wordOf 36 = .ok (.goto (-18), 3) := by decide +kernel
theorem d_M_wordOf_39 : decode b_M_wordOf 39 = .ok (.iload 5, 2) := by decide +kernel
theorem d_M_wordOf_41 : decode b_M_wordOf 41 = .ok (.iload_n 2, 1) := by decide +kernel
theorem d_M_wordOf_42 : decode b_M_wordOf 42 = .ok (.iload_n 1, 1) := by decide +kernel
theorem d_M_wordOf_43 : decode b_M_wordOf 43 = .ok (.isub, 1) := by decide +kernel
theorem d_M_wordOf_44 : decode b_M_wordOf 44 = .ok (.if_icmp .ne 7, 3) := by decide +kernel
theorem d_M_wordOf_47 : decode b_M_wordOf 47 = .ok (.iconst 1, 1) := by decide +kernel
theorem d_M_wordOf_48 : decode b_M_wordOf 48 = .ok (.goto 4, 3) := by decide +kernel
theorem d_M_wordOf_51 : decode b_M_wordOf 51 = .ok (.iconst 0, 1) := by decide +kernel
theorem d_M_wordOf_52 : decode b_M_wordOf 52 = .ok (.istore 6, 2) := by decide +kernel
theorem d_M_wordOf_54 : decode b_M_wordOf 54 = .ok (.iconst 0, 1) := by decide +kernel
theorem d_M_wordOf_55 : decode b_M_wordOf 55 = .ok (.istore 7, 2) := by decide +kernel
theorem d_M_wordOf_57 : decode b_M_wordOf 57 = .ok (.iload 7, 2) := by decide +kernel
theorem d_M_wordOf_59 : decode b_M_wordOf 59 = .ok (.iload 5, 2) := by decide +kernel
theorem d_M_wordOf_61 : decode b_M_wordOf 61 = .ok (.if_icmp .ge 43, 3) := by decide +kernel
theorem d_M_wordOf_64 : decode b_M_wordOf 64 = .ok (.iload 6, 2) := by decide +kernel
theorem d_M_wordOf_66 : decode b_M_wordOf 66 = .ok (.ifCond .eq 38, 3) := by decide +kernel
theorem d_M_wordOf_69 : decode b_M_wordOf 69 = .ok (.aload_n 0, 1) := by decide +kernel
theorem d_M_wordOf_70 : decode b_M_wordOf 70 = .ok (.getfield 37, 3) := by decide +kernel
theorem d_M_wordOf_73 : decode b_M_wordOf 73 = .ok (.iload 4, 2) := by decide +kernel
theorem d_M_wordOf_75 : decode b_M_wordOf 75 = .ok (.iload 7, 2) := by decide +kernel
theorem d_M_wordOf_77 : decode b_M_wordOf 77 = .ok (.iadd, 1) := by decide +kernel
theorem d_M_wordOf_78 : decode b_M_wordOf 78 = .ok (.baload, 1) := by decide +kernel
theorem d_M_wordOf_79 : decode b_M_wordOf 79 = .ok (.aload_n 0, 1) := by decide +kernel
theorem d_M_wordOf_80 : decode b_M_wordOf 80 = .ok (.getfield 41, 3) := by decide +kernel
theorem d_M_wordOf_83 : decode b_M_wordOf 83 = .ok (.iload_n 1, 1) := by decide +kernel
theorem d_M_wordOf_84 : decode b_M_wordOf 84 = .ok (.iload 7, 2) := by decide +kernel
theorem d_M_wordOf_86 : decode b_M_wordOf 86 = .ok (.iadd, 1) := by decide +kernel
theorem d_M_wordOf_87 : decode b_M_wordOf 87 = .ok (.baload, 1) := by decide +kernel
theorem d_M_wordOf_88 : decode b_M_wordOf 88 = .ok (.if_icmp .ne 7, 3) := by decide +kernel
theorem d_M_wordOf_91 : decode b_M_wordOf 91 = .ok (.iconst 1, 1) := by decide +kernel
theorem d_M_wordOf_92 : decode b_M_wordOf 92 = .ok (.goto 4, 3) := by decide +kernel
theorem d_M_wordOf_95 : decode b_M_wordOf 95 = .ok (.iconst 0, 1) := by decide +kernel
theorem d_M_wordOf_96 : decode b_M_wordOf 96 = .ok (.istore 6, 2) := by decide +kernel
theorem d_M_wordOf_98 : decode b_M_wordOf 98 = .ok (.iinc 7 1, 3) := by decide +kernel
theorem d_M_wordOf_101 : decode b_M_wordOf 101 = .ok (.goto (-44), 3) := by decide +kernel
theorem d_M_wordOf_104 : decode b_M_wordOf 104 = .ok (.iload 6, 2) := by decide +kernel
theorem d_M_wordOf_106 : decode b_M_wordOf 106 = .ok (.ifCond .eq 5, 3) := by decide +kernel
theorem d_M_wordOf_109 : decode b_M_wordOf 109 = .ok (.iload_n 3, 1) := by decide +kernel
theorem d_M_wordOf_110 : decode b_M_wordOf 110 = .ok (.ireturn, 1) := by decide +kernel
theorem d_M_wordOf_111 : decode b_M_wordOf 111 = .ok (.iload 4, 2) := by decide +kernel
theorem d_M_wordOf_113 : decode b_M_wordOf 113 = .ok (.iload 5, 2) := by decide +kernel
theorem d_M_wordOf_115 : decode b_M_wordOf 115 = .ok (.iconst 1, 1) := by decide +kernel
theorem d_M_wordOf_116 : decode b_M_wordOf 116 = .ok (.iadd, 1) := by decide +kernel
theorem d_M_wordOf_117 : decode b_M_wordOf 117 = .ok (.iadd, 1) := by decide +kernel
theorem d_M_wordOf_118 : decode b_M_wordOf 118 = .ok (.istore 4, 2) := by decide +kernel
theorem d_M_wordOf_120 : decode b_M_wordOf 120 = .ok (.iinc 3 1, 3) := by decide +kernel
theorem d_M_wordOf_123 : decode b_M_wordOf 123 = .ok (.goto (-118), 3) := by decide +kernel
theorem d_M_wordOf_126 : decode b_M_wordOf 126 = .ok (.iconst 0, 1) := by decide +kernel
theorem d_M_wordOf_127 : decode b_M_wordOf 127 = .ok (.ireturn, 1) := by decide +kernel
theorem mf_M_wordOf : zMF y_M_wordOf b_M_wordOf 8 (some .int) 2 := ⟨zGW_in 1636 (by decide +kernel) (by decide +kernel), zGW_in 135 (by decide +kernel) (by decide +kernel), by decide +kernel⟩
theorem in_M_wordOf : Cond.instanceMethod y_M_wordOf ∈ zGW := zGW_in 1635 (by decide +kernel) (by decide +kernel)
theorem se_M_wordOf : Cond.selects y_M_wordOf.cls y_M_wordOf y_M_wordOf ∈ zGW := zGW_in 71 (by decide +kernel) (by decide +kernel)
def y_M_splits : MethodName := ⟨zNm 11, "splits", "(I)V"⟩
abbrev b_M_splits : ByteArray := prog_13_method_34_code
theorem d_M_splits_0 : decode b_M_splits 0 = .ok (.aload_n 0, 1) := by decide +kernel
theorem d_M_splits_1 : decode b_M_splits 1 = .ok (.iconst 0, 1) := by decide +kernel
theorem d_M_splits_2 : decode b_M_splits 2 = .ok (.putfield 165, 3) := by decide +kernel
theorem d_M_splits_5 : decode b_M_splits 5 = .ok (.iconst 0, 1) := by decide +kernel
theorem d_M_splits_6 : decode b_M_splits 6 = .ok (.istore_n 2, 1) := by decide +kernel
theorem d_M_splits_7 : decode b_M_splits 7 = .ok (.iload_n 2, 1) := by decide +kernel
theorem d_M_splits_8 : decode b_M_splits 8 = .ok (.iload_n 1, 1) := by decide +kernel
theorem d_M_splits_9 : decode b_M_splits 9 = .ok (.if_icmp .ge 254, 3) := by decide +kernel
theorem d_M_splits_12 : decode b_M_splits 12 = .ok (.aload_n 0, 1) := by decide +kernel
theorem d_M_splits_13 : decode b_M_splits 13 = .ok (.getfield 41, 3) := by decide +kernel
theorem d_M_splits_16 : decode b_M_splits 16 = .ok (.iload_n 2, 1) := by decide +kernel
theorem d_M_splits_17 : decode b_M_splits 17 = .ok (.baload, 1) := by decide +kernel
theorem d_M_splits_18 : decode b_M_splits 18 = .ok (.istore_n 3, 1) := by decide +kernel
theorem d_M_splits_19 : decode b_M_splits 19 = .ok (.iload_n 3, 1) := by decide +kernel
theorem d_M_splits_20 : decode b_M_splits 20 = .ok (.bipush 32, 2) := by decide +kernel
theorem d_M_splits_22 : decode b_M_splits 22 = .ok (.if_icmp .ne 9, 3) := by decide +kernel
theorem d_M_splits_25 : decode b_M_splits 25 = .ok (.iinc 2 1, 3) := by decide +kernel
theorem d_M_splits_28 : decode b_M_splits 28 = .ok (.goto (-21), 3) := by decide +kernel
theorem d_M_splits_31 : decode b_M_splits 31 = .ok (.iload_n 2, 1) := by decide +kernel
theorem d_M_splits_32 : decode b_M_splits 32 = .ok (.iconst 1, 1) := by decide +kernel
theorem d_M_splits_33 : decode b_M_splits 33 = .ok (.iadd, 1) := by decide +kernel
theorem d_M_splits_34 : decode b_M_splits 34 = .ok (.istore 4, 2) := by decide +kernel
theorem d_M_splits_36 : decode b_M_splits 36 = .ok (.iload_n 3, 1) := by decide +kernel
theorem d_M_splits_37 : decode b_M_splits 37 = .ok (.invokestatic 168, 3) := by decide +kernel
theorem d_M_splits_40 : decode b_M_splits 40 = .ok (.ifCond .eq 28, 3) := by decide +kernel
theorem d_M_splits_43 : decode b_M_splits 43 = .ok (.iload 4, 2) := by decide +kernel
theorem d_M_splits_45 : decode b_M_splits 45 = .ok (.iload_n 1, 1) := by decide +kernel
theorem d_M_splits_46 : decode b_M_splits 46 = .ok (.if_icmp .ge 22, 3) := by decide +kernel
theorem d_M_splits_49 : decode b_M_splits 49 = .ok (.aload_n 0, 1) := by decide +kernel
theorem d_M_splits_50 : decode b_M_splits 50 = .ok (.getfield 41, 3) := by decide +kernel
theorem d_M_splits_53 : decode b_M_splits 53 = .ok (.iload 4, 2) := by decide +kernel
theorem d_M_splits_55 : decode b_M_splits 55 = .ok (.baload, 1) := by decide +kernel
theorem d_M_splits_56 : decode b_M_splits 56 = .ok (.invokestatic 168, 3) := by decide +kernel
theorem d_M_splits_59 : decode b_M_splits 59 = .ok (.ifCond .eq 9, 3) := by decide +kernel
theorem d_M_splits_62 : decode b_M_splits 62 = .ok (.iinc 4 1, 3) := by decide +kernel
theorem d_M_splits_65 : decode b_M_splits 65 = .ok (.goto (-22), 3) := by decide +kernel
theorem d_M_splits_68 : decode b_M_splits 68 = .ok (.iload_n 3, 1) := by decide +kernel
theorem d_M_splits_69 : decode b_M_splits 69 = .ok (.invokestatic 171, 3) := by decide +kernel
theorem d_M_splits_72 : decode b_M_splits 72 = .ok (.ifCond .eq 28, 3) := by decide +kernel
theorem d_M_splits_75 : decode b_M_splits 75 = .ok (.iload 4, 2) := by decide +kernel
theorem d_M_splits_77 : decode b_M_splits 77 = .ok (.iload_n 1, 1) := by decide +kernel
theorem d_M_splits_78 : decode b_M_splits 78 = .ok (.if_icmp .ge 22, 3) := by decide +kernel
theorem d_M_splits_81 : decode b_M_splits 81 = .ok (.aload_n 0, 1) := by decide +kernel
theorem d_M_splits_82 : decode b_M_splits 82 = .ok (.getfield 41, 3) := by decide +kernel
theorem d_M_splits_85 : decode b_M_splits 85 = .ok (.iload 4, 2) := by decide +kernel
theorem d_M_splits_87 : decode b_M_splits 87 = .ok (.baload, 1) := by decide +kernel
theorem d_M_splits_88 : decode b_M_splits 88 = .ok (.invokestatic 171, 3) := by decide +kernel
theorem d_M_splits_91 : decode b_M_splits 91 = .ok (.ifCond .eq 9, 3) := by decide +kernel
theorem d_M_splits_94 : decode b_M_splits 94 = .ok (.iinc 4 1, 3) := by decide +kernel
theorem d_M_splits_97 : decode b_M_splits 97 = .ok (.goto (-22), 3) := by decide +kernel
theorem d_M_splits_100 : decode b_M_splits 100 = .ok (.aload_n 0, 1) := by decide +kernel
theorem d_M_splits_101 : decode b_M_splits 101 = .ok (.getfield 56, 3) := by decide +kernel
theorem d_M_splits_104 : decode b_M_splits 104 = .ok (.aload_n 0, 1) := by decide +kernel
theorem d_M_splits_105 : decode b_M_splits 105 = .ok (.getfield 165, 3) := by decide +kernel
theorem d_M_splits_108 : decode b_M_splits 108 = .ok (.iload_n 2, 1) := by decide +kernel
theorem d_M_splits_109 : decode b_M_splits 109 = .ok (.iastore, 1) := by decide +kernel
theorem d_M_splits_110 : decode b_M_splits 110 = .ok (.aload_n 0, 1) := by decide +kernel
theorem d_M_splits_111 : decode b_M_splits 111 = .ok (.getfield 53, 3) := by decide +kernel
theorem d_M_splits_114 : decode b_M_splits 114 = .ok (.aload_n 0, 1) := by decide +kernel
theorem d_M_splits_115 : decode b_M_splits 115 = .ok (.getfield 165, 3) := by decide +kernel
theorem d_M_splits_118 : decode b_M_splits 118 = .ok (.iconst 0, 1) := by decide +kernel
theorem d_M_splits_119 : decode b_M_splits 119 = .ok (.iastore, 1) := by decide +kernel
theorem d_M_splits_120 : decode b_M_splits 120 = .ok (.aload_n 0, 1) := by decide +kernel
theorem d_M_splits_121 : decode b_M_splits 121 = .ok (.getfield 50, 3) := by decide +kernel
theorem d_M_splits_124 : decode b_M_splits 124 = .ok (.aload_n 0, 1) := by decide +kernel
theorem d_M_splits_125 : decode b_M_splits 125 = .ok (.getfield 165, 3) := by decide +kernel
theorem d_M_splits_128 : decode b_M_splits 128 = .ok (.iload_n 3, 1) := by decide +kernel
theorem d_M_splits_129 : decode b_M_splits 129 = .ok (.invokestatic 168, 3) := by decide +kernel
theorem d_M_splits_132 : decode b_M_splits 132 = .ok (.ifCond .eq 13, 3) := by decide +kernel
theorem d_M_splits_135 : decode b_M_splits 135 = .ok (.aload_n 0, 1) := by decide +kernel
theorem d_M_splits_136 : decode b_M_splits 136 = .ok (.iload_n 2, 1) := by decide +kernel
theorem d_M_splits_137 : decode b_M_splits 137 = .ok (.iload 4, 2) := by decide +kernel
theorem d_M_splits_139 : decode b_M_splits 139 = .ok (.invokevirtual 174, 3) := by decide +kernel
theorem d_M_splits_142 : decode b_M_splits 142 = .ok (.goto 23, 3) := by decide +kernel
theorem d_M_splits_145 : decode b_M_splits 145 = .ok (.iload_n 3, 1) := by decide +kernel
theorem d_M_splits_146 : decode b_M_splits 146 = .ok (.invokestatic 171, 3) := by decide +kernel
theorem d_M_splits_149 : decode b_M_splits 149 = .ok (.ifCond .eq 8, 3) := by decide +kernel
theorem d_M_splits_152 : decode b_M_splits 152 = .ok (.bipush 50, 2) := by decide +kernel
theorem d_M_splits_154 : decode b_M_splits 154 = .ok (.goto 11, 3) := by decide +kernel
theorem d_M_splits_157 : decode b_M_splits 157 = .ok (.bipush 100, 2) := by decide +kernel
theorem d_M_splits_159 : decode b_M_splits 159 = .ok (.iload_n 3, 1) := by decide +kernel
theorem d_M_splits_160 : decode b_M_splits 160 = .ok (.sipush 255, 3) := by decide +kernel
theorem d_M_splits_163 : decode b_M_splits 163 = .ok (.iand, 1) := by decide +kernel
theorem d_M_splits_164 : decode b_M_splits 164 = .ok (.iadd, 1) := by decide +kernel
theorem d_M_splits_165 : decode b_M_splits 165 = .ok (.iastore, 1) := by decide +kernel
theorem d_M_splits_166 : decode b_M_splits 166 = .ok (.iload_n 2, 1) := by decide +kernel
theorem d_M_splits_167 : decode b_M_splits 167 = .ok (.istore 5, 2) := by decide +kernel
theorem d_M_splits_169 : decode b_M_splits 169 = .ok (.iload 5, 2) := by decide +kernel
theorem d_M_splits_171 : decode b_M_splits 171 = .ok (.iload 4, 2) := by decide +kernel
theorem d_M_splits_173 : decode b_M_splits 173 = .ok (.if_icmp .ge 74, 3) := by decide +kernel
theorem d_M_splits_176 : decode b_M_splits 176 = .ok (.iload_n 3, 1) := by decide +kernel
theorem d_M_splits_177 : decode b_M_splits 177 = .ok (.invokestatic 171, 3) := by decide +kernel
theorem d_M_splits_180 : decode b_M_splits 180 = .ok (.ifCond .eq 67, 3) := by decide +kernel
theorem d_M_splits_183 : decode b_M_splits 183 = .ok (.aload_n 0, 1) := by decide +kernel
theorem d_M_splits_184 : decode b_M_splits 184 = .ok (.getfield 53, 3) := by decide +kernel
theorem d_M_splits_187 : decode b_M_splits 187 = .ok (.aload_n 0, 1) := by decide +kernel
theorem d_M_splits_188 : decode b_M_splits 188 = .ok (.getfield 165, 3) := by decide +kernel
theorem d_M_splits_191 : decode b_M_splits 191 = .ok (.aload_n 0, 1) := by decide +kernel
theorem d_M_splits_192 : decode b_M_splits 192 = .ok (.getfield 53, 3) := by decide +kernel
theorem d_M_splits_195 : decode b_M_splits 195 = .ok (.aload_n 0, 1) := by decide +kernel
theorem d_M_splits_196 : decode b_M_splits 196 = .ok (.getfield 165, 3) := by decide +kernel
theorem d_M_splits_199 : decode b_M_splits 199 = .ok (.iaload, 1) := by decide +kernel
theorem d_M_splits_200 : decode b_M_splits 200 = .ok (.ldc 177, 2) := by decide +kernel
theorem d_M_splits_202 : decode b_M_splits 202 = .ok (.if_icmp .le 15, 3) := by decide +kernel
theorem d_M_splits_205 : decode b_M_splits 205 = .ok (.aload_n 0, 1) := by decide +kernel
theorem d_M_splits_206 : decode b_M_splits 206 = .ok (.getfield 53, 3) := by decide +kernel
theorem d_M_splits_209 : decode b_M_splits 209 = .ok (.aload_n 0, 1) := by decide +kernel
theorem d_M_splits_210 : decode b_M_splits 210 = .ok (.getfield 165, 3) := by decide +kernel
theorem d_M_splits_213 : decode b_M_splits 213 = .ok (.iaload, 1) := by decide +kernel
theorem d_M_splits_214 : decode b_M_splits 214 = .ok (.goto 26, 3) := by decide +kernel
theorem d_M_splits_217 : decode b_M_splits 217 = .ok (.bipush 10, 2) := by decide +kernel
theorem d_M_splits_219 : decode b_M_splits 219 = .ok (.aload_n 0, 1) := by decide +kernel
theorem d_M_splits_220 : decode b_M_splits 220 = .ok (.getfield 53, 3) := by decide +kernel
theorem d_M_splits_223 : decode b_M_splits 223 = .ok (.aload_n 0, 1) := by decide +kernel
theorem d_M_splits_224 : decode b_M_splits 224 = .ok (.getfield 165, 3) := by decide +kernel
theorem d_M_splits_227 : decode b_M_splits 227 = .ok (.iaload, 1) := by decide +kernel
theorem d_M_splits_228 : decode b_M_splits 228 = .ok (.imul, 1) := by decide +kernel
theorem d_M_splits_229 : decode b_M_splits 229 = .ok (.aload_n 0, 1) := by decide +kernel
theorem d_M_splits_230 : decode b_M_splits 230 = .ok (.getfield 41, 3) := by decide +kernel
theorem d_M_splits_233 : decode b_M_splits 233 = .ok (.iload 5, 2) := by decide +kernel
theorem d_M_splits_235 : decode b_M_splits 235 = .ok (.baload, 1) := by decide +kernel
theorem d_M_splits_236 : decode b_M_splits 236 = .ok (.iadd, 1) := by decide +kernel
theorem d_M_splits_237 : decode b_M_splits 237 = .ok (.bipush 48, 2) := by decide +kernel
theorem d_M_splits_239 : decode b_M_splits 239 = .ok (.isub, 1) := by decide +kernel
theorem d_M_splits_240 : decode b_M_splits 240 = .ok (.iastore, 1) := by decide +kernel
theorem d_M_splits_241 : decode b_M_splits 241 = .ok (.iinc 5 1, 3) := by decide +kernel
theorem d_M_splits_244 : decode b_M_splits 244 = .ok (.goto (-75), 3) := by decide +kernel
theorem d_M_splits_247 : decode b_M_splits 247 = .ok (.aload_n 0, 1) := by decide +kernel
theorem d_M_splits_248 : decode b_M_splits 248 = .ok (.dup, 1) := by decide +kernel
theorem d_M_splits_249 : decode b_M_splits 249 = .ok (.getfield 165, 3) := by decide +kernel
theorem d_M_splits_252 : decode b_M_splits 252 = .ok (.iconst 1, 1) := by decide +kernel
theorem d_M_splits_253 : decode b_M_splits 253 = .ok (.iadd, 1) := by decide +kernel
theorem d_M_splits_254 : decode b_M_splits 254 = .ok (.putfield 165, 3) := by decide +kernel
theorem d_M_splits_257 : decode b_M_splits 257 = .ok (.iload 4, 2) := by decide +kernel
theorem d_M_splits_259 : decode b_M_splits 259 = .ok (.istore_n 2, 1) := by decide +kernel
theorem d_M_splits_260 : decode b_M_splits 260 = .ok (.goto (-253), 3) := by decide +kernel
theorem d_M_splits_263 : decode b_M_splits 263 = .ok (.aload_n 0, 1) := by decide +kernel
theorem d_M_splits_264 : decode b_M_splits 264 = .ok (.getfield 56, 3) := by decide +kernel
theorem d_M_splits_267 : decode b_M_splits 267 = .ok (.aload_n 0, 1) := by decide +kernel
theorem d_M_splits_268 : decode b_M_splits 268 = .ok (.getfield 165, 3) := by decide +kernel
theorem d_M_splits_271 : decode b_M_splits 271 = .ok (.iload_n 1, 1) := by decide +kernel
theorem d_M_splits_272 : decode b_M_splits 272 = .ok (.iastore, 1) := by decide +kernel
theorem d_M_splits_273 : decode b_M_splits 273 = .ok (.aload_n 0, 1) := by decide +kernel
theorem d_M_splits_274 : decode b_M_splits 274 = .ok (.getfield 50, 3) := by decide +kernel
theorem d_M_splits_277 : decode b_M_splits 277 = .ok (.aload_n 0, 1) := by decide +kernel
theorem d_M_splits_278 : decode b_M_splits 278 = .ok (.getfield 165, 3) := by decide +kernel
theorem d_M_splits_281 : decode b_M_splits 281 = .ok (.iconst 0, 1) := by decide +kernel
theorem d_M_splits_282 : decode b_M_splits 282 = .ok (.iastore, 1) := by decide +kernel
theorem d_M_splits_283 : decode b_M_splits 283 = .ok (.aload_n 0, 1) := by decide +kernel
theorem d_M_splits_284 : decode b_M_splits 284 = .ok (.getfield 53, 3) := by decide +kernel
theorem d_M_splits_287 : decode b_M_splits 287 = .ok (.aload_n 0, 1) := by decide +kernel
theorem d_M_splits_288 : decode b_M_splits 288 = .ok (.getfield 165, 3) := by decide +kernel
theorem d_M_splits_291 : decode b_M_splits 291 = .ok (.iconst 0, 1) := by decide +kernel
theorem d_M_splits_292 : decode b_M_splits 292 = .ok (.iastore, 1) := by decide +kernel
theorem d_M_splits_293 : decode b_M_splits 293 = .ok (.return_, 1) := by decide +kernel
theorem mf_M_splits : zMF y_M_splits b_M_splits 6 none 1 := ⟨zGW_in 1626 (by decide +kernel) (by decide +kernel), zGW_in 135 (by decide +kernel) (by decide +kernel), by decide +kernel⟩
theorem in_M_splits : Cond.instanceMethod y_M_splits ∈ zGW := zGW_in 1625 (by decide +kernel) (by decide +kernel)
theorem se_M_splits : Cond.selects y_M_splits.cls y_M_splits y_M_splits ∈ zGW := zGW_in 70 (by decide +kernel) (by decide +kernel)
def y_M_fine : MethodName := ⟨zNm 11, "fine", "()Z"⟩
abbrev b_M_fine : ByteArray := prog_13_method_35_code
theorem d_M_fine_0 : decode b_M_fine 0 = .ok (.aload_n 0, 1) := by decide +kernel
theorem d_M_fine_1 : decode b_M_fine 1 = .ok (.getfield 178, 3) := by decide +kernel
theorem d_M_fine_4 : decode b_M_fine 4 = .ok (.iconst (-1), 1) := by decide +kernel
theorem d_M_fine_5 : decode b_M_fine 5 = .ok (.if_icmp .ne 7, 3) := by decide +kernel
theorem d_M_fine_8 : decode b_M_fine 8 = .ok (.iconst 1, 1) := by decide +kernel
theorem d_M_fine_9 : decode b_M_fine 9 = .ok (.goto 4, 3) := by decide +kernel
theorem d_M_fine_12 : decode b_M_fine 12 = .ok (.iconst 0, 1) := by decide +kernel
theorem d_M_fine_13 : decode b_M_fine 13 = .ok (.ireturn, 1) := by decide +kernel
theorem mf_M_fine : zMF y_M_fine b_M_fine 1 (some .boolean) 0 := ⟨zGW_in 1653 (by decide +kernel) (by decide +kernel), zGW_in 135 (by decide +kernel) (by decide +kernel), by decide +kernel⟩
theorem in_M_fine : Cond.instanceMethod y_M_fine ∈ zGW := zGW_in 1652 (by decide +kernel) (by decide +kernel)
theorem se_M_fine : Cond.selects y_M_fine.cls y_M_fine y_M_fine ∈ zGW := zGW_in 75 (by decide +kernel) (by decide +kernel)
def y_M_takes0 : MethodName := ⟨zNm 11, "takes0", "(I)Z"⟩
abbrev b_M_takes0 : ByteArray := prog_13_method_37_code
theorem d_M_takes0_0 : decode b_M_takes0 0 = .ok (.aload_n 0, 1) := by decide +kernel
theorem d_M_takes0_1 : decode b_M_takes0 1 = .ok (.invokevirtual 181, 3) := by decide +kernel
theorem d_M_takes0_4 : decode b_M_takes0 4 = .ok (.ifCond .eq 20, 3) := by decide +kernel
theorem d_M_takes0_7 : decode b_M_takes0 7 = .ok (.aload_n 0, 1) := by decide +kernel
theorem d_M_takes0_8 : decode b_M_takes0 8 = .ok (.getfield 50, 3) := by decide +kernel
theorem d_M_takes0_11 : decode b_M_takes0 11 = .ok (.aload_n 0, 1) := by decide +kernel
theorem d_M_takes0_12 : decode b_M_takes0 12 = .ok (.getfield 185, 3) := by decide +kernel
theorem d_M_takes0_15 : decode b_M_takes0 15 = .ok (.iaload, 1) := by decide +kernel
theorem d_M_takes0_16 : decode b_M_takes0 16 = .ok (.iload_n 1, 1) := by decide +kernel
theorem d_M_takes0_17 : decode b_M_takes0 17 = .ok (.if_icmp .ne 7, 3) := by decide +kernel
theorem d_M_takes0_20 : decode b_M_takes0 20 = .ok (.iconst 1, 1) := by decide +kernel
theorem d_M_takes0_21 : decode b_M_takes0 21 = .ok (.goto 4, 3) := by decide +kernel
theorem d_M_takes0_24 : decode b_M_takes0 24 = .ok (.iconst 0, 1) := by decide +kernel
theorem d_M_takes0_25 : decode b_M_takes0 25 = .ok (.istore_n 2, 1) := by decide +kernel
theorem d_M_takes0_26 : decode b_M_takes0 26 = .ok (.iload_n 2, 1) := by decide +kernel
theorem d_M_takes0_27 : decode b_M_takes0 27 = .ok (.ifCond .eq 13, 3) := by decide +kernel
theorem d_M_takes0_30 : decode b_M_takes0 30 = .ok (.aload_n 0, 1) := by decide +kernel
theorem d_M_takes0_31 : decode b_M_takes0 31 = .ok (.dup, 1) := by decide +kernel
theorem d_M_takes0_32 : decode b_M_takes0 32 = .ok (.getfield 185, 3) := by decide +kernel
theorem d_M_takes0_35 : decode b_M_takes0 35 = .ok (.iconst 1, 1) := by decide +kernel
theorem d_M_takes0_36 : decode b_M_takes0 36 = .ok (.iadd, 1) := by decide +kernel
theorem d_M_takes0_37 : decode b_M_takes0 37 = .ok (.putfield 185, 3) := by decide +kernel
theorem d_M_takes0_40 : decode b_M_takes0 40 = .ok (.iload_n 2, 1) := by decide +kernel
theorem d_M_takes0_41 : decode b_M_takes0 41 = .ok (.ireturn, 1) := by decide +kernel
theorem mf_M_takes0 : zMF y_M_takes0 b_M_takes0 3 (some .boolean) 1 := ⟨zGW_in 1649 (by decide +kernel) (by decide +kernel), zGW_in 135 (by decide +kernel) (by decide +kernel), by decide +kernel⟩
theorem in_M_takes0 : Cond.instanceMethod y_M_takes0 ∈ zGW := zGW_in 1648 (by decide +kernel) (by decide +kernel)
theorem se_M_takes0 : Cond.selects y_M_takes0.cls y_M_takes0 y_M_takes0 ∈ zGW := zGW_in 74 (by decide +kernel) (by decide +kernel)
def y_M_faults : MethodName := ⟨zNm 11, "faults", "()V"⟩
abbrev b_M_faults : ByteArray := prog_13_method_36_code
theorem d_M_faults_0 : decode b_M_faults 0 = .ok (.aload_n 0, 1) := by decide +kernel
theorem d_M_faults_1 : decode b_M_faults 1 = .ok (.invokevirtual 181, 3) := by decide +kernel
theorem d_M_faults_4 : decode b_M_faults 4 = .ok (.ifCond .eq 16, 3) := by decide +kernel
theorem d_M_faults_7 : decode b_M_faults 7 = .ok (.aload_n 0, 1) := by decide +kernel
theorem d_M_faults_8 : decode b_M_faults 8 = .ok (.aload_n 0, 1) := by decide +kernel
theorem d_M_faults_9 : decode b_M_faults 9 = .ok (.getfield 56, 3) := by decide +kernel
theorem d_M_faults_12 : decode b_M_faults 12 = .ok (.aload_n 0, 1) := by decide +kernel
theorem d_M_faults_13 : decode b_M_faults 13 = .ok (.getfield 185, 3) := by decide +kernel
theorem d_M_faults_16 : decode b_M_faults 16 = .ok (.iaload, 1) := by decide +kernel
theorem d_M_faults_17 : decode b_M_faults 17 = .ok (.putfield 178, 3) := by decide +kernel
theorem d_M_faults_20 : decode b_M_faults 20 = .ok (.return_, 1) := by decide +kernel
theorem mf_M_faults : zMF y_M_faults b_M_faults 1 none 0 := ⟨zGW_in 1669 (by decide +kernel) (by decide +kernel), zGW_in 135 (by decide +kernel) (by decide +kernel), by decide +kernel⟩
theorem in_M_faults : Cond.instanceMethod y_M_faults ∈ zGW := zGW_in 1668 (by decide +kernel) (by decide +kernel)
theorem se_M_faults : Cond.selects y_M_faults.cls y_M_faults y_M_faults ∈ zGW := zGW_in 79 (by decide +kernel) (by decide +kernel)
def y_M_must : MethodName := ⟨zNm 11, "must", "(I)V"⟩
abbrev b_M_must : ByteArray := prog_13_method_38_code
theorem d_M_must_0 : decode b_M_must 0 = .ok (.aload_n 0, 1) := by decide +kernel
theorem d_M_must_1 : decode b_M_must 1 = .ok (.iload_n 1, 1) := by decide +kernel
theorem d_M_must_2 : decode b_M_must 2 = .ok (.invokevirtual 188, 3) := by decide +kernel
theorem d_M_must_5 : decode b_M_must 5 = .ok (.ifCond .ne 7, 3) := by decide +kernel
theorem d_M_must_8 : decode b_M_must 8 = .ok (.aload_n 0, 1) := by decide +kernel
theorem d_M_must_9 : decode b_M_must 9 = .ok (.invokevirtual 191, 3) := by decide +kernel
theorem d_M_must_12 : decode b_M_must 12 = .ok (.return_, 1) := by decide +kernel
theorem mf_M_must : zMF y_M_must b_M_must 2 none 1 := ⟨zGW_in 1673 (by decide +kernel) (by decide +kernel), zGW_in 135 (by decide +kernel) (by decide +kernel), by decide +kernel⟩
theorem in_M_must : Cond.instanceMethod y_M_must ∈ zGW := zGW_in 1672 (by decide +kernel) (by decide +kernel)
theorem se_M_must : Cond.selects y_M_must.cls y_M_must y_M_must ∈ zGW := zGW_in 80 (by decide +kernel) (by decide +kernel)
def y_M_leaf : MethodName := ⟨zNm 11, "leaf", "()V"⟩
abbrev b_M_leaf : ByteArray := prog_13_method_39_code
theorem d_M_leaf_0 : decode b_M_leaf 0 = .ok (.aload_n 0, 1) := by decide +kernel
theorem d_M_leaf_1 : decode b_M_leaf 1 = .ok (.getfield 194, 3) := by decide +kernel
theorem d_M_leaf_4 : decode b_M_leaf 4 = .ok (.bipush 50, 2) := by decide +kernel
theorem d_M_leaf_6 : decode b_M_leaf 6 = .ok (.if_icmp .ne 7, 3) := by decide +kernel
theorem d_M_leaf_9 : decode b_M_leaf 9 = .ok (.aload_n 0, 1) := by decide +kernel
theorem d_M_leaf_10 : decode b_M_leaf 10 = .ok (.invokevirtual 191, 3) := by decide +kernel
theorem d_M_leaf_13 : decode b_M_leaf 13 = .ok (.aload_n 0, 1) := by decide +kernel
theorem d_M_leaf_14 : decode b_M_leaf 14 = .ok (.dup, 1) := by decide +kernel
theorem d_M_leaf_15 : decode b_M_leaf 15 = .ok (.getfield 194, 3) := by decide +kernel
theorem d_M_leaf_18 : decode b_M_leaf 18 = .ok (.iconst 1, 1) := by decide +kernel
theorem d_M_leaf_19 : decode b_M_leaf 19 = .ok (.iadd, 1) := by decide +kernel
theorem d_M_leaf_20 : decode b_M_leaf 20 = .ok (.putfield 194, 3) := by decide +kernel
theorem d_M_leaf_23 : decode b_M_leaf 23 = .ok (.aload_n 0, 1) := by decide +kernel
theorem d_M_leaf_24 : decode b_M_leaf 24 = .ok (.invokevirtual 181, 3) := by decide +kernel
theorem d_M_leaf_27 : decode b_M_leaf 27 = .ok (.ifCond .eq 13, 3) := by decide +kernel
theorem d_M_leaf_30 : decode b_M_leaf 30 = .ok (.aload_n 0, 1) := by decide +kernel
theorem d_M_leaf_31 : decode b_M_leaf 31 = .ok (.dup, 1) := by decide +kernel
theorem d_M_leaf_32 : decode b_M_leaf 32 = .ok (.getfield 185, 3) := by decide +kernel
theorem d_M_leaf_35 : decode b_M_leaf 35 = .ok (.iconst 1, 1) := by decide +kernel
theorem d_M_leaf_36 : decode b_M_leaf 36 = .ok (.iadd, 1) := by decide +kernel
theorem d_M_leaf_37 : decode b_M_leaf 37 = .ok (.putfield 185, 3) := by decide +kernel
theorem d_M_leaf_40 : decode b_M_leaf 40 = .ok (.return_, 1) := by decide +kernel
theorem mf_M_leaf : zMF y_M_leaf b_M_leaf 1 none 0 := ⟨zGW_in 1677 (by decide +kernel) (by decide +kernel), zGW_in 135 (by decide +kernel) (by decide +kernel), by decide +kernel⟩
theorem in_M_leaf : Cond.instanceMethod y_M_leaf ∈ zGW := zGW_in 1676 (by decide +kernel) (by decide +kernel)
theorem se_M_leaf : Cond.selects y_M_leaf.cls y_M_leaf y_M_leaf ∈ zGW := zGW_in 81 (by decide +kernel) (by decide +kernel)
def y_M_mustNumber : MethodName := ⟨zNm 11, "mustNumber", "(II)V"⟩
abbrev b_M_mustNumber : ByteArray := prog_13_method_41_code
theorem d_M_mustNumber_0 : decode b_M_mustNumber 0 = .ok (.aload_n 0, 1) := by decide +kernel
theorem d_M_mustNumber_1 : decode b_M_mustNumber 1 = .ok (.invokevirtual 181, 3) := by decide +kernel
theorem d_M_mustNumber_4 : decode b_M_mustNumber 4 = .ok (.ifCond .eq 38, 3) := by decide +kernel
theorem d_M_mustNumber_7 : decode b_M_mustNumber 7 = .ok (.aload_n 0, 1) := by decide +kernel
theorem d_M_mustNumber_8 : decode b_M_mustNumber 8 = .ok (.getfield 50, 3) := by decide +kernel
theorem d_M_mustNumber_11 : decode b_M_mustNumber 11 = .ok (.aload_n 0, 1) := by decide +kernel
theorem d_M_mustNumber_12 : decode b_M_mustNumber 12 = .ok (.getfield 185, 3) := by decide +kernel
theorem d_M_mustNumber_15 : decode b_M_mustNumber 15 = .ok (.iaload, 1) := by decide +kernel
theorem d_M_mustNumber_16 : decode b_M_mustNumber 16 = .ok (.bipush 50, 2) := by decide +kernel
theorem d_M_mustNumber_18 : decode b_M_mustNumber 18 = .ok (.if_icmp .ne 20, 3) := by decide +kernel
theorem d_M_mustNumber_21 : decode b_M_mustNumber 21 = .ok (.aload_n 0, 1) := by decide +kernel
theorem d_M_mustNumber_22 : decode b_M_mustNumber 22 = .ok (.getfield 53, 3) := by decide +kernel
theorem d_M_mustNumber_25 : decode b_M_mustNumber 25 = .ok (.aload_n 0, 1) := by decide +kernel
theorem d_M_mustNumber_26 : decode b_M_mustNumber 26 = .ok (.getfield 185, 3) := by decide +kernel
theorem d_M_mustNumber_29 : decode b_M_mustNumber 29 = .ok (.iaload, 1) := by decide +kernel
theorem d_M_mustNumber_30 : decode b_M_mustNumber 30 = .ok (.iload_n 1, 1) := by decide +kernel
theorem d_M_mustNumber_31 : decode b_M_mustNumber 31 = .ok (.iload_n 2, 1) := by decide +kernel
theorem d_M_mustNumber_32 : decode b_M_mustNumber 32 = .ok (.invokestatic 108, 3) := by decide +kernel
theorem d_M_mustNumber_35 : decode b_M_mustNumber 35 = .ok (.ifCond .ne 7, 3) := by decide +kernel
theorem d_M_mustNumber_38 : decode b_M_mustNumber 38 = .ok (.aload_n 0, 1) := by decide +kernel
theorem d_M_mustNumber_39 : decode b_M_mustNumber 39 = .ok (.invokevirtual 191, 3) := by decide +kernel
theorem d_M_mustNumber_42 : decode b_M_mustNumber 42 = .ok (.aload_n 0, 1) := by decide +kernel
theorem d_M_mustNumber_43 : decode b_M_mustNumber 43 = .ok (.invokevirtual 181, 3) := by decide +kernel
theorem d_M_mustNumber_46 : decode b_M_mustNumber 46 = .ok (.ifCond .eq 13, 3) := by decide +kernel
theorem d_M_mustNumber_49 : decode b_M_mustNumber 49 = .ok (.aload_n 0, 1) := by decide +kernel
theorem d_M_mustNumber_50 : decode b_M_mustNumber 50 = .ok (.dup, 1) := by decide +kernel
theorem d_M_mustNumber_51 : decode b_M_mustNumber 51 = .ok (.getfield 185, 3) := by decide +kernel
theorem d_M_mustNumber_54 : decode b_M_mustNumber 54 = .ok (.iconst 1, 1) := by decide +kernel
theorem d_M_mustNumber_55 : decode b_M_mustNumber 55 = .ok (.iadd, 1) := by decide +kernel
theorem d_M_mustNumber_56 : decode b_M_mustNumber 56 = .ok (.putfield 185, 3) := by decide +kernel
theorem d_M_mustNumber_59 : decode b_M_mustNumber 59 = .ok (.return_, 1) := by decide +kernel
theorem mf_M_mustNumber : zMF y_M_mustNumber b_M_mustNumber 3 none 2 := ⟨zGW_in 1681 (by decide +kernel) (by decide +kernel), zGW_in 135 (by decide +kernel) (by decide +kernel), by decide +kernel⟩
theorem in_M_mustNumber : Cond.instanceMethod y_M_mustNumber ∈ zGW := zGW_in 1680 (by decide +kernel) (by decide +kernel)
theorem se_M_mustNumber : Cond.selects y_M_mustNumber.cls y_M_mustNumber y_M_mustNumber ∈ zGW := zGW_in 82 (by decide +kernel) (by decide +kernel)
def y_M_readPart : MethodName := ⟨zNm 11, "readPart", "(I)V"⟩
abbrev b_M_readPart : ByteArray := prog_13_method_50_code
theorem d_M_readPart_0 : decode b_M_readPart 0 = .ok (.aload_n 0, 1) := by decide +kernel
theorem d_M_readPart_1 : decode b_M_readPart 1 = .ok (.invokevirtual 181, 3) := by decide +kernel
theorem d_M_readPart_4 : decode b_M_readPart 4 = .ok (.ifCond .ne 4, 3) := by decide +kernel
theorem d_M_readPart_7 : decode b_M_readPart 7 = .ok (.return_, 1) := by decide +kernel
theorem d_M_readPart_8 : decode b_M_readPart 8 = .ok (.aload_n 0, 1) := by decide +kernel
theorem d_M_readPart_9 : decode b_M_readPart 9 = .ok (.getfield 50, 3) := by decide +kernel
theorem d_M_readPart_12 : decode b_M_readPart 12 = .ok (.aload_n 0, 1) := by decide +kernel
theorem d_M_readPart_13 : decode b_M_readPart 13 = .ok (.getfield 185, 3) := by decide +kernel
theorem d_M_readPart_16 : decode b_M_readPart 16 = .ok (.iaload, 1) := by decide +kernel
theorem d_M_readPart_17 : decode b_M_readPart 17 = .ok (.istore_n 2, 1) := by decide +kernel
theorem d_M_readPart_18 : decode b_M_readPart 18 = .ok (.iload_n 2, 1) := by decide +kernel
theorem d_M_readPart_19 : decode b_M_readPart 19 = .ok (.bipush 91, 2) := by decide +kernel
theorem d_M_readPart_21 : decode b_M_readPart 21 = .ok (.invokestatic 227, 3) := by decide +kernel
theorem d_M_readPart_24 : decode b_M_readPart 24 = .ok (.if_icmp .ne 50, 3) := by decide +kernel
theorem d_M_readPart_27 : decode b_M_readPart 27 = .ok (.iload_n 1, 1) := by decide +kernel
theorem d_M_readPart_28 : decode b_M_readPart 28 = .ok (.bipush 8, 2) := by decide +kernel
theorem d_M_readPart_30 : decode b_M_readPart 30 = .ok (.if_icmp .ne 7, 3) := by decide +kernel
theorem d_M_readPart_33 : decode b_M_readPart 33 = .ok (.aload_n 0, 1) := by decide +kernel
theorem d_M_readPart_34 : decode b_M_readPart 34 = .ok (.invokevirtual 191, 3) := by decide +kernel
theorem d_M_readPart_37 : decode b_M_readPart 37 = .ok (.aload_n 0, 1) := by decide +kernel
theorem d_M_readPart_38 : decode b_M_readPart 38 = .ok (.invokevirtual 181, 3) := by decide +kernel
theorem d_M_readPart_41 : decode b_M_readPart 41 = .ok (.ifCond .ne 4, 3) := by decide +kernel
theorem d_M_readPart_44 : decode b_M_readPart 44 = .ok (.return_, 1) := by decide +kernel
theorem d_M_readPart_45 : decode b_M_readPart 45 = .ok (.aload_n 0, 1) := by decide +kernel
theorem d_M_readPart_46 : decode b_M_readPart 46 = .ok (.dup, 1) := by decide +kernel
theorem d_M_readPart_47 : decode b_M_readPart 47 = .ok (.getfield 185, 3) := by decide +kernel
theorem d_M_readPart_50 : decode b_M_readPart 50 = .ok (.iconst 1, 1) := by decide +kernel
theorem d_M_readPart_51 : decode b_M_readPart 51 = .ok (.iadd, 1) := by decide +kernel
theorem d_M_readPart_52 : decode b_M_readPart 52 = .ok (.putfield 185, 3) := by decide +kernel
theorem d_M_readPart_55 : decode b_M_readPart 55 = .ok (.aload_n 0, 1) := by decide +kernel
theorem d_M_readPart_56 : decode b_M_readPart 56 = .ok (.iload_n 1, 1) := by decide +kernel
theorem d_M_readPart_57 : decode b_M_readPart 57 = .ok (.iconst 1, 1) := by decide +kernel
theorem d_M_readPart_58 : decode b_M_readPart 58 = .ok (.iadd, 1) := by decide +kernel
theorem d_M_readPart_59 : decode b_M_readPart 59 = .ok (.invokevirtual 197, 3) := by decide +kernel
theorem d_M_readPart_62 : decode b_M_readPart 62 = .ok (.aload_n 0, 1) := by decide +kernel
theorem d_M_readPart_63 : decode b_M_readPart 63 = .ok (.bipush 93, 2) := by decide +kernel
theorem d_M_readPart_65 : decode b_M_readPart 65 = .ok (.invokestatic 227, 3) := by decide +kernel
theorem d_M_readPart_68 : decode b_M_readPart 68 = .ok (.invokevirtual 201, 3) := by decide +kernel
theorem d_M_readPart_71 : decode b_M_readPart 71 = .ok (.goto 77, 3) := by decide +kernel
theorem d_M_readPart_74 : decode b_M_readPart 74 = .ok (.iload_n 2, 1) := by decide +kernel
theorem d_M_readPart_75 : decode b_M_readPart 75 = .ok (.bipush 50, 2) := by decide +kernel
theorem d_M_readPart_77 : decode b_M_readPart 77 = .ok (.if_icmp .ne 18, 3) := by decide +kernel
theorem d_M_readPart_80 : decode b_M_readPart 80 = .ok (.aload_n 0, 1) := by decide +kernel
theorem d_M_readPart_81 : decode b_M_readPart 81 = .ok (.getfield 53, 3) := by decide +kernel
theorem d_M_readPart_84 : decode b_M_readPart 84 = .ok (.aload_n 0, 1) := by decide +kernel
theorem d_M_readPart_85 : decode b_M_readPart 85 = .ok (.getfield 185, 3) := by decide +kernel
theorem d_M_readPart_88 : decode b_M_readPart 88 = .ok (.iaload, 1) := by decide +kernel
theorem d_M_readPart_89 : decode b_M_readPart 89 = .ok (.sipush 1000, 3) := by decide +kernel
theorem d_M_readPart_92 : decode b_M_readPart 92 = .ok (.if_icmp .le 19, 3) := by decide +kernel
theorem d_M_readPart_95 : decode b_M_readPart 95 = .ok (.iload_n 2, 1) := by decide +kernel
theorem d_M_readPart_96 : decode b_M_readPart 96 = .ok (.aload_n 0, 1) := by decide +kernel
theorem d_M_readPart_97 : decode b_M_readPart 97 = .ok (.getfield 237, 3) := by decide +kernel
theorem d_M_readPart_100 : decode b_M_readPart 100 = .ok (.if_icmp .lt 44, 3) := by decide +kernel
theorem d_M_readPart_103 : decode b_M_readPart 103 = .ok (.iload_n 2, 1) := by decide +kernel
theorem d_M_readPart_104 : decode b_M_readPart 104 = .ok (.aload_n 0, 1) := by decide +kernel
theorem d_M_readPart_105 : decode b_M_readPart 105 = .ok (.getfield 240, 3) := by decide +kernel
theorem d_M_readPart_108 : decode b_M_readPart 108 = .ok (.if_icmp .gt 36, 3) := by decide +kernel
theorem d_M_readPart_111 : decode b_M_readPart 111 = .ok (.aload_n 0, 1) := by decide +kernel
theorem d_M_readPart_112 : decode b_M_readPart 112 = .ok (.invokevirtual 243, 3) := by decide +kernel
theorem d_M_readPart_115 : decode b_M_readPart 115 = .ok (.aload_n 0, 1) := by decide +kernel
theorem d_M_readPart_116 : decode b_M_readPart 116 = .ok (.getfield 211, 3) := by decide +kernel
theorem d_M_readPart_119 : decode b_M_readPart 119 = .ok (.ifCond .eq 29, 3) := by decide +kernel
theorem d_M_readPart_122 : decode b_M_readPart 122 = .ok (.iload_n 2, 1) := by decide +kernel
theorem d_M_readPart_123 : decode b_M_readPart 123 = .ok (.bipush 14, 2) := by decide +kernel
theorem d_M_readPart_125 : decode b_M_readPart 125 = .ok (.if_icmp .eq 9, 3) := by decide +kernel
theorem d_M_readPart_128 : decode b_M_readPart 128 = .ok (.iload_n 2, 1) := by decide +kernel
theorem d_M_readPart_129 : decode b_M_readPart 129 = .ok (.bipush 20, 2) := by decide +kernel
theorem d_M_readPart_131 : decode b_M_readPart 131 = .ok (.if_icmp .ne 17, 3) := by decide +kernel
theorem d_M_readPart_134 : decode b_M_readPart 134 = .ok (.aload_n 0, 1) := by decide +kernel
theorem d_M_readPart_135 : decode b_M_readPart 135 = .ok (.iconst 0, 1) := by decide +kernel
theorem d_M_readPart_136 : decode b_M_readPart 136 = .ok (.bipush 8, 2) := by decide +kernel
theorem d_M_readPart_138 : decode b_M_readPart 138 = .ok (.invokevirtual 207, 3) := by decide +kernel
theorem d_M_readPart_141 : decode b_M_readPart 141 = .ok (.goto 7, 3) := by decide +kernel
theorem d_M_readPart_144 : decode b_M_readPart 144 = .ok (.aload_n 0, 1) := by decide +kernel
theorem d_M_readPart_145 : decode b_M_readPart 145 = .ok (.invokevirtual 191, 3) := by decide +kernel
theorem d_M_readPart_148 : decode b_M_readPart 148 = .ok (.return_, 1) := by decide +kernel
theorem mf_M_readPart : zMF y_M_readPart b_M_readPart 3 none 1 := ⟨zGW_in 1665 (by decide +kernel) (by decide +kernel), zGW_in 135 (by decide +kernel) (by decide +kernel), by decide +kernel⟩
theorem in_M_readPart : Cond.instanceMethod y_M_readPart ∈ zGW := zGW_in 1664 (by decide +kernel) (by decide +kernel)
theorem se_M_readPart : Cond.selects y_M_readPart.cls y_M_readPart y_M_readPart ∈ zGW := zGW_in 78 (by decide +kernel) (by decide +kernel)
def y_M_readTerm : MethodName := ⟨zNm 11, "readTerm", "(I)V"⟩
abbrev b_M_readTerm : ByteArray := prog_13_method_49_code
theorem d_M_readTerm_0 : decode b_M_readTerm 0 = .ok (.aload_n 0, 1) := by decide +kernel
theorem d_M_readTerm_1 : decode b_M_readTerm 1 = .ok (.iload_n 1, 1) := by decide +kernel
theorem d_M_readTerm_2 : decode b_M_readTerm 2 = .ok (.invokevirtual 234, 3) := by decide +kernel
theorem d_M_readTerm_5 : decode b_M_readTerm 5 = .ok (.aload_n 0, 1) := by decide +kernel
theorem d_M_readTerm_6 : decode b_M_readTerm 6 = .ok (.bipush 42, 2) := by decide +kernel
theorem d_M_readTerm_8 : decode b_M_readTerm 8 = .ok (.invokestatic 227, 3) := by decide +kernel
theorem d_M_readTerm_11 : decode b_M_readTerm 11 = .ok (.invokevirtual 188, 3) := by decide +kernel
theorem d_M_readTerm_14 : decode b_M_readTerm 14 = .ok (.ifCond .ne 27, 3) := by decide +kernel
theorem d_M_readTerm_17 : decode b_M_readTerm 17 = .ok (.aload_n 0, 1) := by decide +kernel
theorem d_M_readTerm_18 : decode b_M_readTerm 18 = .ok (.bipush 47, 2) := by decide +kernel
theorem d_M_readTerm_20 : decode b_M_readTerm 20 = .ok (.invokestatic 227, 3) := by decide +kernel
theorem d_M_readTerm_23 : decode b_M_readTerm 23 = .ok (.invokevirtual 188, 3) := by decide +kernel
theorem d_M_readTerm_26 : decode b_M_readTerm 26 = .ok (.ifCond .ne 15, 3) := by decide +kernel
theorem d_M_readTerm_29 : decode b_M_readTerm 29 = .ok (.aload_n 0, 1) := by decide +kernel
theorem d_M_readTerm_30 : decode b_M_readTerm 30 = .ok (.bipush 37, 2) := by decide +kernel
theorem d_M_readTerm_32 : decode b_M_readTerm 32 = .ok (.invokestatic 227, 3) := by decide +kernel
theorem d_M_readTerm_35 : decode b_M_readTerm 35 = .ok (.invokevirtual 188, 3) := by decide +kernel
theorem d_M_readTerm_38 : decode b_M_readTerm 38 = .ok (.ifCond .eq 11, 3) := by decide +kernel
theorem d_M_readTerm_41 : decode b_M_readTerm 41 = .ok (.aload_n 0, 1) := by decide +kernel
theorem d_M_readTerm_42 : decode b_M_readTerm 42 = .ok (.iload_n 1, 1) := by decide +kernel
theorem d_M_readTerm_43 : decode b_M_readTerm 43 = .ok (.invokevirtual 234, 3) := by decide +kernel
theorem d_M_readTerm_46 : decode b_M_readTerm 46 = .ok (.goto (-41), 3) := by decide +kernel
theorem d_M_readTerm_49 : decode b_M_readTerm 49 = .ok (.return_, 1) := by decide +kernel
theorem mf_M_readTerm : zMF y_M_readTerm b_M_readTerm 2 none 1 := ⟨zGW_in 1661 (by decide +kernel) (by decide +kernel), zGW_in 135 (by decide +kernel) (by decide +kernel), by decide +kernel⟩
theorem in_M_readTerm : Cond.instanceMethod y_M_readTerm ∈ zGW := zGW_in 1660 (by decide +kernel) (by decide +kernel)
theorem se_M_readTerm : Cond.selects y_M_readTerm.cls y_M_readTerm y_M_readTerm ∈ zGW := zGW_in 77 (by decide +kernel) (by decide +kernel)
def y_M_readSum : MethodName := ⟨zNm 11, "readSum", "(I)V"⟩
abbrev b_M_readSum : ByteArray := prog_13_method_48_code
theorem d_M_readSum_0 : decode b_M_readSum 0 = .ok (.aload_n 0, 1) := by decide +kernel
theorem d_M_readSum_1 : decode b_M_readSum 1 = .ok (.iload_n 1, 1) := by decide +kernel
theorem d_M_readSum_2 : decode b_M_readSum 2 = .ok (.invokevirtual 231, 3) := by decide +kernel
theorem d_M_readSum_5 : decode b_M_readSum 5 = .ok (.aload_n 0, 1) := by decide +kernel
theorem d_M_readSum_6 : decode b_M_readSum 6 = .ok (.bipush 43, 2) := by decide +kernel
theorem d_M_readSum_8 : decode b_M_readSum 8 = .ok (.invokestatic 227, 3) := by decide +kernel
theorem d_M_readSum_11 : decode b_M_readSum 11 = .ok (.invokevirtual 188, 3) := by decide +kernel
theorem d_M_readSum_14 : decode b_M_readSum 14 = .ok (.ifCond .ne 15, 3) := by decide +kernel
theorem d_M_readSum_17 : decode b_M_readSum 17 = .ok (.aload_n 0, 1) := by decide +kernel
theorem d_M_readSum_18 : decode b_M_readSum 18 = .ok (.bipush 45, 2) := by decide +kernel
theorem d_M_readSum_20 : decode b_M_readSum 20 = .ok (.invokestatic 227, 3) := by decide +kernel
theorem d_M_readSum_23 : decode b_M_readSum 23 = .ok (.invokevirtual 188, 3) := by decide +kernel
theorem d_M_readSum_26 : decode b_M_readSum 26 = .ok (.ifCond .eq 11, 3) := by decide +kernel
theorem d_M_readSum_29 : decode b_M_readSum 29 = .ok (.aload_n 0, 1) := by decide +kernel
theorem d_M_readSum_30 : decode b_M_readSum 30 = .ok (.iload_n 1, 1) := by decide +kernel
theorem d_M_readSum_31 : decode b_M_readSum 31 = .ok (.invokevirtual 231, 3) := by decide +kernel
theorem d_M_readSum_34 : decode b_M_readSum 34 = .ok (.goto (-29), 3) := by decide +kernel
theorem d_M_readSum_37 : decode b_M_readSum 37 = .ok (.return_, 1) := by decide +kernel
theorem mf_M_readSum : zMF y_M_readSum b_M_readSum 2 none 1 := ⟨zGW_in 1657 (by decide +kernel) (by decide +kernel), zGW_in 135 (by decide +kernel) (by decide +kernel), by decide +kernel⟩
theorem in_M_readSum : Cond.instanceMethod y_M_readSum ∈ zGW := zGW_in 1656 (by decide +kernel) (by decide +kernel)
theorem se_M_readSum : Cond.selects y_M_readSum.cls y_M_readSum y_M_readSum ∈ zGW := zGW_in 76 (by decide +kernel) (by decide +kernel)
def y_M_readPlain : MethodName := ⟨zNm 11, "readPlain", "(I)V"⟩
abbrev b_M_readPlain : ByteArray := prog_13_method_47_code
theorem d_M_readPlain_0 : decode b_M_readPlain 0 = .ok (.iconst 1, 1) := by decide +kernel
theorem d_M_readPlain_1 : decode b_M_readPlain 1 = .ok (.istore_n 2, 1) := by decide +kernel
theorem d_M_readPlain_2 : decode b_M_readPlain 2 = .ok (.iload_n 2, 1) := by decide +kernel
theorem d_M_readPlain_3 : decode b_M_readPlain 3 = .ok (.ifCond .eq 13, 3) := by decide +kernel
theorem d_M_readPlain_6 : decode b_M_readPlain 6 = .ok (.aload_n 0, 1) := by decide +kernel
theorem d_M_readPlain_7 : decode b_M_readPlain 7 = .ok (.bipush 8, 2) := by decide +kernel
theorem d_M_readPlain_9 : decode b_M_readPlain 9 = .ok (.invokevirtual 188, 3) := by decide +kernel
theorem d_M_readPlain_12 : decode b_M_readPlain 12 = .ok (.istore_n 2, 1) := by decide +kernel
theorem d_M_readPlain_13 : decode b_M_readPlain 13 = .ok (.goto (-11), 3) := by decide +kernel
theorem d_M_readPlain_16 : decode b_M_readPlain 16 = .ok (.aload_n 0, 1) := by decide +kernel
theorem d_M_readPlain_17 : decode b_M_readPlain 17 = .ok (.invokevirtual 181, 3) := by decide +kernel
theorem d_M_readPlain_20 : decode b_M_readPlain 20 = .ok (.ifCond .ne 4, 3) := by decide +kernel
theorem d_M_readPlain_23 : decode b_M_readPlain 23 = .ok (.return_, 1) := by decide +kernel
theorem d_M_readPlain_24 : decode b_M_readPlain 24 = .ok (.aload_n 0, 1) := by decide +kernel
theorem d_M_readPlain_25 : decode b_M_readPlain 25 = .ok (.getfield 50, 3) := by decide +kernel
theorem d_M_readPlain_28 : decode b_M_readPlain 28 = .ok (.aload_n 0, 1) := by decide +kernel
theorem d_M_readPlain_29 : decode b_M_readPlain 29 = .ok (.getfield 185, 3) := by decide +kernel
theorem d_M_readPlain_32 : decode b_M_readPlain 32 = .ok (.iaload, 1) := by decide +kernel
theorem d_M_readPlain_33 : decode b_M_readPlain 33 = .ok (.istore_n 3, 1) := by decide +kernel
theorem d_M_readPlain_34 : decode b_M_readPlain 34 = .ok (.iload_n 3, 1) := by decide +kernel
theorem d_M_readPlain_35 : decode b_M_readPlain 35 = .ok (.bipush 40, 2) := by decide +kernel
theorem d_M_readPlain_37 : decode b_M_readPlain 37 = .ok (.invokestatic 227, 3) := by decide +kernel
theorem d_M_readPlain_40 : decode b_M_readPlain 40 = .ok (.if_icmp .ne 50, 3) := by decide +kernel
theorem d_M_readPlain_43 : decode b_M_readPlain 43 = .ok (.iload_n 1, 1) := by decide +kernel
theorem d_M_readPlain_44 : decode b_M_readPlain 44 = .ok (.bipush 8, 2) := by decide +kernel
theorem d_M_readPlain_46 : decode b_M_readPlain 46 = .ok (.if_icmp .ne 7, 3) := by decide +kernel
theorem d_M_readPlain_49 : decode b_M_readPlain 49 = .ok (.aload_n 0, 1) := by decide +kernel
theorem d_M_readPlain_50 : decode b_M_readPlain 50 = .ok (.invokevirtual 191, 3) := by decide +kernel
theorem d_M_readPlain_53 : decode b_M_readPlain 53 = .ok (.aload_n 0, 1) := by decide +kernel
theorem d_M_readPlain_54 : decode b_M_readPlain 54 = .ok (.invokevirtual 181, 3) := by decide +kernel
theorem d_M_readPlain_57 : decode b_M_readPlain 57 = .ok (.ifCond .ne 4, 3) := by decide +kernel
theorem d_M_readPlain_60 : decode b_M_readPlain 60 = .ok (.return_, 1) := by decide +kernel
theorem d_M_readPlain_61 : decode b_M_readPlain 61 = .ok (.aload_n 0, 1) := by decide +kernel
theorem d_M_readPlain_62 : decode b_M_readPlain 62 = .ok (.dup, 1) := by decide +kernel
theorem d_M_readPlain_63 : decode b_M_readPlain 63 = .ok (.getfield 185, 3) := by decide +kernel
theorem d_M_readPlain_66 : decode b_M_readPlain 66 = .ok (.iconst 1, 1) := by decide +kernel
theorem d_M_readPlain_67 : decode b_M_readPlain 67 = .ok (.iadd, 1) := by decide +kernel
theorem d_M_readPlain_68 : decode b_M_readPlain 68 = .ok (.putfield 185, 3) := by decide +kernel
theorem d_M_readPlain_71 : decode b_M_readPlain 71 = .ok (.aload_n 0, 1) := by decide +kernel
theorem d_M_readPlain_72 : decode b_M_readPlain 72 = .ok (.iload_n 1, 1) := by decide +kernel
theorem d_M_readPlain_73 : decode b_M_readPlain 73 = .ok (.iconst 1, 1) := by decide +kernel
theorem d_M_readPlain_74 : decode b_M_readPlain 74 = .ok (.iadd, 1) := by decide +kernel
theorem d_M_readPlain_75 : decode b_M_readPlain 75 = .ok (.invokevirtual 204, 3) := by decide +kernel
theorem d_M_readPlain_78 : decode b_M_readPlain 78 = .ok (.aload_n 0, 1) := by decide +kernel
theorem d_M_readPlain_79 : decode b_M_readPlain 79 = .ok (.bipush 41, 2) := by decide +kernel
theorem d_M_readPlain_81 : decode b_M_readPlain 81 = .ok (.invokestatic 227, 3) := by decide +kernel
theorem d_M_readPlain_84 : decode b_M_readPlain 84 = .ok (.invokevirtual 201, 3) := by decide +kernel
theorem d_M_readPlain_87 : decode b_M_readPlain 87 = .ok (.goto 46, 3) := by decide +kernel
theorem d_M_readPlain_90 : decode b_M_readPlain 90 = .ok (.aload_n 0, 1) := by decide +kernel
theorem d_M_readPlain_91 : decode b_M_readPlain 91 = .ok (.iload_n 1, 1) := by decide +kernel
theorem d_M_readPlain_92 : decode b_M_readPlain 92 = .ok (.invokevirtual 197, 3) := by decide +kernel
theorem d_M_readPlain_95 : decode b_M_readPlain 95 = .ok (.aload_n 0, 1) := by decide +kernel
theorem d_M_readPlain_96 : decode b_M_readPlain 96 = .ok (.bipush 60, 2) := by decide +kernel
theorem d_M_readPlain_98 : decode b_M_readPlain 98 = .ok (.invokestatic 227, 3) := by decide +kernel
theorem d_M_readPlain_101 : decode b_M_readPlain 101 = .ok (.invokevirtual 188, 3) := by decide +kernel
theorem d_M_readPlain_104 : decode b_M_readPlain 104 = .ok (.ifCond .ne 24, 3) := by decide +kernel
theorem d_M_readPlain_107 : decode b_M_readPlain 107 = .ok (.aload_n 0, 1) := by decide +kernel
theorem d_M_readPlain_108 : decode b_M_readPlain 108 = .ok (.bipush 62, 2) := by decide +kernel
theorem d_M_readPlain_110 : decode b_M_readPlain 110 = .ok (.invokestatic 227, 3) := by decide +kernel
theorem d_M_readPlain_113 : decode b_M_readPlain 113 = .ok (.invokevirtual 188, 3) := by decide +kernel
theorem d_M_readPlain_116 : decode b_M_readPlain 116 = .ok (.ifCond .ne 12, 3) := by decide +kernel
theorem d_M_readPlain_119 : decode b_M_readPlain 119 = .ok (.aload_n 0, 1) := by decide +kernel
theorem d_M_readPlain_120 : decode b_M_readPlain 120 = .ok (.bipush 61, 2) := by decide +kernel
theorem d_M_readPlain_122 : decode b_M_readPlain 122 = .ok (.invokestatic 227, 3) := by decide +kernel
theorem d_M_readPlain_125 : decode b_M_readPlain 125 = .ok (.invokevirtual 201, 3) := by decide +kernel
theorem d_M_readPlain_128 : decode b_M_readPlain 128 = .ok (.aload_n 0, 1) := by decide +kernel
theorem d_M_readPlain_129 : decode b_M_readPlain 129 = .ok (.iload_n 1, 1) := by decide +kernel
theorem d_M_readPlain_130 : decode b_M_readPlain 130 = .ok (.invokevirtual 197, 3) := by decide +kernel
theorem d_M_readPlain_133 : decode b_M_readPlain 133 = .ok (.return_, 1) := by decide +kernel
theorem mf_M_readPlain : zMF y_M_readPlain b_M_readPlain 4 none 1 := ⟨zGW_in 1693 (by decide +kernel) (by decide +kernel), zGW_in 135 (by decide +kernel) (by decide +kernel), by decide +kernel⟩
theorem in_M_readPlain : Cond.instanceMethod y_M_readPlain ∈ zGW := zGW_in 1692 (by decide +kernel) (by decide +kernel)
theorem se_M_readPlain : Cond.selects y_M_readPlain.cls y_M_readPlain y_M_readPlain ∈ zGW := zGW_in 85 (by decide +kernel) (by decide +kernel)
def y_M_readBoth : MethodName := ⟨zNm 11, "readBoth", "(I)V"⟩
abbrev b_M_readBoth : ByteArray := prog_13_method_46_code
theorem d_M_readBoth_0 : decode b_M_readBoth 0 = .ok (.aload_n 0, 1) := by decide +kernel
theorem d_M_readBoth_1 : decode b_M_readBoth 1 = .ok (.iload_n 1, 1) := by decide +kernel
theorem d_M_readBoth_2 : decode b_M_readBoth 2 = .ok (.invokevirtual 224, 3) := by decide +kernel
theorem d_M_readBoth_5 : decode b_M_readBoth 5 = .ok (.aload_n 0, 1) := by decide +kernel
theorem d_M_readBoth_6 : decode b_M_readBoth 6 = .ok (.bipush 7, 2) := by decide +kernel
theorem d_M_readBoth_8 : decode b_M_readBoth 8 = .ok (.invokevirtual 188, 3) := by decide +kernel
theorem d_M_readBoth_11 : decode b_M_readBoth 11 = .ok (.ifCond .eq 11, 3) := by decide +kernel
theorem d_M_readBoth_14 : decode b_M_readBoth 14 = .ok (.aload_n 0, 1) := by decide +kernel
theorem d_M_readBoth_15 : decode b_M_readBoth 15 = .ok (.iload_n 1, 1) := by decide +kernel
theorem d_M_readBoth_16 : decode b_M_readBoth 16 = .ok (.invokevirtual 224, 3) := by decide +kernel
theorem d_M_readBoth_19 : decode b_M_readBoth 19 = .ok (.goto (-14), 3) := by decide +kernel
theorem d_M_readBoth_22 : decode b_M_readBoth 22 = .ok (.return_, 1) := by decide +kernel
theorem mf_M_readBoth : zMF y_M_readBoth b_M_readBoth 2 none 1 := ⟨zGW_in 1689 (by decide +kernel) (by decide +kernel), zGW_in 135 (by decide +kernel) (by decide +kernel), by decide +kernel⟩
theorem in_M_readBoth : Cond.instanceMethod y_M_readBoth ∈ zGW := zGW_in 1688 (by decide +kernel) (by decide +kernel)
theorem se_M_readBoth : Cond.selects y_M_readBoth.cls y_M_readBoth y_M_readBoth ∈ zGW := zGW_in 84 (by decide +kernel) (by decide +kernel)
def y_M_readTest : MethodName := ⟨zNm 11, "readTest", "(I)V"⟩
abbrev b_M_readTest : ByteArray := prog_13_method_45_code
theorem d_M_readTest_0 : decode b_M_readTest 0 = .ok (.aload_n 0, 1) := by decide +kernel
theorem d_M_readTest_1 : decode b_M_readTest 1 = .ok (.iload_n 1, 1) := by decide +kernel
theorem d_M_readTest_2 : decode b_M_readTest 2 = .ok (.invokevirtual 221, 3) := by decide +kernel
theorem d_M_readTest_5 : decode b_M_readTest 5 = .ok (.aload_n 0, 1) := by decide +kernel
theorem d_M_readTest_6 : decode b_M_readTest 6 = .ok (.bipush 6, 2) := by decide +kernel
theorem d_M_readTest_8 : decode b_M_readTest 8 = .ok (.invokevirtual 188, 3) := by decide +kernel
theorem d_M_readTest_11 : decode b_M_readTest 11 = .ok (.ifCond .eq 11, 3) := by decide +kernel
theorem d_M_readTest_14 : decode b_M_readTest 14 = .ok (.aload_n 0, 1) := by decide +kernel
theorem d_M_readTest_15 : decode b_M_readTest 15 = .ok (.iload_n 1, 1) := by decide +kernel
theorem d_M_readTest_16 : decode b_M_readTest 16 = .ok (.invokevirtual 221, 3) := by decide +kernel
theorem d_M_readTest_19 : decode b_M_readTest 19 = .ok (.goto (-14), 3) := by decide +kernel
theorem d_M_readTest_22 : decode b_M_readTest 22 = .ok (.return_, 1) := by decide +kernel
theorem mf_M_readTest : zMF y_M_readTest b_M_readTest 2 none 1 := ⟨zGW_in 1685 (by decide +kernel) (by decide +kernel), zGW_in 135 (by decide +kernel) (by decide +kernel), by decide +kernel⟩
theorem in_M_readTest : Cond.instanceMethod y_M_readTest ∈ zGW := zGW_in 1684 (by decide +kernel) (by decide +kernel)
theorem se_M_readTest : Cond.selects y_M_readTest.cls y_M_readTest y_M_readTest ∈ zGW := zGW_in 83 (by decide +kernel) (by decide +kernel)
def y_M_readOrder : MethodName := ⟨zNm 11, "readOrder", "()V"⟩
abbrev b_M_readOrder : ByteArray := prog_13_method_43_code
theorem d_M_readOrder_0 : decode b_M_readOrder 0 = .ok (.aload_n 0, 1) := by decide +kernel
theorem d_M_readOrder_1 : decode b_M_readOrder 1 = .ok (.bipush 22, 2) := by decide +kernel
theorem d_M_readOrder_3 : decode b_M_readOrder 3 = .ok (.invokevirtual 188, 3) := by decide +kernel
theorem d_M_readOrder_6 : decode b_M_readOrder 6 = .ok (.ifCond .ne 12, 3) := by decide +kernel
theorem d_M_readOrder_9 : decode b_M_readOrder 9 = .ok (.aload_n 0, 1) := by decide +kernel
theorem d_M_readOrder_10 : decode b_M_readOrder 10 = .ok (.bipush 23, 2) := by decide +kernel
theorem d_M_readOrder_12 : decode b_M_readOrder 12 = .ok (.invokevirtual 188, 3) := by decide +kernel
theorem d_M_readOrder_15 : decode b_M_readOrder 15 = .ok (.ifCond .eq 22, 3) := by decide +kernel
theorem d_M_readOrder_18 : decode b_M_readOrder 18 = .ok (.aload_n 0, 1) := by decide +kernel
theorem d_M_readOrder_19 : decode b_M_readOrder 19 = .ok (.iconst 0, 1) := by decide +kernel
theorem d_M_readOrder_20 : decode b_M_readOrder 20 = .ok (.invokevirtual 197, 3) := by decide +kernel
theorem d_M_readOrder_23 : decode b_M_readOrder 23 = .ok (.aload_n 0, 1) := by decide +kernel
theorem d_M_readOrder_24 : decode b_M_readOrder 24 = .ok (.bipush 10, 2) := by decide +kernel
theorem d_M_readOrder_26 : decode b_M_readOrder 26 = .ok (.invokevirtual 201, 3) := by decide +kernel
theorem d_M_readOrder_29 : decode b_M_readOrder 29 = .ok (.aload_n 0, 1) := by decide +kernel
theorem d_M_readOrder_30 : decode b_M_readOrder 30 = .ok (.iconst 0, 1) := by decide +kernel
theorem d_M_readOrder_31 : decode b_M_readOrder 31 = .ok (.invokevirtual 197, 3) := by decide +kernel
theorem d_M_readOrder_34 : decode b_M_readOrder 34 = .ok (.goto 26, 3) := by decide +kernel
theorem d_M_readOrder_37 : decode b_M_readOrder 37 = .ok (.aload_n 0, 1) := by decide +kernel
theorem d_M_readOrder_38 : decode b_M_readOrder 38 = .ok (.bipush 21, 2) := by decide +kernel
theorem d_M_readOrder_40 : decode b_M_readOrder 40 = .ok (.invokevirtual 188, 3) := by decide +kernel
theorem d_M_readOrder_43 : decode b_M_readOrder 43 = .ok (.ifCond .eq 11, 3) := by decide +kernel
theorem d_M_readOrder_46 : decode b_M_readOrder 46 = .ok (.aload_n 0, 1) := by decide +kernel
theorem d_M_readOrder_47 : decode b_M_readOrder 47 = .ok (.iconst 0, 1) := by decide +kernel
theorem d_M_readOrder_48 : decode b_M_readOrder 48 = .ok (.invokevirtual 197, 3) := by decide +kernel
theorem d_M_readOrder_51 : decode b_M_readOrder 51 = .ok (.goto 9, 3) := by decide +kernel
theorem d_M_readOrder_54 : decode b_M_readOrder 54 = .ok (.aload_n 0, 1) := by decide +kernel
theorem d_M_readOrder_55 : decode b_M_readOrder 55 = .ok (.bipush 24, 2) := by decide +kernel
theorem d_M_readOrder_57 : decode b_M_readOrder 57 = .ok (.invokevirtual 201, 3) := by decide +kernel
theorem d_M_readOrder_60 : decode b_M_readOrder 60 = .ok (.aload_n 0, 1) := by decide +kernel
theorem d_M_readOrder_61 : decode b_M_readOrder 61 = .ok (.bipush 25, 2) := by decide +kernel
theorem d_M_readOrder_63 : decode b_M_readOrder 63 = .ok (.invokevirtual 188, 3) := by decide +kernel
theorem d_M_readOrder_66 : decode b_M_readOrder 66 = .ok (.ifCond .eq 10, 3) := by decide +kernel
theorem d_M_readOrder_69 : decode b_M_readOrder 69 = .ok (.aload_n 0, 1) := by decide +kernel
theorem d_M_readOrder_70 : decode b_M_readOrder 70 = .ok (.iconst 1, 1) := by decide +kernel
theorem d_M_readOrder_71 : decode b_M_readOrder 71 = .ok (.bipush 20, 2) := by decide +kernel
theorem d_M_readOrder_73 : decode b_M_readOrder 73 = .ok (.invokevirtual 207, 3) := by decide +kernel
theorem d_M_readOrder_76 : decode b_M_readOrder 76 = .ok (.aload_n 0, 1) := by decide +kernel
theorem d_M_readOrder_77 : decode b_M_readOrder 77 = .ok (.iconst 5, 1) := by decide +kernel
theorem d_M_readOrder_78 : decode b_M_readOrder 78 = .ok (.invokevirtual 188, 3) := by decide +kernel
theorem d_M_readOrder_81 : decode b_M_readOrder 81 = .ok (.ifCond .eq 8, 3) := by decide +kernel
theorem d_M_readOrder_84 : decode b_M_readOrder 84 = .ok (.aload_n 0, 1) := by decide +kernel
theorem d_M_readOrder_85 : decode b_M_readOrder 85 = .ok (.iconst 0, 1) := by decide +kernel
theorem d_M_readOrder_86 : decode b_M_readOrder 86 = .ok (.invokevirtual 204, 3) := by decide +kernel
theorem d_M_readOrder_89 : decode b_M_readOrder 89 = .ok (.return_, 1) := by decide +kernel
theorem mf_M_readOrder : zMF y_M_readOrder b_M_readOrder 1 none 0 := ⟨zGW_in 1645 (by decide +kernel) (by decide +kernel), zGW_in 135 (by decide +kernel) (by decide +kernel), by decide +kernel⟩
theorem in_M_readOrder : Cond.instanceMethod y_M_readOrder ∈ zGW := zGW_in 1644 (by decide +kernel) (by decide +kernel)
theorem se_M_readOrder : Cond.selects y_M_readOrder.cls y_M_readOrder y_M_readOrder ∈ zGW := zGW_in 73 (by decide +kernel) (by decide +kernel)
def y_M_readClause : MethodName := ⟨zNm 11, "readClause", "()V"⟩
abbrev b_M_readClause : ByteArray := prog_13_method_42_code
theorem d_M_readClause_0 : decode b_M_readClause 0 = .ok (.aload_n 0, 1) := by decide +kernel
theorem d_M_readClause_1 : decode b_M_readClause 1 = .ok (.iconst 1, 1) := by decide +kernel
theorem d_M_readClause_2 : decode b_M_readClause 2 = .ok (.invokevirtual 188, 3) := by decide +kernel
theorem d_M_readClause_5 : decode b_M_readClause 5 = .ok (.ifCond .ne 19, 3) := by decide +kernel
theorem d_M_readClause_8 : decode b_M_readClause 8 = .ok (.aload_n 0, 1) := by decide +kernel
theorem d_M_readClause_9 : decode b_M_readClause 9 = .ok (.iconst 2, 1) := by decide +kernel
theorem d_M_readClause_10 : decode b_M_readClause 10 = .ok (.invokevirtual 188, 3) := by decide +kernel
theorem d_M_readClause_13 : decode b_M_readClause 13 = .ok (.ifCond .ne 11, 3) := by decide +kernel
theorem d_M_readClause_16 : decode b_M_readClause 16 = .ok (.aload_n 0, 1) := by decide +kernel
theorem d_M_readClause_17 : decode b_M_readClause 17 = .ok (.iconst 3, 1) := by decide +kernel
theorem d_M_readClause_18 : decode b_M_readClause 18 = .ok (.invokevirtual 188, 3) := by decide +kernel
theorem d_M_readClause_21 : decode b_M_readClause 21 = .ok (.ifCond .eq 11, 3) := by decide +kernel
theorem d_M_readClause_24 : decode b_M_readClause 24 = .ok (.aload_n 0, 1) := by decide +kernel
theorem d_M_readClause_25 : decode b_M_readClause 25 = .ok (.iconst 0, 1) := by decide +kernel
theorem d_M_readClause_26 : decode b_M_readClause 26 = .ok (.invokevirtual 197, 3) := by decide +kernel
theorem d_M_readClause_29 : decode b_M_readClause 29 = .ok (.goto 8, 3) := by decide +kernel
theorem d_M_readClause_32 : decode b_M_readClause 32 = .ok (.aload_n 0, 1) := by decide +kernel
theorem d_M_readClause_33 : decode b_M_readClause 33 = .ok (.iconst 4, 1) := by decide +kernel
theorem d_M_readClause_34 : decode b_M_readClause 34 = .ok (.invokevirtual 201, 3) := by decide +kernel
theorem d_M_readClause_37 : decode b_M_readClause 37 = .ok (.aload_n 0, 1) := by decide +kernel
theorem d_M_readClause_38 : decode b_M_readClause 38 = .ok (.iconst 5, 1) := by decide +kernel
theorem d_M_readClause_39 : decode b_M_readClause 39 = .ok (.invokevirtual 188, 3) := by decide +kernel
theorem d_M_readClause_42 : decode b_M_readClause 42 = .ok (.ifCond .eq 8, 3) := by decide +kernel
theorem d_M_readClause_45 : decode b_M_readClause 45 = .ok (.aload_n 0, 1) := by decide +kernel
theorem d_M_readClause_46 : decode b_M_readClause 46 = .ok (.iconst 0, 1) := by decide +kernel
theorem d_M_readClause_47 : decode b_M_readClause 47 = .ok (.invokevirtual 204, 3) := by decide +kernel
theorem d_M_readClause_50 : decode b_M_readClause 50 = .ok (.return_, 1) := by decide +kernel
theorem mf_M_readClause : zMF y_M_readClause b_M_readClause 1 none 0 := ⟨zGW_in 1697 (by decide +kernel) (by decide +kernel), zGW_in 135 (by decide +kernel) (by decide +kernel), by decide +kernel⟩
theorem in_M_readClause : Cond.instanceMethod y_M_readClause ∈ zGW := zGW_in 1696 (by decide +kernel) (by decide +kernel)
theorem se_M_readClause : Cond.selects y_M_readClause.cls y_M_readClause y_M_readClause ∈ zGW := zGW_in 86 (by decide +kernel) (by decide +kernel)
def y_M_readOne : MethodName := ⟨zNm 11, "readOne", "()V"⟩
abbrev b_M_readOne : ByteArray := prog_13_method_44_code
theorem d_M_readOne_0 : decode b_M_readOne 0 = .ok (.aload_n 0, 1) := by decide +kernel
theorem d_M_readOne_1 : decode b_M_readOne 1 = .ok (.getfield 211, 3) := by decide +kernel
theorem d_M_readOne_4 : decode b_M_readOne 4 = .ok (.ifCond .eq 10, 3) := by decide +kernel
theorem d_M_readOne_7 : decode b_M_readOne 7 = .ok (.aload_n 0, 1) := by decide +kernel
theorem d_M_readOne_8 : decode b_M_readOne 8 = .ok (.invokevirtual 215, 3) := by decide +kernel
theorem d_M_readOne_11 : decode b_M_readOne 11 = .ok (.goto 7, 3) := by decide +kernel
theorem d_M_readOne_14 : decode b_M_readOne 14 = .ok (.aload_n 0, 1) := by decide +kernel
theorem d_M_readOne_15 : decode b_M_readOne 15 = .ok (.invokevirtual 218, 3) := by decide +kernel
theorem d_M_readOne_18 : decode b_M_readOne 18 = .ok (.return_, 1) := by decide +kernel
theorem mf_M_readOne : zMF y_M_readOne b_M_readOne 1 none 0 := ⟨zGW_in 1641 (by decide +kernel) (by decide +kernel), zGW_in 135 (by decide +kernel) (by decide +kernel), by decide +kernel⟩
theorem in_M_readOne : Cond.instanceMethod y_M_readOne ∈ zGW := zGW_in 1640 (by decide +kernel) (by decide +kernel)
theorem se_M_readOne : Cond.selects y_M_readOne.cls y_M_readOne y_M_readOne ∈ zGW := zGW_in 72 (by decide +kernel) (by decide +kernel)
def y_M_reads : MethodName := ⟨zNm 11, "reads", "()Z"⟩
abbrev b_M_reads : ByteArray := prog_13_method_51_code
theorem d_M_reads_0 : decode b_M_reads 0 = .ok (.aload_n 0, 1) := by decide +kernel
theorem d_M_reads_1 : decode b_M_reads 1 = .ok (.aload_n 0, 1) := by decide +kernel
theorem d_M_reads_2 : decode b_M_reads 2 = .ok (.getfield 159, 3) := by decide +kernel
theorem d_M_reads_5 : decode b_M_reads 5 = .ok (.invokevirtual 246, 3) := by decide +kernel
theorem d_M_reads_8 : decode b_M_reads 8 = .ok (.aload_n 0, 1) := by decide +kernel
theorem d_M_reads_9 : decode b_M_reads 9 = .ok (.iconst 0, 1) := by decide +kernel
theorem d_M_reads_10 : decode b_M_reads 10 = .ok (.putfield 159, 3) := by decide +kernel
theorem d_M_reads_13 : decode b_M_reads 13 = .ok (.aload_n 0, 1) := by decide +kernel
theorem d_M_reads_14 : decode b_M_reads 14 = .ok (.iconst 0, 1) := by decide +kernel
theorem d_M_reads_15 : decode b_M_reads 15 = .ok (.putfield 185, 3) := by decide +kernel
theorem d_M_reads_18 : decode b_M_reads 18 = .ok (.aload_n 0, 1) := by decide +kernel
theorem d_M_reads_19 : decode b_M_reads 19 = .ok (.iconst 0, 1) := by decide +kernel
theorem d_M_reads_20 : decode b_M_reads 20 = .ok (.putfield 194, 3) := by decide +kernel
theorem d_M_reads_23 : decode b_M_reads 23 = .ok (.aload_n 0, 1) := by decide +kernel
theorem d_M_reads_24 : decode b_M_reads 24 = .ok (.iconst (-1), 1) := by decide +kernel
theorem d_M_reads_25 : decode b_M_reads 25 = .ok (.putfield 178, 3) := by decide +kernel
theorem d_M_reads_28 : decode b_M_reads 28 = .ok (.aload_n 0, 1) := by decide +kernel
theorem d_M_reads_29 : decode b_M_reads 29 = .ok (.invokevirtual 249, 3) := by decide +kernel
theorem d_M_reads_32 : decode b_M_reads 32 = .ok (.iconst 1, 1) := by decide +kernel
theorem d_M_reads_33 : decode b_M_reads 33 = .ok (.istore_n 1, 1) := by decide +kernel
theorem d_M_reads_34 : decode b_M_reads 34 = .ok (.aload_n 0, 1) := by decide +kernel
theorem d_M_reads_35 : decode b_M_reads 35 = .ok (.bipush 59, 2) := by decide +kernel
theorem d_M_reads_37 : decode b_M_reads 37 = .ok (.invokestatic 227, 3) := by decide +kernel
theorem d_M_reads_40 : decode b_M_reads 40 = .ok (.invokevirtual 188, 3) := by decide +kernel
theorem d_M_reads_43 : decode b_M_reads 43 = .ok (.ifCond .eq 30, 3) := by decide +kernel
theorem d_M_reads_46 : decode b_M_reads 46 = .ok (.iload_n 1, 1) := by decide +kernel
theorem d_M_reads_47 : decode b_M_reads 47 = .ok (.bipush 12, 2) := by decide +kernel
theorem d_M_reads_49 : decode b_M_reads 49 = .ok (.if_icmp .ne 7, 3) := by decide +kernel
theorem d_M_reads_52 : decode b_M_reads 52 = .ok (.aload_n 0, 1) := by decide +kernel
theorem d_M_reads_53 : decode b_M_reads 53 = .ok (.invokevirtual 191, 3) := by decide +kernel
theorem d_M_reads_56 : decode b_M_reads 56 = .ok (.aload_n 0, 1) := by decide +kernel
theorem d_M_reads_57 : decode b_M_reads 57 = .ok (.invokevirtual 181, 3) := by decide +kernel
theorem d_M_reads_60 : decode b_M_reads 60 = .ok (.ifCond .eq 7, 3) := by decide +kernel
theorem d_M_reads_63 : decode b_M_reads 63 = .ok (.aload_n 0, 1) := by decide +kernel
theorem d_M_reads_64 : decode b_M_reads 64 = .ok (.invokevirtual 249, 3) := by decide +kernel
theorem d_M_reads_67 : decode b_M_reads 67 = .ok (.iinc 1 1, 3) := by decide +kernel
theorem d_M_reads_70 : decode b_M_reads 70 = .ok (.goto (-36), 3) := by decide +kernel
theorem d_M_reads_73 : decode b_M_reads 73 = .ok (.aload_n 0, 1) := by decide +kernel
theorem d_M_reads_74 : decode b_M_reads 74 = .ok (.invokevirtual 181, 3) := by decide +kernel
theorem d_M_reads_77 : decode b_M_reads 77 = .ok (.ifCond .eq 18, 3) := by decide +kernel
theorem d_M_reads_80 : decode b_M_reads 80 = .ok (.aload_n 0, 1) := by decide +kernel
theorem d_M_reads_81 : decode b_M_reads 81 = .ok (.getfield 185, 3) := by decide +kernel
theorem d_M_reads_84 : decode b_M_reads 84 = .ok (.aload_n 0, 1) := by decide +kernel
theorem d_M_reads_85 : decode b_M_reads 85 = .ok (.getfield 165, 3) := by decide +kernel
theorem d_M_reads_88 : decode b_M_reads 88 = .ok (.if_icmp .ge 7, 3) := by decide +kernel
theorem d_M_reads_91 : decode b_M_reads 91 = .ok (.aload_n 0, 1) := by decide +kernel
theorem d_M_reads_92 : decode b_M_reads 92 = .ok (.invokevirtual 191, 3) := by decide +kernel
theorem d_M_reads_95 : decode b_M_reads 95 = .ok (.aload_n 0, 1) := by decide +kernel
theorem d_M_reads_96 : decode b_M_reads 96 = .ok (.aload_n 0, 1) := by decide +kernel
theorem d_M_reads_97 : decode b_M_reads 97 = .ok (.getfield 178, 3) := by decide +kernel
theorem d_M_reads_100 : decode b_M_reads 100 = .ok (.putfield 47, 3) := by decide +kernel
theorem d_M_reads_103 : decode b_M_reads 103 = .ok (.aload_n 0, 1) := by decide +kernel
theorem d_M_reads_104 : decode b_M_reads 104 = .ok (.invokevirtual 181, 3) := by decide +kernel
theorem d_M_reads_107 : decode b_M_reads 107 = .ok (.ireturn, 1) := by decide +kernel
theorem mf_M_reads : zMF y_M_reads b_M_reads 2 (some .boolean) 0 := ⟨zGW_in 1622 (by decide +kernel) (by decide +kernel), zGW_in 135 (by decide +kernel) (by decide +kernel), by decide +kernel⟩
theorem in_M_reads : Cond.instanceMethod y_M_reads ∈ zGW := zGW_in 1621 (by decide +kernel) (by decide +kernel)
theorem se_M_reads : Cond.selects y_M_reads.cls y_M_reads y_M_reads ∈ zGW := zGW_in 69 (by decide +kernel) (by decide +kernel)
def y_M_readsAs : MethodName := ⟨zNm 11, "readsAs", "(Z)Z"⟩
abbrev b_M_readsAs : ByteArray := prog_13_method_52_code
theorem d_M_readsAs_0 : decode b_M_readsAs 0 = .ok (.aload_n 0, 1) := by decide +kernel
theorem d_M_readsAs_1 : decode b_M_readsAs 1 = .ok (.iload_n 1, 1) := by decide +kernel
theorem d_M_readsAs_2 : decode b_M_readsAs 2 = .ok (.putfield 211, 3) := by decide +kernel
theorem d_M_readsAs_5 : decode b_M_readsAs 5 = .ok (.aload_n 0, 1) := by decide +kernel
theorem d_M_readsAs_6 : decode b_M_readsAs 6 = .ok (.iload_n 1, 1) := by decide +kernel
theorem d_M_readsAs_7 : decode b_M_readsAs 7 = .ok (.ifCond .eq 8, 3) := by decide +kernel
theorem d_M_readsAs_10 : decode b_M_readsAs 10 = .ok (.bipush 14, 2) := by decide +kernel
theorem d_M_readsAs_12 : decode b_M_readsAs 12 = .ok (.goto 5, 3) := by decide +kernel
theorem d_M_readsAs_15 : decode b_M_readsAs 15 = .ok (.bipush 9, 2) := by decide +kernel
theorem d_M_readsAs_17 : decode b_M_readsAs 17 = .ok (.putfield 237, 3) := by decide +kernel
theorem d_M_readsAs_20 : decode b_M_readsAs 20 = .ok (.aload_n 0, 1) := by decide +kernel
theorem d_M_readsAs_21 : decode b_M_readsAs 21 = .ok (.iload_n 1, 1) := by decide +kernel
theorem d_M_readsAs_22 : decode b_M_readsAs 22 = .ok (.ifCond .eq 8, 3) := by decide +kernel
theorem d_M_readsAs_25 : decode b_M_readsAs 25 = .ok (.bipush 20, 2) := by decide +kernel
theorem d_M_readsAs_27 : decode b_M_readsAs 27 = .ok (.goto 5, 3) := by decide +kernel
theorem d_M_readsAs_30 : decode b_M_readsAs 30 = .ok (.bipush 15, 2) := by decide +kernel
theorem d_M_readsAs_32 : decode b_M_readsAs 32 = .ok (.putfield 240, 3) := by decide +kernel
theorem d_M_readsAs_35 : decode b_M_readsAs 35 = .ok (.aload_n 0, 1) := by decide +kernel
theorem d_M_readsAs_36 : decode b_M_readsAs 36 = .ok (.invokevirtual 252, 3) := by decide +kernel
theorem d_M_readsAs_39 : decode b_M_readsAs 39 = .ok (.ireturn, 1) := by decide +kernel
theorem mf_M_readsAs : zMF y_M_readsAs b_M_readsAs 2 (some .boolean) 1 := ⟨zGW_in 1618 (by decide +kernel) (by decide +kernel), zGW_in 135 (by decide +kernel) (by decide +kernel), by decide +kernel⟩
theorem in_M_readsAs : Cond.instanceMethod y_M_readsAs ∈ zGW := zGW_in 1617 (by decide +kernel) (by decide +kernel)
theorem se_M_readsAs : Cond.selects y_M_readsAs.cls y_M_readsAs y_M_readsAs ∈ zGW := zGW_in 68 (by decide +kernel) (by decide +kernel)
def y_M_lays : MethodName := ⟨zNm 11, "lays", "(I)V"⟩
abbrev b_M_lays : ByteArray := prog_13_method_53_code
theorem d_M_lays_0 : decode b_M_lays 0 = .ok (.aload_n 0, 1) := by decide +kernel
theorem d_M_lays_1 : decode b_M_lays 1 = .ok (.getfield 24, 3) := by decide +kernel
theorem d_M_lays_4 : decode b_M_lays 4 = .ok (.sipush 200, 3) := by decide +kernel
theorem d_M_lays_7 : decode b_M_lays 7 = .ok (.iload_n 1, 1) := by decide +kernel
theorem d_M_lays_8 : decode b_M_lays 8 = .ok (.iadd, 1) := by decide +kernel
theorem d_M_lays_9 : decode b_M_lays 9 = .ok (.aload_n 0, 1) := by decide +kernel
theorem d_M_lays_10 : decode b_M_lays 10 = .ok (.getfield 165, 3) := by decide +kernel
theorem d_M_lays_13 : decode b_M_lays 13 = .ok (.iastore, 1) := by decide +kernel
theorem d_M_lays_14 : decode b_M_lays 14 = .ok (.iconst 0, 1) := by decide +kernel
theorem d_M_lays_15 : decode b_M_lays 15 = .ok (.istore_n 2, 1) := by decide +kernel
theorem d_M_lays_16 : decode b_M_lays 16 = .ok (.iload_n 2, 1) := by decide +kernel
theorem d_M_lays_17 : decode b_M_lays 17 = .ok (.aload_n 0, 1) := by decide +kernel
theorem d_M_lays_18 : decode b_M_lays 18 = .ok (.getfield 165, 3) := by decide +kernel
theorem d_M_lays_21 : decode b_M_lays 21 = .ok (.if_icmp .ge 53, 3) := by decide +kernel
theorem d_M_lays_24 : decode b_M_lays 24 = .ok (.aload_n 0, 1) := by decide +kernel
theorem d_M_lays_25 : decode b_M_lays 25 = .ok (.getfield 24, 3) := by decide +kernel
theorem d_M_lays_28 : decode b_M_lays 28 = .ok (.sipush 207, 3) := by decide +kernel
theorem d_M_lays_31 : decode b_M_lays 31 = .ok (.sipush 400, 3) := by decide +kernel
theorem d_M_lays_34 : decode b_M_lays 34 = .ok (.iload_n 1, 1) := by decide +kernel
theorem d_M_lays_35 : decode b_M_lays 35 = .ok (.imul, 1) := by decide +kernel
theorem d_M_lays_36 : decode b_M_lays 36 = .ok (.iadd, 1) := by decide +kernel
theorem d_M_lays_37 : decode b_M_lays 37 = .ok (.iload_n 2, 1) := by decide +kernel
theorem d_M_lays_38 : decode b_M_lays 38 = .ok (.iadd, 1) := by decide +kernel
theorem d_M_lays_39 : decode b_M_lays 39 = .ok (.aload_n 0, 1) := by decide +kernel
theorem d_M_lays_40 : decode b_M_lays 40 = .ok (.getfield 50, 3) := by decide +kernel
theorem d_M_lays_43 : decode b_M_lays 43 = .ok (.iload_n 2, 1) := by decide +kernel
theorem d_M_lays_44 : decode b_M_lays 44 = .ok (.iaload, 1) := by decide +kernel
theorem d_M_lays_45 : decode b_M_lays 45 = .ok (.iastore, 1) := by decide +kernel
theorem d_M_lays_46 : decode b_M_lays 46 = .ok (.aload_n 0, 1) := by decide +kernel
theorem d_M_lays_47 : decode b_M_lays 47 = .ok (.getfield 24, 3) := by decide +kernel
theorem d_M_lays_50 : decode b_M_lays 50 = .ok (.sipush 3007, 3) := by decide +kernel
theorem d_M_lays_53 : decode b_M_lays 53 = .ok (.sipush 400, 3) := by decide +kernel
theorem d_M_lays_56 : decode b_M_lays 56 = .ok (.iload_n 1, 1) := by decide +kernel
theorem d_M_lays_57 : decode b_M_lays 57 = .ok (.imul, 1) := by decide +kernel
theorem d_M_lays_58 : decode b_M_lays 58 = .ok (.iadd, 1) := by decide +kernel
theorem d_M_lays_59 : decode b_M_lays 59 = .ok (.iload_n 2, 1) := by decide +kernel
theorem d_M_lays_60 : decode b_M_lays 60 = .ok (.iadd, 1) := by decide +kernel
theorem d_M_lays_61 : decode b_M_lays 61 = .ok (.aload_n 0, 1) := by decide +kernel
theorem d_M_lays_62 : decode b_M_lays 62 = .ok (.getfield 53, 3) := by decide +kernel
theorem d_M_lays_65 : decode b_M_lays 65 = .ok (.iload_n 2, 1) := by decide +kernel
theorem d_M_lays_66 : decode b_M_lays 66 = .ok (.iaload, 1) := by decide +kernel
theorem d_M_lays_67 : decode b_M_lays 67 = .ok (.iastore, 1) := by decide +kernel
theorem d_M_lays_68 : decode b_M_lays 68 = .ok (.iinc 2 1, 3) := by decide +kernel
theorem d_M_lays_71 : decode b_M_lays 71 = .ok (.goto (-55), 3) := by decide +kernel
theorem d_M_lays_74 : decode b_M_lays 74 = .ok (.return_, 1) := by decide +kernel
theorem mf_M_lays : zMF y_M_lays b_M_lays 3 none 1 := ⟨zGW_in 1701 (by decide +kernel) (by decide +kernel), zGW_in 135 (by decide +kernel) (by decide +kernel), by decide +kernel⟩
theorem in_M_lays : Cond.instanceMethod y_M_lays ∈ zGW := zGW_in 1700 (by decide +kernel) (by decide +kernel)
theorem se_M_lays : Cond.selects y_M_lays.cls y_M_lays y_M_lays ∈ zGW := zGW_in 87 (by decide +kernel) (by decide +kernel)
def y_M_law : MethodName := ⟨zNm 11, "law", "()I"⟩
abbrev b_M_law : ByteArray := prog_13_method_54_code
theorem d_M_law_0 : decode b_M_law 0 = .ok (.aload_n 0, 1) := by decide +kernel
theorem d_M_law_1 : decode b_M_law 1 = .ok (.getfield 24, 3) := by decide +kernel
theorem d_M_law_4 : decode b_M_law 4 = .ok (.sipush 198, 3) := by decide +kernel
theorem d_M_law_7 : decode b_M_law 7 = .ok (.iaload, 1) := by decide +kernel
theorem d_M_law_8 : decode b_M_law 8 = .ok (.bipush 6, 2) := by decide +kernel
theorem d_M_law_10 : decode b_M_law 10 = .ok (.if_icmp .ne 15, 3) := by decide +kernel
theorem d_M_law_13 : decode b_M_law 13 = .ok (.aload_n 0, 1) := by decide +kernel
theorem d_M_law_14 : decode b_M_law 14 = .ok (.iconst 0, 1) := by decide +kernel
theorem d_M_law_15 : decode b_M_law 15 = .ok (.putfield 159, 3) := by decide +kernel
theorem d_M_law_18 : decode b_M_law 18 = .ok (.aload_n 0, 1) := by decide +kernel
theorem d_M_law_19 : decode b_M_law 19 = .ok (.bipush (-5), 2) := by decide +kernel
theorem d_M_law_21 : decode b_M_law 21 = .ok (.invokevirtual 112, 3) := by decide +kernel
theorem d_M_law_24 : decode b_M_law 24 = .ok (.ireturn, 1) := by decide +kernel
theorem d_M_law_25 : decode b_M_law 25 = .ok (.aload_n 0, 1) := by decide +kernel
theorem d_M_law_26 : decode b_M_law 26 = .ok (.iconst 0, 1) := by decide +kernel
theorem d_M_law_27 : decode b_M_law 27 = .ok (.invokevirtual 255, 3) := by decide +kernel
theorem d_M_law_30 : decode b_M_law 30 = .ok (.ifCond .ne 10, 3) := by decide +kernel
theorem d_M_law_33 : decode b_M_law 33 = .ok (.aload_n 0, 1) := by decide +kernel
theorem d_M_law_34 : decode b_M_law 34 = .ok (.bipush (-6), 2) := by decide +kernel
theorem d_M_law_36 : decode b_M_law 36 = .ok (.invokevirtual 112, 3) := by decide +kernel
theorem d_M_law_39 : decode b_M_law 39 = .ok (.ireturn, 1) := by decide +kernel
theorem d_M_law_40 : decode b_M_law 40 = .ok (.aload_n 0, 1) := by decide +kernel
theorem d_M_law_41 : decode b_M_law 41 = .ok (.aload_n 0, 1) := by decide +kernel
theorem d_M_law_42 : decode b_M_law 42 = .ok (.getfield 24, 3) := by decide +kernel
theorem d_M_law_45 : decode b_M_law 45 = .ok (.sipush 198, 3) := by decide +kernel
theorem d_M_law_48 : decode b_M_law 48 = .ok (.iaload, 1) := by decide +kernel
theorem d_M_law_49 : decode b_M_law 49 = .ok (.invokevirtual 259, 3) := by decide +kernel
theorem d_M_law_52 : decode b_M_law 52 = .ok (.aload_n 0, 1) := by decide +kernel
theorem d_M_law_53 : decode b_M_law 53 = .ok (.getfield 24, 3) := by decide +kernel
theorem d_M_law_56 : decode b_M_law 56 = .ok (.sipush 198, 3) := by decide +kernel
theorem d_M_law_59 : decode b_M_law 59 = .ok (.dup2, 1) := by decide +kernel
theorem d_M_law_60 : decode b_M_law 60 = .ok (.iaload, 1) := by decide +kernel
theorem d_M_law_61 : decode b_M_law 61 = .ok (.iconst 1, 1) := by decide +kernel
theorem d_M_law_62 : decode b_M_law 62 = .ok (.iadd, 1) := by decide +kernel
theorem d_M_law_63 : decode b_M_law 63 = .ok (.iastore, 1) := by decide +kernel
theorem d_M_law_64 : decode b_M_law 64 = .ok (.aload_n 0, 1) := by decide +kernel
theorem d_M_law_65 : decode b_M_law 65 = .ok (.aload_n 0, 1) := by decide +kernel
theorem d_M_law_66 : decode b_M_law 66 = .ok (.getfield 24, 3) := by decide +kernel
theorem d_M_law_69 : decode b_M_law 69 = .ok (.sipush 198, 3) := by decide +kernel
theorem d_M_law_72 : decode b_M_law 72 = .ok (.iaload, 1) := by decide +kernel
theorem d_M_law_73 : decode b_M_law 73 = .ok (.iconst 1, 1) := by decide +kernel
theorem d_M_law_74 : decode b_M_law 74 = .ok (.isub, 1) := by decide +kernel
theorem d_M_law_75 : decode b_M_law 75 = .ok (.invokevirtual 14, 3) := by decide +kernel
theorem d_M_law_78 : decode b_M_law 78 = .ok (.ireturn, 1) := by decide +kernel
theorem mf_M_law : zMF y_M_law b_M_law 1 (some .int) 0 := ⟨zGW_in 1614 (by decide +kernel) (by decide +kernel), zGW_in 135 (by decide +kernel) (by decide +kernel), by decide +kernel⟩
theorem in_M_law : Cond.instanceMethod y_M_law ∈ zGW := zGW_in 1612 (by decide +kernel) (by decide +kernel)
theorem se_M_law : Cond.selects y_M_law.cls y_M_law y_M_law ∈ zGW := zGW_in 1613 (by decide +kernel) (by decide +kernel)
def y_M_fault : MethodName := ⟨zNm 11, "fault", "()I"⟩
abbrev b_M_fault : ByteArray := prog_13_method_55_code
theorem d_M_fault_0 : decode b_M_fault 0 = .ok (.aload_n 0, 1) := by decide +kernel
theorem d_M_fault_1 : decode b_M_fault 1 = .ok (.getfield 47, 3) := by decide +kernel
theorem d_M_fault_4 : decode b_M_fault 4 = .ok (.ireturn, 1) := by decide +kernel
theorem mf_M_fault : zMF y_M_fault b_M_fault 1 (some .int) 0 := ⟨zGW_in 1705 (by decide +kernel) (by decide +kernel), zGW_in 135 (by decide +kernel) (by decide +kernel), by decide +kernel⟩
theorem in_M_fault : Cond.instanceMethod y_M_fault ∈ zGW := zGW_in 1703 (by decide +kernel) (by decide +kernel)
theorem se_M_fault : Cond.selects y_M_fault.cls y_M_fault y_M_fault ∈ zGW := zGW_in 1704 (by decide +kernel) (by decide +kernel)
def y_M_isLaw : MethodName := ⟨zNm 11, "isLaw", "(I)Z"⟩
abbrev b_M_isLaw : ByteArray := prog_13_method_56_code
theorem d_M_isLaw_0 : decode b_M_isLaw 0 = .ok (.iload_n 1, 1) := by decide +kernel
theorem d_M_isLaw_1 : decode b_M_isLaw 1 = .ok (.iconst (-1), 1) := by decide +kernel
theorem d_M_isLaw_2 : decode b_M_isLaw 2 = .ok (.aload_n 0, 1) := by decide +kernel
theorem d_M_isLaw_3 : decode b_M_isLaw 3 = .ok (.getfield 24, 3) := by decide +kernel
theorem d_M_isLaw_6 : decode b_M_isLaw 6 = .ok (.sipush 198, 3) := by decide +kernel
theorem d_M_isLaw_9 : decode b_M_isLaw 9 = .ok (.iaload, 1) := by decide +kernel
theorem d_M_isLaw_10 : decode b_M_isLaw 10 = .ok (.iconst 1, 1) := by decide +kernel
theorem d_M_isLaw_11 : decode b_M_isLaw 11 = .ok (.isub, 1) := by decide +kernel
theorem d_M_isLaw_12 : decode b_M_isLaw 12 = .ok (.invokestatic 108, 3) := by decide +kernel
theorem d_M_isLaw_15 : decode b_M_isLaw 15 = .ok (.ireturn, 1) := by decide +kernel
theorem mf_M_isLaw : zMF y_M_isLaw b_M_isLaw 2 (some .boolean) 1 := ⟨zGW_in 1713 (by decide +kernel) (by decide +kernel), zGW_in 135 (by decide +kernel) (by decide +kernel), by decide +kernel⟩
theorem in_M_isLaw : Cond.instanceMethod y_M_isLaw ∈ zGW := zGW_in 1712 (by decide +kernel) (by decide +kernel)
theorem se_M_isLaw : Cond.selects y_M_isLaw.cls y_M_isLaw y_M_isLaw ∈ zGW := zGW_in 88 (by decide +kernel) (by decide +kernel)
def y_M_force : MethodName := ⟨zNm 11, "force", "(I)I"⟩
abbrev b_M_force : ByteArray := prog_13_method_57_code
theorem d_M_force_0 : decode b_M_force 0 = .ok (.aload_n 0, 1) := by decide +kernel
theorem d_M_force_1 : decode b_M_force 1 = .ok (.iload_n 1, 1) := by decide +kernel
theorem d_M_force_2 : decode b_M_force 2 = .ok (.invokevirtual 262, 3) := by decide +kernel
theorem d_M_force_5 : decode b_M_force 5 = .ok (.ifCond .ne 10, 3) := by decide +kernel
theorem d_M_force_8 : decode b_M_force 8 = .ok (.aload_n 0, 1) := by decide +kernel
theorem d_M_force_9 : decode b_M_force 9 = .ok (.bipush (-2), 2) := by decide +kernel
theorem d_M_force_11 : decode b_M_force 11 = .ok (.invokevirtual 112, 3) := by decide +kernel
theorem d_M_force_14 : decode b_M_force 14 = .ok (.ireturn, 1) := by decide +kernel
theorem d_M_force_15 : decode b_M_force 15 = .ok (.aload_n 0, 1) := by decide +kernel
theorem d_M_force_16 : decode b_M_force 16 = .ok (.getfield 24, 3) := by decide +kernel
theorem d_M_force_19 : decode b_M_force 19 = .ok (.sipush 199, 3) := by decide +kernel
theorem d_M_force_22 : decode b_M_force 22 = .ok (.iaload, 1) := by decide +kernel
theorem d_M_force_23 : decode b_M_force 23 = .ok (.istore_n 2, 1) := by decide +kernel
theorem d_M_force_24 : decode b_M_force 24 = .ok (.aload_n 0, 1) := by decide +kernel
theorem d_M_force_25 : decode b_M_force 25 = .ok (.getfield 24, 3) := by decide +kernel
theorem d_M_force_28 : decode b_M_force 28 = .ok (.sipush 199, 3) := by decide +kernel
theorem d_M_force_31 : decode b_M_force 31 = .ok (.iload_n 1, 1) := by decide +kernel
theorem d_M_force_32 : decode b_M_force 32 = .ok (.iastore, 1) := by decide +kernel
theorem d_M_force_33 : decode b_M_force 33 = .ok (.aload_n 0, 1) := by decide +kernel
theorem d_M_force_34 : decode b_M_force 34 = .ok (.iload_n 2, 1) := by decide +kernel
theorem d_M_force_35 : decode b_M_force 35 = .ok (.invokevirtual 14, 3) := by decide +kernel
theorem d_M_force_38 : decode b_M_force 38 = .ok (.ireturn, 1) := by decide +kernel
theorem mf_M_force : zMF y_M_force b_M_force 3 (some .int) 1 := ⟨zGW_in 1709 (by decide +kernel) (by decide +kernel), zGW_in 135 (by decide +kernel) (by decide +kernel), by decide +kernel⟩
theorem in_M_force : Cond.instanceMethod y_M_force ∈ zGW := zGW_in 1707 (by decide +kernel) (by decide +kernel)
theorem se_M_force : Cond.selects y_M_force.cls y_M_force y_M_force ∈ zGW := zGW_in 1708 (by decide +kernel) (by decide +kernel)
theorem lk_11_144 : Cond.methodLink (zNm 11) 144 y_M_takesFor ∈ zGW := zGW_in 1569 (by decide +kernel) (by decide +kernel)
theorem lk_11_147 : Cond.methodLink (zNm 11) 147 y_M_weighsFor ∈ zGW := zGW_in 1577 (by decide +kernel) (by decide +kernel)
theorem lk_11_150 : Cond.methodLink (zNm 11) 150 y_M_isBarred ∈ zGW := zGW_in 1581 (by decide +kernel) (by decide +kernel)
theorem lk_11_153 : Cond.methodLink (zNm 11) 153 y_M_isTerm ∈ zGW := zGW_in 1589 (by decide +kernel) (by decide +kernel)
theorem lk_11_156 : Cond.methodLink (zNm 11) 156 y_M_termAt ∈ zGW := zGW_in 1592 (by decide +kernel) (by decide +kernel)
theorem lk_11_168 : Cond.methodLink (zNm 11) 168 y_M_isSmall ∈ zGW := zGW_in 1627 (by decide +kernel) (by decide +kernel)
theorem lk_11_171 : Cond.methodLink (zNm 11) 171 y_M_isDigit ∈ zGW := zGW_in 1630 (by decide +kernel) (by decide +kernel)
theorem lk_11_174 : Cond.methodLink (zNm 11) 174 y_M_wordOf ∈ zGW := zGW_in 1633 (by decide +kernel) (by decide +kernel)
theorem zc_11_177 : Cond.constant (zNm 11) 177 (1000000 : Int32) ∈ zGW := zGW_in 1637 (by decide +kernel) (by decide +kernel)
theorem lk_11_181 : Cond.methodLink (zNm 11) 181 y_M_fine ∈ zGW := zGW_in 1650 (by decide +kernel) (by decide +kernel)
theorem lk_11_188 : Cond.methodLink (zNm 11) 188 y_M_takes0 ∈ zGW := zGW_in 1646 (by decide +kernel) (by decide +kernel)
theorem lk_11_191 : Cond.methodLink (zNm 11) 191 y_M_faults ∈ zGW := zGW_in 1666 (by decide +kernel) (by decide +kernel)
theorem lk_11_197 : Cond.methodLink (zNm 11) 197 y_M_readSum ∈ zGW := zGW_in 1654 (by decide +kernel) (by decide +kernel)
theorem lk_11_201 : Cond.methodLink (zNm 11) 201 y_M_must ∈ zGW := zGW_in 1670 (by decide +kernel) (by decide +kernel)
theorem lk_11_243 : Cond.methodLink (zNm 11) 243 y_M_leaf ∈ zGW := zGW_in 1674 (by decide +kernel) (by decide +kernel)
theorem lk_11_207 : Cond.methodLink (zNm 11) 207 y_M_mustNumber ∈ zGW := zGW_in 1678 (by decide +kernel) (by decide +kernel)
theorem lk_11_234 : Cond.methodLink (zNm 11) 234 y_M_readPart ∈ zGW := zGW_in 1662 (by decide +kernel) (by decide +kernel)
theorem lk_11_231 : Cond.methodLink (zNm 11) 231 y_M_readTerm ∈ zGW := zGW_in 1658 (by decide +kernel) (by decide +kernel)
theorem lk_11_204 : Cond.methodLink (zNm 11) 204 y_M_readTest ∈ zGW := zGW_in 1682 (by decide +kernel) (by decide +kernel)
theorem lk_11_224 : Cond.methodLink (zNm 11) 224 y_M_readPlain ∈ zGW := zGW_in 1690 (by decide +kernel) (by decide +kernel)
theorem lk_11_221 : Cond.methodLink (zNm 11) 221 y_M_readBoth ∈ zGW := zGW_in 1686 (by decide +kernel) (by decide +kernel)
theorem lk_11_215 : Cond.methodLink (zNm 11) 215 y_M_readOrder ∈ zGW := zGW_in 1642 (by decide +kernel) (by decide +kernel)
theorem lk_11_218 : Cond.methodLink (zNm 11) 218 y_M_readClause ∈ zGW := zGW_in 1694 (by decide +kernel) (by decide +kernel)
theorem lk_11_246 : Cond.methodLink (zNm 11) 246 y_M_splits ∈ zGW := zGW_in 1623 (by decide +kernel) (by decide +kernel)
theorem lk_11_249 : Cond.methodLink (zNm 11) 249 y_M_readOne ∈ zGW := zGW_in 1638 (by decide +kernel) (by decide +kernel)
theorem lk_11_252 : Cond.methodLink (zNm 11) 252 y_M_reads ∈ zGW := zGW_in 1619 (by decide +kernel) (by decide +kernel)
theorem lk_11_255 : Cond.methodLink (zNm 11) 255 y_M_readsAs ∈ zGW := zGW_in 1615 (by decide +kernel) (by decide +kernel)
theorem lk_11_259 : Cond.methodLink (zNm 11) 259 y_M_lays ∈ zGW := zGW_in 1698 (by decide +kernel) (by decide +kernel)
theorem lk_11_262 : Cond.methodLink (zNm 11) 262 y_M_isLaw ∈ zGW := zGW_in 1710 (by decide +kernel) (by decide +kernel)
def f_M_between (fu : Nat) (a1 : Int32) (a2 : Int32) (a3 : Int32) (S : zSt) : Option (Int32 × zSt) := zb1 (f_M_areTwo a1 a2 S) (fun r2 => if r2 = 0 then some ((-1 : Int32), S) else if a3 = 0 then zb1 (f_M_farOf a1 a2 S) (fun r26 => some (r26, S)) else if a3 = (1 : Int32) then zb1 (f_M_pairAt a1 a2) (fun r23 => zgd (0 ≤ ((10 : Int32) + r23) ∧ ((10 : Int32) + r23).toNatClampNeg < 5807) (some (zI S 74 ((10 : Int32) + r23).toNatClampNeg, S))) else zb1 (f_M_farOf a1 a2 S) (fun r7 => if r7 = 0 then some ((-1 : Int32), S) else if a3 = (2 : Int32) then zb2 (f_M_takesFor fu a1 a2 S) (fun r11 S12 => some (r11, S12)) else if a3 = (3 : Int32) then zb2 (f_M_weighsFor fu a1 a2 S) (fun r15 S16 => some (r15, S16)) else if a3 = (4 : Int32) then zb2 (f_M_isBarred fu a1 a2 S) (fun r19 S20 => if r19 = 0 then some ((0 : Int32), S20) else some ((1 : Int32), S20)) else some ((-1 : Int32), S)))
set_option maxRecDepth 100000 in
set_option maxHeartbeats 4000000 in
theorem m_M_between (l : Launch) {fu : Nat} {a1 : Int32} {a2 : Int32} {a3 : Int32} {S : zSt} {r : Int32} {S1 : zSt} (h : f_M_between fu a1 a2 a3 S = some (r, S1)) : zPM l y_M_between b_M_between 4 (some .int) rm_M_between true true [zr (some 72), zi a1, zi a2, zi a3] S (some (zi r)) S1 := by
  refine zPM_of (by decide) (Nat.le_of_ble_eq_true rfl) (fun p e s m args below meth c G C hret hname => ?_)
  unfold f_M_between at h
  refine (?_ : zJ p l e rm_M_between s m args below meth c G true 4 0 0 (zQm below G args s rm_M_between true (some (zi r)) S1) S 0 [(0, zr (some 72)), (1, zi a1), (2, zi a2), (3, zi a3)] [])
  refine z_aload_n C 0 rfl d_M_between_0 rfl ?_
  refine z_iload_n C 1 rfl d_M_between_1 rfl ?_
  refine z_iload_n C 2 rfl d_M_between_2 rfl ?_
  obtain ⟨r2, h1, h⟩ := zb1_some h
  refine z_cV C 11 (by decide) (m_M_areTwo l h1) mf_M_areTwo lk_11_130 in_M_areTwo se_M_areTwo rfl zo_72 zk_72 ⟨rfl, rfl⟩ ⟨by decide, by decide⟩ ⟨Nat.zero_le _, Nat.zero_le _⟩ rfl _ [] rfl (Nat.le_of_ble_eq_true rfl) d_M_between_3 ?_
  rcases zite h with ⟨c3, h⟩ | ⟨c3, h⟩
  · refine z_if_nef C 11 c3 d_M_between_6 (by decide) ?_
    refine z_iconst C (-1 : Int32) (by decide) d_M_between_9 ?_
    cases h
    exact z_iret C .int hret rfl ⟨Nat.zero_le _, Nat.zero_le _⟩ d_M_between_10
  · refine z_if_net C 11 c3 d_M_between_6 (by decide) ?_
    refine z_iload_n C 3 rfl d_M_between_11 rfl ?_
    rcases zite h with ⟨c4, h⟩ | ⟨c4, h⟩
    · refine z_if_nef C 22 c4 d_M_between_12 (by decide) ?_
      refine z_aload_n C 0 rfl d_M_between_15 rfl ?_
      refine z_iload_n C 1 rfl d_M_between_16 rfl ?_
      refine z_iload_n C 2 rfl d_M_between_17 rfl ?_
      obtain ⟨r26, h25, h⟩ := zb1_some h
      refine z_cV C 11 (by decide) (m_M_farOf l h25) mf_M_farOf lk_11_134 in_M_farOf se_M_farOf rfl zo_72 zk_72 ⟨rfl, rfl⟩ ⟨by decide, by decide⟩ ⟨Nat.zero_le _, Nat.zero_le _⟩ rfl _ [] rfl (Nat.le_of_ble_eq_true rfl) d_M_between_18 ?_
      cases h
      exact z_iret C .int hret rfl ⟨Nat.zero_le _, Nat.zero_le _⟩ d_M_between_21
    · refine z_if_net C 22 c4 d_M_between_12 (by decide) ?_
      refine z_iload_n C 3 rfl d_M_between_22 rfl ?_
      refine z_iconst C (1 : Int32) (by decide) d_M_between_23 ?_
      rcases zite h with ⟨c5, h⟩ | ⟨c5, h⟩
      · refine z_icmp_nef C 41 c5 d_M_between_24 (by decide) ?_
        refine z_aload_n C 0 rfl d_M_between_27 rfl ?_
        refine z_getF2 C 11 (by decide) 2 (by decide) rfl 2 5807 rfl (74) rfl zp_72 zk_72 zfl_11_24 d_M_between_28 ?_
        refine z_bipush C (10 : Int32) (by decide) d_M_between_31 ?_
        refine z_iload_n C 1 rfl d_M_between_33 rfl ?_
        refine z_iload_n C 2 rfl d_M_between_34 rfl ?_
        obtain ⟨r23, h22, h⟩ := zb1_some h
        refine z_cS C (m_M_pairAt l h22) mf_M_pairAt lk_11_126 st_M_pairAt ⟨rfl, rfl⟩ ⟨by decide, by decide⟩ ⟨Nat.zero_le _, Nat.zero_le _⟩ rfl _ [zi (10 : Int32), zr (some 74)] rfl (Nat.le_of_ble_eq_true rfl) d_M_between_35 ?_
        refine z_iadd C d_M_between_38 ?_
        refine z_fact (fun hSR => ?_)
        obtain ⟨g24, h⟩ := zgd_some h
        refine z_ialoadS C zo_74 zk_74 (za_74 hSR) g24 d_M_between_39 ?_
        cases h
        exact z_iret C .int hret rfl ⟨Nat.zero_le _, Nat.zero_le _⟩ d_M_between_40
      · refine z_icmp_net C 41 c5 d_M_between_24 (by decide) ?_
        refine z_aload_n C 0 rfl d_M_between_41 rfl ?_
        refine z_iload_n C 1 rfl d_M_between_42 rfl ?_
        refine z_iload_n C 2 rfl d_M_between_43 rfl ?_
        obtain ⟨r7, h6, h⟩ := zb1_some h
        refine z_cV C 11 (by decide) (m_M_farOf l h6) mf_M_farOf lk_11_134 in_M_farOf se_M_farOf rfl zo_72 zk_72 ⟨rfl, rfl⟩ ⟨by decide, by decide⟩ ⟨Nat.zero_le _, Nat.zero_le _⟩ rfl _ [] rfl (Nat.le_of_ble_eq_true rfl) d_M_between_44 ?_
        rcases zite h with ⟨c8, h⟩ | ⟨c8, h⟩
        · refine z_if_nef C 52 c8 d_M_between_47 (by decide) ?_
          refine z_iconst C (-1 : Int32) (by decide) d_M_between_50 ?_
          cases h
          exact z_iret C .int hret rfl ⟨Nat.zero_le _, Nat.zero_le _⟩ d_M_between_51
        · refine z_if_net C 52 c8 d_M_between_47 (by decide) ?_
          refine z_iload_n C 3 rfl d_M_between_52 rfl ?_
          rcases zite h with ⟨c9, h⟩ | ⟨c9, h⟩
          · refine z_tab C (2 : Int32) 27 80 c9 (by decide) (by decide) (by decide) (by decide) d_M_between_53 ?_
            refine z_aload_n C 0 rfl d_M_between_80 rfl ?_
            refine z_iload_n C 1 rfl d_M_between_81 rfl ?_
            refine z_iload_n C 2 rfl d_M_between_82 rfl ?_
            obtain ⟨r11, S12, h10, h⟩ := zb2_some h
            refine z_cV C 11 (by decide) (m_M_takesFor l h10) mf_M_takesFor lk_11_144 in_M_takesFor se_M_takesFor rfl zo_72 zk_72 ⟨rfl, rfl⟩ ⟨by decide, by decide⟩ ⟨Nat.zero_le _, Nat.zero_le _⟩ rfl _ [] rfl (Nat.le_of_ble_eq_true rfl) d_M_between_83 ?_
            cases h
            exact z_iret C .int hret rfl ⟨Nat.zero_le _, Nat.zero_le _⟩ d_M_between_86
          · rcases zite h with ⟨c13, h⟩ | ⟨c13, h⟩
            · refine z_tab C (3 : Int32) 34 87 c13 (by decide) (by decide) (by decide) (by decide) d_M_between_53 ?_
              refine z_aload_n C 0 rfl d_M_between_87 rfl ?_
              refine z_iload_n C 1 rfl d_M_between_88 rfl ?_
              refine z_iload_n C 2 rfl d_M_between_89 rfl ?_
              obtain ⟨r15, S16, h14, h⟩ := zb2_some h
              refine z_cV C 11 (by decide) (m_M_weighsFor l h14) mf_M_weighsFor lk_11_147 in_M_weighsFor se_M_weighsFor rfl zo_72 zk_72 ⟨rfl, rfl⟩ ⟨by decide, by decide⟩ ⟨Nat.zero_le _, Nat.zero_le _⟩ rfl _ [] rfl (Nat.le_of_ble_eq_true rfl) d_M_between_90 ?_
              cases h
              exact z_iret C .int hret rfl ⟨Nat.zero_le _, Nat.zero_le _⟩ d_M_between_93
            · rcases zite h with ⟨c17, h⟩ | ⟨c17, h⟩
              · refine z_tab C (4 : Int32) 41 94 c17 (by decide) (by decide) (by decide) (by decide) d_M_between_53 ?_
                refine z_aload_n C 0 rfl d_M_between_94 rfl ?_
                refine z_iload_n C 1 rfl d_M_between_95 rfl ?_
                refine z_iload_n C 2 rfl d_M_between_96 rfl ?_
                obtain ⟨r19, S20, h18, h⟩ := zb2_some h
                refine z_cV C 11 (by decide) (m_M_isBarred l h18) mf_M_isBarred lk_11_150 in_M_isBarred se_M_isBarred rfl zo_72 zk_72 ⟨rfl, rfl⟩ ⟨by decide, by decide⟩ ⟨Nat.zero_le _, Nat.zero_le _⟩ rfl _ [] rfl (Nat.le_of_ble_eq_true rfl) d_M_between_97 ?_
                rcases zite h with ⟨c21, h⟩ | ⟨c21, h⟩
                · refine z_if_eqt C 107 c21 d_M_between_100 (by decide) ?_
                  refine z_iconst C (0 : Int32) (by decide) d_M_between_107 ?_
                  cases h
                  exact z_iret C .int hret rfl ⟨Nat.zero_le _, Nat.zero_le _⟩ d_M_between_108
                · refine z_if_eqf C 107 c21 d_M_between_100 (by decide) ?_
                  refine z_iconst C (1 : Int32) (by decide) d_M_between_103 ?_
                  refine z_goto C 108 d_M_between_104 (by decide) ?_
                  cases h
                  exact z_iret C .int hret rfl ⟨Nat.zero_le _, Nat.zero_le _⟩ d_M_between_108
              · refine z_tabO C (2) 3 (by decide) (fun j hj => by match j, hj with | 0, _ => exact c9 | 1, _ => exact c13 | 2, _ => exact c17 | j + 3, hj => omega) 109 (by decide) d_M_between_53 ?_
                refine z_iconst C (-1 : Int32) (by decide) d_M_between_109 ?_
                cases h
                exact z_iret C .int hret rfl ⟨Nat.zero_le _, Nat.zero_le _⟩ d_M_between_110
def f_M_isTerm (a0 : Int32) (a1 : Int32) : Option Int32 := if a0 = (0 : Int32) then zb1 (f_M_lies a1 (0 : Int32) (999 : Int32)) (fun r3 => zgd (r3 = 0 ∨ r3 = 1) (some r3)) else if a0 = (1 : Int32) then zb1 (f_M_lies a1 (0 : Int32) (10 : Int32)) (fun r7 => zgd (r7 = 0 ∨ r7 = 1) (some r7)) else if a0 = (2 : Int32) then zb1 (f_M_lies a1 (0 : Int32) (9 : Int32)) (fun r11 => zgd (r11 = 0 ∨ r11 = 1) (some r11)) else some (0 : Int32)
set_option maxRecDepth 100000 in
set_option maxHeartbeats 4000000 in
theorem m_M_isTerm (l : Launch) {a0 : Int32} {a1 : Int32} {S : zSt} {r : Int32} (h : f_M_isTerm a0 a1 = some r) : zPM l y_M_isTerm b_M_isTerm 2 (some .boolean) rm_M_isTerm true true [zi a0, zi a1] S (some (zi r)) S := by
  refine zPM_of (by decide) (Nat.le_of_ble_eq_true rfl) (fun p e s m args below meth c G C hret hname => ?_)
  unfold f_M_isTerm at h
  refine (?_ : zJ p l e rm_M_isTerm s m args below meth c G true 2 0 0 (zQm below G args s rm_M_isTerm true (some (zi r)) S) S 0 [(0, zi a0), (1, zi a1)] [])
  refine z_iload_n C 0 rfl d_M_isTerm_0 rfl ?_
  rcases zite h with ⟨c1, h⟩ | ⟨c1, h⟩
  · refine z_tab C (0 : Int32) 27 28 c1 (by decide) (by decide) (by decide) (by decide) d_M_isTerm_1 ?_
    refine z_iload_n C 1 rfl d_M_isTerm_28 rfl ?_
    refine z_iconst C (0 : Int32) (by decide) d_M_isTerm_29 ?_
    refine z_sipush C (999 : Int32) (by decide) d_M_isTerm_30 ?_
    obtain ⟨r3, h2, h⟩ := zb1_some h
    refine z_cS C (m_M_lies l h2) mf_M_lies lk_11_108 st_M_lies ⟨rfl, rfl⟩ ⟨by decide, by decide⟩ ⟨Nat.zero_le _, Nat.zero_le _⟩ rfl _ [] rfl (Nat.le_of_ble_eq_true rfl) d_M_isTerm_33 ?_
    obtain ⟨g4, h⟩ := zgd_some h
    cases h
    exact z_iret C .boolean hret (by rcases g4 with e | e <;> rw [e] <;> rfl) ⟨Nat.zero_le _, Nat.zero_le _⟩ d_M_isTerm_36
  · rcases zite h with ⟨c5, h⟩ | ⟨c5, h⟩
    · refine z_tab C (1 : Int32) 36 37 c5 (by decide) (by decide) (by decide) (by decide) d_M_isTerm_1 ?_
      refine z_iload_n C 1 rfl d_M_isTerm_37 rfl ?_
      refine z_iconst C (0 : Int32) (by decide) d_M_isTerm_38 ?_
      refine z_bipush C (10 : Int32) (by decide) d_M_isTerm_39 ?_
      obtain ⟨r7, h6, h⟩ := zb1_some h
      refine z_cS C (m_M_lies l h6) mf_M_lies lk_11_108 st_M_lies ⟨rfl, rfl⟩ ⟨by decide, by decide⟩ ⟨Nat.zero_le _, Nat.zero_le _⟩ rfl _ [] rfl (Nat.le_of_ble_eq_true rfl) d_M_isTerm_41 ?_
      obtain ⟨g8, h⟩ := zgd_some h
      cases h
      exact z_iret C .boolean hret (by rcases g8 with e | e <;> rw [e] <;> rfl) ⟨Nat.zero_le _, Nat.zero_le _⟩ d_M_isTerm_44
    · rcases zite h with ⟨c9, h⟩ | ⟨c9, h⟩
      · refine z_tab C (2 : Int32) 44 45 c9 (by decide) (by decide) (by decide) (by decide) d_M_isTerm_1 ?_
        refine z_iload_n C 1 rfl d_M_isTerm_45 rfl ?_
        refine z_iconst C (0 : Int32) (by decide) d_M_isTerm_46 ?_
        refine z_bipush C (9 : Int32) (by decide) d_M_isTerm_47 ?_
        obtain ⟨r11, h10, h⟩ := zb1_some h
        refine z_cS C (m_M_lies l h10) mf_M_lies lk_11_108 st_M_lies ⟨rfl, rfl⟩ ⟨by decide, by decide⟩ ⟨Nat.zero_le _, Nat.zero_le _⟩ rfl _ [] rfl (Nat.le_of_ble_eq_true rfl) d_M_isTerm_49 ?_
        obtain ⟨g12, h⟩ := zgd_some h
        cases h
        exact z_iret C .boolean hret (by rcases g12 with e | e <;> rw [e] <;> rfl) ⟨Nat.zero_le _, Nat.zero_le _⟩ d_M_isTerm_52
      · refine z_tabO C (0) 3 (by decide) (fun j hj => by match j, hj with | 0, _ => exact c1 | 1, _ => exact c5 | 2, _ => exact c9 | j + 3, hj => omega) 53 (by decide) d_M_isTerm_1 ?_
        refine z_iconst C (0 : Int32) (by decide) d_M_isTerm_53 ?_
        cases h
        exact z_iret C .boolean hret rfl ⟨Nat.zero_le _, Nat.zero_le _⟩ d_M_isTerm_54
def f_M_termAt (a0 : Int32) : Option Int32 := if a0 = 0 then some (91 : Int32) else if a0 = (1 : Int32) then some (194 : Int32) else some (195 : Int32)
set_option maxRecDepth 100000 in
set_option maxHeartbeats 4000000 in
theorem m_M_termAt (l : Launch) {a0 : Int32} {S : zSt} {r : Int32} (h : f_M_termAt a0 = some r) : zPM l y_M_termAt b_M_termAt 1 (some .int) rm_M_termAt true true [zi a0] S (some (zi r)) S := by
  refine zPM_of (by decide) (Nat.le_of_ble_eq_true rfl) (fun p e s m args below meth c G C hret hname => ?_)
  unfold f_M_termAt at h
  refine (?_ : zJ p l e rm_M_termAt s m args below meth c G true 1 0 0 (zQm below G args s rm_M_termAt true (some (zi r)) S) S 0 [(0, zi a0)] [])
  refine z_iload_n C 0 rfl d_M_termAt_0 rfl ?_
  rcases zite h with ⟨c1, h⟩ | ⟨c1, h⟩
  · refine z_if_nef C 9 c1 d_M_termAt_1 (by decide) ?_
    refine z_bipush C (91 : Int32) (by decide) d_M_termAt_4 ?_
    refine z_goto C 23 d_M_termAt_6 (by decide) ?_
    cases h
    exact z_iret C .int hret rfl ⟨Nat.zero_le _, Nat.zero_le _⟩ d_M_termAt_23
  · refine z_if_net C 9 c1 d_M_termAt_1 (by decide) ?_
    refine z_iload_n C 0 rfl d_M_termAt_9 rfl ?_
    refine z_iconst C (1 : Int32) (by decide) d_M_termAt_10 ?_
    rcases zite h with ⟨c2, h⟩ | ⟨c2, h⟩
    · refine z_icmp_nef C 20 c2 d_M_termAt_11 (by decide) ?_
      refine z_sipush C (194 : Int32) (by decide) d_M_termAt_14 ?_
      refine z_goto C 23 d_M_termAt_17 (by decide) ?_
      cases h
      exact z_iret C .int hret rfl ⟨Nat.zero_le _, Nat.zero_le _⟩ d_M_termAt_23
    · refine z_icmp_net C 20 c2 d_M_termAt_11 (by decide) ?_
      refine z_sipush C (195 : Int32) (by decide) d_M_termAt_20 ?_
      cases h
      exact z_iret C .int hret rfl ⟨Nat.zero_le _, Nat.zero_le _⟩ d_M_termAt_23
def f_M_terms (a1 : Int32) (a2 : Int32) (S : zSt) : Option (Int32 × zSt) := zb1 (f_M_isTerm a1 a2) (fun r2 => if r2 = 0 then zb2 (f_M_refuses (-1 : Int32) S) (fun r14 S15 => some (r14, S15)) else zb1 (f_M_termAt a1) (fun r5 => zgd (0 ≤ r5 ∧ r5.toNatClampNeg < 5807) (zb1 (f_M_termAt a1) (fun r8 => zgd (0 ≤ r8 ∧ r8.toNatClampNeg < 5807) (zb2 (f_M_settled (zI S 74 r5.toNatClampNeg) (zwI S 74 r8.toNatClampNeg a2)) (fun r11 S12 => some (r11, S12)))))))
set_option maxRecDepth 100000 in
set_option maxHeartbeats 4000000 in
theorem m_M_terms (l : Launch) {a1 : Int32} {a2 : Int32} {S : zSt} {r : Int32} {S1 : zSt} (h : f_M_terms a1 a2 S = some (r, S1)) : zPM l y_M_terms b_M_terms 4 (some .int) rm_M_terms true true [zr (some 72), zi a1, zi a2] S (some (zi r)) S1 := by
  refine zPM_of (by decide) (Nat.le_of_ble_eq_true rfl) (fun p e s m args below meth c G C hret hname => ?_)
  unfold f_M_terms at h
  refine (?_ : zJ p l e rm_M_terms s m args below meth c G true 4 0 0 (zQm below G args s rm_M_terms true (some (zi r)) S1) S 0 [(0, zr (some 72)), (1, zi a1), (2, zi a2)] [])
  refine z_iload_n C 1 rfl d_M_terms_0 rfl ?_
  refine z_iload_n C 2 rfl d_M_terms_1 rfl ?_
  obtain ⟨r2, h1, h⟩ := zb1_some h
  refine z_cS C (m_M_isTerm l h1) mf_M_isTerm lk_11_153 st_M_isTerm ⟨rfl, rfl⟩ ⟨by decide, by decide⟩ ⟨Nat.zero_le _, Nat.zero_le _⟩ rfl _ [] rfl (Nat.le_of_ble_eq_true rfl) d_M_terms_2 ?_
  rcases zite h with ⟨c3, h⟩ | ⟨c3, h⟩
  · refine z_if_nef C 14 c3 d_M_terms_5 (by decide) ?_
    refine z_aload_n C 0 rfl d_M_terms_8 rfl ?_
    refine z_iconst C (-1 : Int32) (by decide) d_M_terms_9 ?_
    obtain ⟨r14, S15, h13, h⟩ := zb2_some h
    refine z_cV C 11 (by decide) (m_M_refuses l h13) mf_M_refuses lk_11_112 in_M_refuses se_M_refuses rfl zo_72 zk_72 ⟨rfl, rfl⟩ ⟨by decide, by decide⟩ ⟨Nat.zero_le _, Nat.zero_le _⟩ rfl _ [] rfl (Nat.le_of_ble_eq_true rfl) d_M_terms_10 ?_
    cases h
    exact z_iret C .int hret rfl ⟨Nat.zero_le _, Nat.zero_le _⟩ d_M_terms_13
  · refine z_if_net C 14 c3 d_M_terms_5 (by decide) ?_
    refine z_aload_n C 0 rfl d_M_terms_14 rfl ?_
    refine z_getF2 C 11 (by decide) 2 (by decide) rfl 2 5807 rfl (74) rfl zp_72 zk_72 zfl_11_24 d_M_terms_15 ?_
    refine z_iload_n C 1 rfl d_M_terms_18 rfl ?_
    obtain ⟨r5, h4, h⟩ := zb1_some h
    refine z_cS C (m_M_termAt l h4) mf_M_termAt lk_11_156 st_M_termAt ⟨rfl, rfl⟩ ⟨by decide, by decide⟩ ⟨Nat.zero_le _, Nat.zero_le _⟩ rfl _ [zr (some 74)] rfl (Nat.le_of_ble_eq_true rfl) d_M_terms_19 ?_
    refine z_fact (fun hSR => ?_)
    obtain ⟨g6, h⟩ := zgd_some h
    refine z_ialoadS C zo_74 zk_74 (za_74 hSR) g6 d_M_terms_22 ?_
    refine z_istore_n C [(3, zi (zI S 74 r5.toNatClampNeg)), (0, zr (some 72)), (1, zi a1), (2, zi a2)] d_M_terms_23 rfl (by decide) rfl ?_
    refine z_aload_n C 1 rfl d_M_terms_24 rfl ?_
    refine z_getF2 C 11 (by decide) 2 (by decide) rfl 2 5807 rfl (74) rfl zp_72 zk_72 zfl_11_24 d_M_terms_25 ?_
    refine z_iload_n C 2 rfl d_M_terms_28 rfl ?_
    obtain ⟨r8, h7, h⟩ := zb1_some h
    refine z_cS C (m_M_termAt l h7) mf_M_termAt lk_11_156 st_M_termAt ⟨rfl, rfl⟩ ⟨by decide, by decide⟩ ⟨Nat.zero_le _, Nat.zero_le _⟩ rfl _ [zr (some 74)] rfl (Nat.le_of_ble_eq_true rfl) d_M_terms_29 ?_
    refine z_iload_n C 3 rfl d_M_terms_32 rfl ?_
    refine z_fact (fun hSR => ?_)
    obtain ⟨g9, h⟩ := zgd_some h
    refine z_iastoreS C zo_74 zk_74 (za_74 hSR) g9 d_M_terms_33 ?_
    refine z_aload_n C 1 rfl d_M_terms_34 rfl ?_
    refine z_iload_n C 0 rfl d_M_terms_35 rfl ?_
    obtain ⟨r11, S12, h10, h⟩ := zb2_some h
    refine z_cV C 11 (by decide) (m_M_settled l h10) mf_M_settled lk_11_115 in_M_settled se_M_settled rfl zo_72 zk_72 ⟨rfl, rfl⟩ ⟨by decide, by decide⟩ ⟨Nat.zero_le _, Nat.zero_le _⟩ rfl _ [] rfl (Nat.le_of_ble_eq_true rfl) d_M_terms_36 ?_
    cases h
    exact z_iret C .int hret rfl ⟨Nat.zero_le _, Nat.zero_le _⟩ d_M_terms_39
def f_M_row_134 (fu : Nat) (k40 : Int32 → Int32 → Int32 → zSt → Option (Int32 × zSt)) (a1 : Int32) (a3 : Int32) (a4 : Int32) (k0 : Int32) (k1 : Int32) (S : zSt) : Option (Int32 × zSt) := if a4 = 0 then k40 a1 (k1 + k0) (a3 + (3 : Int32)) (zwI S 72 6 ((zI S 72 6) + (1 : Int32))) else k40 a1 (k1 + k0) (a3 + (3 : Int32)) (zwI S 72 6 ((zI S 72 6) + (0 : Int32)))
def f_M_row_90 (fu : Nat) (k40 : Int32 → Int32 → Int32 → zSt → Option (Int32 × zSt)) (a1 : Int32) (a2 : Int32) (a3 : Int32) (k0 : Int32) (S : zSt) : Option (Int32 × zSt) := if k0 = 0 then if k0 = 0 then f_M_row_134 fu k40 a1 a3 k0 (0 : Int32) a2 S else f_M_row_134 fu k40 a1 a3 k0 (1 : Int32) a2 S else zgd (0 ≤ a3 ∧ a3.toNatClampNeg < 400) (zgd (0 ≤ (a3 + (1 : Int32)) ∧ (a3 + (1 : Int32)).toNatClampNeg < 400) (zgd (0 ≤ (a3 + (2 : Int32)) ∧ (a3 + (2 : Int32)).toNatClampNeg < 400) (zb1 (f_M_laysChannel (zI S 79 a3.toNatClampNeg) (zI S 79 (a3 + (1 : Int32)).toNatClampNeg) (zI S 79 (a3 + (2 : Int32)).toNatClampNeg) S) (fun S7 => if k0 = 0 then f_M_row_134 fu k40 a1 a3 k0 (0 : Int32) a2 S7 else f_M_row_134 fu k40 a1 a3 k0 (1 : Int32) a2 S7))))
def f_M_row_40 (fu : Nat) : Nat → Int32 → Int32 → Int32 → zSt → Option (Int32 × zSt)
  | 0, _, _, _, _ => none
  | n + 1, a1, a2, a3, S => if a1 < (a3 + (3 : Int32)) then zb2 (f_M_settled a2 S) (fun r3 S4 => some (r3, S4)) else zgd (0 ≤ a3 ∧ a3.toNatClampNeg < 400) (zgd (0 ≤ (a3 + (1 : Int32)) ∧ (a3 + (1 : Int32)).toNatClampNeg < 400) (zb1 (f_M_areTwo (zI S 79 a3.toNatClampNeg) (zI S 79 (a3 + (1 : Int32)).toNatClampNeg) S) (fun r8 => if r8 = 0 then f_M_row_90 fu (f_M_row_40 fu n) a1 a2 a3 (0 : Int32) S else zgd (0 ≤ (a3 + (2 : Int32)) ∧ (a3 + (2 : Int32)).toNatClampNeg < 400) (zb1 (f_M_lies (zI S 79 (a3 + (2 : Int32)).toNatClampNeg) (0 : Int32) (50 : Int32)) (fun r12 => if r12 = 0 then f_M_row_90 fu (f_M_row_40 fu n) a1 a2 a3 (0 : Int32) S else f_M_row_90 fu (f_M_row_40 fu n) a1 a2 a3 (1 : Int32) S)))))
def f_M_row (fu : Nat) (S : zSt) : Option (Int32 × zSt) := if (zI S 72 13) = 0 then zb2 (f_M_refuses (-6 : Int32) (zwI S 72 13 (0 : Int32))) (fun r4 S5 => some (r4, S5)) else if ((zI S 72 13) - (zI S 72 13) / (3 : Int32) * (3 : Int32)) = 0 then f_M_row_40 fu fu (zI S 72 13) (0 : Int32) (0 : Int32) (zwI (zwI S 72 13 (0 : Int32)) 72 6 (0 : Int32)) else f_M_row_40 fu fu (zI S 72 13) (0 : Int32) (0 : Int32) (zwI (zwI S 72 13 (0 : Int32)) 72 6 (1 : Int32))
set_option maxRecDepth 100000 in
set_option maxHeartbeats 4000000 in
theorem c_M_row_134 {p : Program} {l : Launch} {e : Env} {s : State} {m : MethodId} {args : Array Value} {below : List Frame} {meth : Method} {c : Code} {G : zG} (C : zC p s m args meth c G b_M_row 5 y_M_row.cls) (hret : meth.sig.returnType = (some .int)) {fu : Nat} {r : Int32} {S1 : zSt} {k40 : Int32 → Int32 → Int32 → zSt → Option (Int32 × zSt)} (hk40 : ∀ (a1 : Int32) (a2 : Int32) (a3 : Int32) (S : zSt) , k40 a1 a2 a3 S = some (r, S1) → zJ p l e rm_M_row s m args below meth c G true 5 0 0 (zQm below G args s rm_M_row true (some (zi r)) S1) S 40 [(0, zr (some 72)), (1, zi a1), (2, zi a2), (3, zi a3)] []) : ∀ (a1 : Int32) (a3 : Int32) (a4 : Int32) (k0 : Int32) (k1 : Int32) (S : zSt) , f_M_row_134 fu k40 a1 a3 a4 k0 k1 S = some (r, S1) → zJ p l e rm_M_row s m args below meth c G true 5 0 0 (zQm below G args s rm_M_row true (some (zi r)) S1) S 134 [(0, zr (some 72)), (1, zi a1), (3, zi a3), (4, zi a4)] [zi k0, zi k1] := by
  intro a1 a3 a4 k0 k1 S h
  unfold f_M_row_134 at h
  refine z_iadd C d_M_row_134 ?_
  refine z_istore_n C [(2, zi (k1 + k0)), (0, zr (some 72)), (1, zi a1), (3, zi a3), (4, zi a4)] d_M_row_135 rfl (by decide) rfl ?_
  refine z_aload_n C 1 rfl d_M_row_136 rfl ?_
  refine z_dup C rfl d_M_row_137 ?_
  refine z_getI C 11 (by decide) 6 (by decide) rfl zo_72 zk_72 zfl_11_162 d_M_row_138 ?_
  refine z_iload C 4 rfl d_M_row_141 ?_
  rcases zite h with ⟨c1, h⟩ | ⟨c1, h⟩
  · refine z_if_eqt C 150 c1 d_M_row_143 (by decide) ?_
    refine z_iconst C (1 : Int32) (by decide) d_M_row_150 ?_
    refine z_iadd C d_M_row_151 ?_
    refine z_putI C 11 (by decide) 6 (by decide) rfl (Or.inl rfl) zo_72 zk_72 zfl_11_162 (Or.inl rfl) d_M_row_152 ?_
    refine z_iinc C 3 (a3 + (3 : Int32)) [(3, zi (a3 + (3 : Int32))), (2, zi (k1 + k0)), (0, zr (some 72)), (1, zi a1), (4, zi a4)] rfl d_M_row_155 (by first | rfl | decide) (by decide) rfl ?_
    refine z_goto C 40 d_M_row_158 (by decide) ?_
    refine zq_lsub [2, 3, 1, 0] [(0, zr (some 72)), (1, zi a1), (2, zi (k1 + k0)), (3, zi (a3 + (3 : Int32)))] rfl ?_
    exact hk40 a1 (k1 + k0) (a3 + (3 : Int32)) (zwI S 72 6 ((zI S 72 6) + (1 : Int32))) h
  · refine z_if_eqf C 150 c1 d_M_row_143 (by decide) ?_
    refine z_iconst C (0 : Int32) (by decide) d_M_row_146 ?_
    refine z_goto C 151 d_M_row_147 (by decide) ?_
    refine z_iadd C d_M_row_151 ?_
    refine z_putI C 11 (by decide) 6 (by decide) rfl (Or.inl rfl) zo_72 zk_72 zfl_11_162 (Or.inl rfl) d_M_row_152 ?_
    refine z_iinc C 3 (a3 + (3 : Int32)) [(3, zi (a3 + (3 : Int32))), (2, zi (k1 + k0)), (0, zr (some 72)), (1, zi a1), (4, zi a4)] rfl d_M_row_155 (by first | rfl | decide) (by decide) rfl ?_
    refine z_goto C 40 d_M_row_158 (by decide) ?_
    refine zq_lsub [2, 3, 1, 0] [(0, zr (some 72)), (1, zi a1), (2, zi (k1 + k0)), (3, zi (a3 + (3 : Int32)))] rfl ?_
    exact hk40 a1 (k1 + k0) (a3 + (3 : Int32)) (zwI S 72 6 ((zI S 72 6) + (0 : Int32))) h
set_option maxRecDepth 100000 in
set_option maxHeartbeats 4000000 in
theorem c_M_row_90 {p : Program} {l : Launch} {e : Env} {s : State} {m : MethodId} {args : Array Value} {below : List Frame} {meth : Method} {c : Code} {G : zG} (C : zC p s m args meth c G b_M_row 5 y_M_row.cls) (hret : meth.sig.returnType = (some .int)) {fu : Nat} {r : Int32} {S1 : zSt} {k40 : Int32 → Int32 → Int32 → zSt → Option (Int32 × zSt)} (hk40 : ∀ (a1 : Int32) (a2 : Int32) (a3 : Int32) (S : zSt) , k40 a1 a2 a3 S = some (r, S1) → zJ p l e rm_M_row s m args below meth c G true 5 0 0 (zQm below G args s rm_M_row true (some (zi r)) S1) S 40 [(0, zr (some 72)), (1, zi a1), (2, zi a2), (3, zi a3)] []) : ∀ (a1 : Int32) (a2 : Int32) (a3 : Int32) (k0 : Int32) (S : zSt) , f_M_row_90 fu k40 a1 a2 a3 k0 S = some (r, S1) → zJ p l e rm_M_row s m args below meth c G true 5 0 0 (zQm below G args s rm_M_row true (some (zi r)) S1) S 90 [(0, zr (some 72)), (1, zi a1), (2, zi a2), (3, zi a3)] [zi k0] := by
  intro a1 a2 a3 k0 S h
  unfold f_M_row_90 at h
  refine z_istore C [(4, zi k0), (0, zr (some 72)), (1, zi a1), (2, zi a2), (3, zi a3)] d_M_row_90 (by decide) rfl ?_
  refine z_iload C 0 rfl d_M_row_92 ?_
  rcases zite h with ⟨c1, h⟩ | ⟨c1, h⟩
  · refine z_if_eqt C 123 c1 d_M_row_94 (by decide) ?_
    refine z_iload_n C 3 rfl d_M_row_123 rfl ?_
    refine z_iload C 0 rfl d_M_row_124 ?_
    rcases zite h with ⟨c2, h⟩ | ⟨c2, h⟩
    · refine z_if_eqt C 133 c2 d_M_row_126 (by decide) ?_
      refine z_iconst C (0 : Int32) (by decide) d_M_row_133 ?_
      refine zq_lsub [1, 2, 4, 0] [(0, zr (some 72)), (1, zi a1), (3, zi a3), (4, zi k0)] rfl ?_
      exact c_M_row_134 C hret hk40  a1 a3 k0 (0 : Int32) a2 S h
    · refine z_if_eqf C 133 c2 d_M_row_126 (by decide) ?_
      refine z_iconst C (1 : Int32) (by decide) d_M_row_129 ?_
      refine z_goto C 134 d_M_row_130 (by decide) ?_
      refine zq_lsub [1, 2, 4, 0] [(0, zr (some 72)), (1, zi a1), (3, zi a3), (4, zi k0)] rfl ?_
      exact c_M_row_134 C hret hk40  a1 a3 k0 (1 : Int32) a2 S h
  · refine z_if_eqf C 123 c1 d_M_row_94 (by decide) ?_
    refine z_aload_n C 1 rfl d_M_row_97 rfl ?_
    refine z_aload_n C 1 rfl d_M_row_98 rfl ?_
    refine z_getF2 C 11 (by decide) 11 (by decide) rfl 7 400 rfl (79) rfl zp_72 zk_72 zfl_11_41 d_M_row_99 ?_
    refine z_iload_n C 4 rfl d_M_row_102 rfl ?_
    refine z_fact (fun hSR => ?_)
    obtain ⟨g3, h⟩ := zgd_some h
    refine z_baloadS C zo_79 zk_79 (za_79 hSR) g3 d_M_row_103 ?_
    refine z_aload_n C 1 rfl d_M_row_104 rfl ?_
    refine z_getF2 C 11 (by decide) 11 (by decide) rfl 7 400 rfl (79) rfl zp_72 zk_72 zfl_11_41 d_M_row_105 ?_
    refine z_iload_n C 4 rfl d_M_row_108 rfl ?_
    refine z_iconst C (1 : Int32) (by decide) d_M_row_109 ?_
    refine z_iadd C d_M_row_110 ?_
    refine z_fact (fun hSR => ?_)
    obtain ⟨g4, h⟩ := zgd_some h
    refine z_baloadS C zo_79 zk_79 (za_79 hSR) g4 d_M_row_111 ?_
    refine z_aload_n C 1 rfl d_M_row_112 rfl ?_
    refine z_getF2 C 11 (by decide) 11 (by decide) rfl 7 400 rfl (79) rfl zp_72 zk_72 zfl_11_41 d_M_row_113 ?_
    refine z_iload_n C 4 rfl d_M_row_116 rfl ?_
    refine z_iconst C (2 : Int32) (by decide) d_M_row_117 ?_
    refine z_iadd C d_M_row_118 ?_
    refine z_fact (fun hSR => ?_)
    obtain ⟨g5, h⟩ := zgd_some h
    refine z_baloadS C zo_79 zk_79 (za_79 hSR) g5 d_M_row_119 ?_
    obtain ⟨S7, h6, h⟩ := zb1_some h
    refine z_cV C 11 (by decide) (m_M_laysChannel l h6) mf_M_laysChannel lk_11_137 in_M_laysChannel se_M_laysChannel rfl zo_72 zk_72 ⟨rfl, rfl⟩ ⟨by decide, by decide⟩ ⟨Nat.zero_le _, Nat.zero_le _⟩ rfl _ [] rfl (Nat.le_of_ble_eq_true rfl) d_M_row_120 ?_
    refine z_iload_n C 3 rfl d_M_row_123 rfl ?_
    refine z_iload C 0 rfl d_M_row_124 ?_
    rcases zite h with ⟨c8, h⟩ | ⟨c8, h⟩
    · refine z_if_eqt C 133 c8 d_M_row_126 (by decide) ?_
      refine z_iconst C (0 : Int32) (by decide) d_M_row_133 ?_
      refine zq_lsub [1, 2, 4, 0] [(0, zr (some 72)), (1, zi a1), (3, zi a3), (4, zi k0)] rfl ?_
      exact c_M_row_134 C hret hk40  a1 a3 k0 (0 : Int32) a2 S7 h
    · refine z_if_eqf C 133 c8 d_M_row_126 (by decide) ?_
      refine z_iconst C (1 : Int32) (by decide) d_M_row_129 ?_
      refine z_goto C 134 d_M_row_130 (by decide) ?_
      refine zq_lsub [1, 2, 4, 0] [(0, zr (some 72)), (1, zi a1), (3, zi a3), (4, zi k0)] rfl ?_
      exact c_M_row_134 C hret hk40  a1 a3 k0 (1 : Int32) a2 S7 h
set_option maxRecDepth 100000 in
set_option maxHeartbeats 4000000 in
theorem c_M_row_40 {p : Program} {l : Launch} {e : Env} {s : State} {m : MethodId} {args : Array Value} {below : List Frame} {meth : Method} {c : Code} {G : zG} (C : zC p s m args meth c G b_M_row 5 y_M_row.cls) (hret : meth.sig.returnType = (some .int)) {fu : Nat} {r : Int32} {S1 : zSt} : ∀ (n : Nat) (a1 : Int32) (a2 : Int32) (a3 : Int32) (S : zSt) , f_M_row_40 fu n a1 a2 a3 S = some (r, S1) → zJ p l e rm_M_row s m args below meth c G true 5 0 0 (zQm below G args s rm_M_row true (some (zi r)) S1) S 40 [(0, zr (some 72)), (1, zi a1), (2, zi a2), (3, zi a3)] [] := by
  intro n
  induction n with
  | zero =>
    intro a1 a2 a3 S h
    cases h
  | succ n ih =>
    intro a1 a2 a3 S h
    rw [f_M_row_40] at h
    refine z_iload_n C 3 rfl d_M_row_40 rfl ?_
    refine z_iconst C (3 : Int32) (by decide) d_M_row_41 ?_
    refine z_iadd C d_M_row_42 ?_
    refine z_iload_n C 1 rfl d_M_row_43 rfl ?_
    rcases zite h with ⟨c1, h⟩ | ⟨c1, h⟩
    · refine z_icmp_gtt C 161 c1 d_M_row_44 (by decide) ?_
      refine z_aload_n C 0 rfl d_M_row_161 rfl ?_
      refine z_iload_n C 2 rfl d_M_row_162 rfl ?_
      obtain ⟨r3, S4, h2, h⟩ := zb2_some h
      refine z_cV C 11 (by decide) (m_M_settled l h2) mf_M_settled lk_11_115 in_M_settled se_M_settled rfl zo_72 zk_72 ⟨rfl, rfl⟩ ⟨by decide, by decide⟩ ⟨Nat.zero_le _, Nat.zero_le _⟩ rfl _ [] rfl (Nat.le_of_ble_eq_true rfl) d_M_row_163 ?_
      cases h
      exact z_iret C .int hret rfl ⟨Nat.zero_le _, Nat.zero_le _⟩ d_M_row_166
    · refine z_icmp_gtf C 161 c1 d_M_row_44 (by decide) ?_
      refine z_aload_n C 0 rfl d_M_row_47 rfl ?_
      refine z_aload_n C 0 rfl d_M_row_48 rfl ?_
      refine z_getF2 C 11 (by decide) 11 (by decide) rfl 7 400 rfl (79) rfl zp_72 zk_72 zfl_11_41 d_M_row_49 ?_
      refine z_iload_n C 3 rfl d_M_row_52 rfl ?_
      refine z_fact (fun hSR => ?_)
      obtain ⟨g5, h⟩ := zgd_some h
      refine z_baloadS C zo_79 zk_79 (za_79 hSR) g5 d_M_row_53 ?_
      refine z_aload_n C 0 rfl d_M_row_54 rfl ?_
      refine z_getF2 C 11 (by decide) 11 (by decide) rfl 7 400 rfl (79) rfl zp_72 zk_72 zfl_11_41 d_M_row_55 ?_
      refine z_iload_n C 3 rfl d_M_row_58 rfl ?_
      refine z_iconst C (1 : Int32) (by decide) d_M_row_59 ?_
      refine z_iadd C d_M_row_60 ?_
      refine z_fact (fun hSR => ?_)
      obtain ⟨g6, h⟩ := zgd_some h
      refine z_baloadS C zo_79 zk_79 (za_79 hSR) g6 d_M_row_61 ?_
      obtain ⟨r8, h7, h⟩ := zb1_some h
      refine z_cV C 11 (by decide) (m_M_areTwo l h7) mf_M_areTwo lk_11_130 in_M_areTwo se_M_areTwo rfl zo_72 zk_72 ⟨rfl, rfl⟩ ⟨by decide, by decide⟩ ⟨Nat.zero_le _, Nat.zero_le _⟩ rfl _ [] rfl (Nat.le_of_ble_eq_true rfl) d_M_row_62 ?_
      rcases zite h with ⟨c9, h⟩ | ⟨c9, h⟩
      · refine z_if_eqt C 89 c9 d_M_row_65 (by decide) ?_
        refine z_iconst C (0 : Int32) (by decide) d_M_row_89 ?_
        refine zq_lsub [0, 1, 2, 3] [(0, zr (some 72)), (1, zi a1), (2, zi a2), (3, zi a3)] rfl ?_
        exact c_M_row_90 C hret (fun z0 z1 z2 zS zh => ih z0 z1 z2 zS zh)  a1 a2 a3 (0 : Int32) S h
      · refine z_if_eqf C 89 c9 d_M_row_65 (by decide) ?_
        refine z_aload_n C 0 rfl d_M_row_68 rfl ?_
        refine z_getF2 C 11 (by decide) 11 (by decide) rfl 7 400 rfl (79) rfl zp_72 zk_72 zfl_11_41 d_M_row_69 ?_
        refine z_iload_n C 3 rfl d_M_row_72 rfl ?_
        refine z_iconst C (2 : Int32) (by decide) d_M_row_73 ?_
        refine z_iadd C d_M_row_74 ?_
        refine z_fact (fun hSR => ?_)
        obtain ⟨g10, h⟩ := zgd_some h
        refine z_baloadS C zo_79 zk_79 (za_79 hSR) g10 d_M_row_75 ?_
        refine z_iconst C (0 : Int32) (by decide) d_M_row_76 ?_
        refine z_bipush C (50 : Int32) (by decide) d_M_row_77 ?_
        obtain ⟨r12, h11, h⟩ := zb1_some h
        refine z_cS C (m_M_lies l h11) mf_M_lies lk_11_108 st_M_lies ⟨rfl, rfl⟩ ⟨by decide, by decide⟩ ⟨Nat.zero_le _, Nat.zero_le _⟩ rfl _ [] rfl (Nat.le_of_ble_eq_true rfl) d_M_row_79 ?_
        rcases zite h with ⟨c13, h⟩ | ⟨c13, h⟩
        · refine z_if_eqt C 89 c13 d_M_row_82 (by decide) ?_
          refine z_iconst C (0 : Int32) (by decide) d_M_row_89 ?_
          refine zq_lsub [0, 1, 2, 3] [(0, zr (some 72)), (1, zi a1), (2, zi a2), (3, zi a3)] rfl ?_
          exact c_M_row_90 C hret (fun z0 z1 z2 zS zh => ih z0 z1 z2 zS zh)  a1 a2 a3 (0 : Int32) S h
        · refine z_if_eqf C 89 c13 d_M_row_82 (by decide) ?_
          refine z_iconst C (1 : Int32) (by decide) d_M_row_85 ?_
          refine z_goto C 90 d_M_row_86 (by decide) ?_
          refine zq_lsub [0, 1, 2, 3] [(0, zr (some 72)), (1, zi a1), (2, zi a2), (3, zi a3)] rfl ?_
          exact c_M_row_90 C hret (fun z0 z1 z2 zS zh => ih z0 z1 z2 zS zh)  a1 a2 a3 (1 : Int32) S h
set_option maxRecDepth 100000 in
set_option maxHeartbeats 4000000 in
theorem m_M_row (l : Launch) {fu : Nat} {S : zSt} {r : Int32} {S1 : zSt} (h : f_M_row fu  S = some (r, S1)) : zPM l y_M_row b_M_row 5 (some .int) rm_M_row true true [zr (some 72)] S (some (zi r)) S1 := by
  refine zPM_of (by decide) (Nat.le_of_ble_eq_true rfl) (fun p e s m args below meth c G C hret hname => ?_)
  unfold f_M_row at h
  refine (?_ : zJ p l e rm_M_row s m args below meth c G true 5 0 0 (zQm below G args s rm_M_row true (some (zi r)) S1) S 0 [(0, zr (some 72))] [])
  refine z_aload_n C 0 rfl d_M_row_0 rfl ?_
  refine z_getI C 11 (by decide) 13 (by decide) rfl zo_72 zk_72 zfl_11_159 d_M_row_1 ?_
  refine z_istore_n C [(1, zi (zI S 72 13)), (0, zr (some 72))] d_M_row_4 rfl (by decide) rfl ?_
  refine z_aload_n C 1 rfl d_M_row_5 rfl ?_
  refine z_iconst C (0 : Int32) (by decide) d_M_row_6 ?_
  refine z_putI C 11 (by decide) 13 (by decide) rfl (Or.inl rfl) zo_72 zk_72 zfl_11_159 (Or.inl rfl) d_M_row_7 ?_
  refine z_iload_n C 0 rfl d_M_row_10 rfl ?_
  rcases zite h with ⟨c1, h⟩ | ⟨c1, h⟩
  · refine z_if_nef C 21 c1 d_M_row_11 (by decide) ?_
    refine z_aload_n C 1 rfl d_M_row_14 rfl ?_
    refine z_bipush C (-6 : Int32) (by decide) d_M_row_15 ?_
    obtain ⟨r4, S5, h3, h⟩ := zb2_some h
    refine z_cV C 11 (by decide) (m_M_refuses l h3) mf_M_refuses lk_11_112 in_M_refuses se_M_refuses rfl zo_72 zk_72 ⟨rfl, rfl⟩ ⟨by decide, by decide⟩ ⟨Nat.zero_le _, Nat.zero_le _⟩ rfl _ [] rfl (Nat.le_of_ble_eq_true rfl) d_M_row_17 ?_
    cases h
    exact z_iret C .int hret rfl ⟨Nat.zero_le _, Nat.zero_le _⟩ d_M_row_20
  · refine z_if_net C 21 c1 d_M_row_11 (by decide) ?_
    refine z_iconst C (0 : Int32) (by decide) d_M_row_21 ?_
    refine z_istore_n C [(2, zi (0 : Int32)), (1, zi (zI S 72 13)), (0, zr (some 72))] d_M_row_22 rfl (by decide) rfl ?_
    refine z_aload_n C 2 rfl d_M_row_23 rfl ?_
    refine z_iload_n C 1 rfl d_M_row_24 rfl ?_
    refine z_iconst C (3 : Int32) (by decide) d_M_row_25 ?_
    refine z_irem C (by decide) d_M_row_26 ?_
    rcases zite h with ⟨c2, h⟩ | ⟨c2, h⟩
    · refine z_if_nef C 34 c2 d_M_row_27 (by decide) ?_
      refine z_iconst C (0 : Int32) (by decide) d_M_row_30 ?_
      refine z_goto C 35 d_M_row_31 (by decide) ?_
      refine z_putI C 11 (by decide) 6 (by decide) rfl (Or.inl rfl) zo_72 zk_72 zfl_11_162 (Or.inl rfl) d_M_row_35 ?_
      refine z_iconst C (0 : Int32) (by decide) d_M_row_38 ?_
      refine z_istore_n C [(3, zi (0 : Int32)), (2, zi (0 : Int32)), (1, zi (zI S 72 13)), (0, zr (some 72))] d_M_row_39 rfl (by decide) rfl ?_
      refine zq_lsub [3, 2, 1, 0] [(0, zr (some 72)), (1, zi (zI S 72 13)), (2, zi (0 : Int32)), (3, zi (0 : Int32))] rfl ?_
      exact c_M_row_40 C hret fu  (zI S 72 13) (0 : Int32) (0 : Int32) (zwI (zwI S 72 13 (0 : Int32)) 72 6 (0 : Int32)) h
    · refine z_if_net C 34 c2 d_M_row_27 (by decide) ?_
      refine z_iconst C (1 : Int32) (by decide) d_M_row_34 ?_
      refine z_putI C 11 (by decide) 6 (by decide) rfl (Or.inl rfl) zo_72 zk_72 zfl_11_162 (Or.inl rfl) d_M_row_35 ?_
      refine z_iconst C (0 : Int32) (by decide) d_M_row_38 ?_
      refine z_istore_n C [(3, zi (0 : Int32)), (2, zi (0 : Int32)), (1, zi (zI S 72 13)), (0, zr (some 72))] d_M_row_39 rfl (by decide) rfl ?_
      refine zq_lsub [3, 2, 1, 0] [(0, zr (some 72)), (1, zi (zI S 72 13)), (2, zi (0 : Int32)), (3, zi (0 : Int32))] rfl ?_
      exact c_M_row_40 C hret fu  (zI S 72 13) (0 : Int32) (0 : Int32) (zwI (zwI S 72 13 (0 : Int32)) 72 6 (1 : Int32)) h
def f_M_bubbles (S : zSt) : Option Int32 := some (zI S 72 6)
set_option maxRecDepth 100000 in
set_option maxHeartbeats 4000000 in
theorem m_M_bubbles (l : Launch) {S : zSt} {r : Int32} (h : f_M_bubbles  S = some r) : zPM l y_M_bubbles b_M_bubbles 1 (some .int) rm_M_bubbles true true [zr (some 72)] S (some (zi r)) S := by
  refine zPM_of (by decide) (Nat.le_of_ble_eq_true rfl) (fun p e s m args below meth c G C hret hname => ?_)
  unfold f_M_bubbles at h
  refine (?_ : zJ p l e rm_M_bubbles s m args below meth c G true 1 0 0 (zQm below G args s rm_M_bubbles true (some (zi r)) S) S 0 [(0, zr (some 72))] [])
  refine z_aload_n C 0 rfl d_M_bubbles_0 rfl ?_
  refine z_getI C 11 (by decide) 6 (by decide) rfl zo_72 zk_72 zfl_11_162 d_M_bubbles_1 ?_
  cases h
  exact z_iret C .int hret rfl ⟨Nat.zero_le _, Nat.zero_le _⟩ d_M_bubbles_4
def f_M_feed_101 (fu : Nat) (S : zSt) : Option (Int32 × zSt) := some (zI (zwI S 72 13 ((zI S 72 13) + (20 : Int32))) 72 13, zwI S 72 13 ((zI S 72 13) + (20 : Int32)))
def f_M_feed_55 (fu : Nat) : Nat → Int32 → zSt → Option (Int32 × zSt)
  | 0, _, _ => none
  | n + 1, a6, S => if (20 : Int32) ≤ a6 then f_M_feed_101 fu S else zgd (0 ≤ (a6 / (4 : Int32)) ∧ (a6 / (4 : Int32)).toNatClampNeg < 5) (zgd (0 ≤ ((zI S 72 13) + a6) ∧ ((zI S 72 13) + a6).toNatClampNeg < 400) (f_M_feed_55 fu n (a6 + (1 : Int32)) (zwI S 79 ((zI S 72 13) + a6).toNatClampNeg (((zI S 80 (a6 / (4 : Int32)).toNatClampNeg) >>> (((24 : Int32) - ((8 : Int32) * (a6 - a6 / (4 : Int32) * (4 : Int32)))) &&& 31)).toInt8.toInt32).toInt8.toInt32)))
def f_M_feed (fu : Nat) (a1 : Int32) (a2 : Int32) (a3 : Int32) (a4 : Int32) (a5 : Int32) (S : zSt) : Option (Int32 × zSt) := if ((zI S 72 13) + (20 : Int32)) ≤ (400 : Int32) then f_M_feed_55 fu fu (0 : Int32) (zwI (zwI (zwI (zwI (zwI S 80 (0 : Int32).toNatClampNeg a1) 80 (1 : Int32).toNatClampNeg a2) 80 (2 : Int32).toNatClampNeg a3) 80 (3 : Int32).toNatClampNeg a4) 80 (4 : Int32).toNatClampNeg a5) else some ((-1 : Int32), S)
set_option maxRecDepth 100000 in
set_option maxHeartbeats 4000000 in
theorem c_M_feed_101 {p : Program} {l : Launch} {e : Env} {s : State} {m : MethodId} {args : Array Value} {below : List Frame} {meth : Method} {c : Code} {G : zG} (C : zC p s m args meth c G b_M_feed 7 y_M_feed.cls) (hret : meth.sig.returnType = (some .int)) {fu : Nat} {r : Int32} {S1 : zSt} : ∀ (S : zSt) , f_M_feed_101 fu  S = some (r, S1) → zJ p l e rm_M_feed s m args below meth c G true 7 0 0 (zQm below G args s rm_M_feed true (some (zi r)) S1) S 101 [(0, zr (some 72))] [] := by
  intro S h
  unfold f_M_feed_101 at h
  refine z_aload_n C 0 rfl d_M_feed_101 rfl ?_
  refine z_dup C rfl d_M_feed_102 ?_
  refine z_getI C 11 (by decide) 13 (by decide) rfl zo_72 zk_72 zfl_11_159 d_M_feed_103 ?_
  refine z_bipush C (20 : Int32) (by decide) d_M_feed_106 ?_
  refine z_iadd C d_M_feed_108 ?_
  refine z_putI C 11 (by decide) 13 (by decide) rfl (Or.inl rfl) zo_72 zk_72 zfl_11_159 (Or.inl rfl) d_M_feed_109 ?_
  refine z_aload_n C 0 rfl d_M_feed_112 rfl ?_
  refine z_getI C 11 (by decide) 13 (by decide) rfl zo_72 zk_72 zfl_11_159 d_M_feed_113 ?_
  cases h
  exact z_iret C .int hret rfl ⟨Nat.zero_le _, Nat.zero_le _⟩ d_M_feed_116
set_option maxRecDepth 100000 in
set_option maxHeartbeats 4000000 in
theorem c_M_feed_55 {p : Program} {l : Launch} {e : Env} {s : State} {m : MethodId} {args : Array Value} {below : List Frame} {meth : Method} {c : Code} {G : zG} (C : zC p s m args meth c G b_M_feed 7 y_M_feed.cls) (hret : meth.sig.returnType = (some .int)) {fu : Nat} {r : Int32} {S1 : zSt} : ∀ (n : Nat) (a6 : Int32) (S : zSt) , f_M_feed_55 fu n a6 S = some (r, S1) → zJ p l e rm_M_feed s m args below meth c G true 7 0 0 (zQm below G args s rm_M_feed true (some (zi r)) S1) S 55 [(0, zr (some 72)), (6, zi a6)] [] := by
  intro n
  induction n with
  | zero =>
    intro a6 S h
    cases h
  | succ n ih =>
    intro a6 S h
    rw [f_M_feed_55] at h
    refine z_iload C 1 rfl d_M_feed_55 ?_
    refine z_bipush C (20 : Int32) (by decide) d_M_feed_57 ?_
    rcases zite h with ⟨c1, h⟩ | ⟨c1, h⟩
    · refine z_icmp_get C 101 c1 d_M_feed_59 (by decide) ?_
      refine zq_lsub [0] [(0, zr (some 72))] rfl ?_
      exact c_M_feed_101 C hret   S h
    · refine z_icmp_gef C 101 c1 d_M_feed_59 (by decide) ?_
      refine z_aload_n C 0 rfl d_M_feed_62 rfl ?_
      refine z_getF2 C 11 (by decide) 11 (by decide) rfl 7 400 rfl (79) rfl zp_72 zk_72 zfl_11_41 d_M_feed_63 ?_
      refine z_aload_n C 0 rfl d_M_feed_66 rfl ?_
      refine z_getI C 11 (by decide) 13 (by decide) rfl zo_72 zk_72 zfl_11_159 d_M_feed_67 ?_
      refine z_iload C 1 rfl d_M_feed_70 ?_
      refine z_iadd C d_M_feed_72 ?_
      refine z_aload_n C 0 rfl d_M_feed_73 rfl ?_
      refine z_getF2 C 11 (by decide) 12 (by decide) rfl 8 5 rfl (80) rfl zp_72 zk_72 zfl_11_44 d_M_feed_74 ?_
      refine z_iload C 1 rfl d_M_feed_77 ?_
      refine z_iconst C (4 : Int32) (by decide) d_M_feed_79 ?_
      refine z_idiv C (by decide) d_M_feed_80 ?_
      refine z_fact (fun hSR => ?_)
      obtain ⟨g2, h⟩ := zgd_some h
      refine z_ialoadS C zo_80 zk_80 (za_80 hSR) g2 d_M_feed_81 ?_
      refine z_bipush C (24 : Int32) (by decide) d_M_feed_82 ?_
      refine z_bipush C (8 : Int32) (by decide) d_M_feed_84 ?_
      refine z_iload C 1 rfl d_M_feed_86 ?_
      refine z_iconst C (4 : Int32) (by decide) d_M_feed_88 ?_
      refine z_irem C (by decide) d_M_feed_89 ?_
      refine z_imul C d_M_feed_90 ?_
      refine z_isub C d_M_feed_91 ?_
      refine z_ishr C d_M_feed_92 ?_
      refine z_i2b C d_M_feed_93 ?_
      refine z_fact (fun hSR => ?_)
      obtain ⟨g3, h⟩ := zgd_some h
      refine z_bastoreS C zo_79 zk_79 (za_79 hSR) g3 d_M_feed_94 ?_
      refine z_iinc C 1 (a6 + (1 : Int32)) [(6, zi (a6 + (1 : Int32))), (0, zr (some 72))] rfl d_M_feed_95 (by first | rfl | decide) (by decide) rfl ?_
      refine z_goto C 55 d_M_feed_98 (by decide) ?_
      refine zq_lsub [1, 0] [(0, zr (some 72)), (6, zi (a6 + (1 : Int32)))] rfl ?_
      exact ih (a6 + (1 : Int32)) (zwI S 79 ((zI S 72 13) + a6).toNatClampNeg (((zI S 80 (a6 / (4 : Int32)).toNatClampNeg) >>> (((24 : Int32) - ((8 : Int32) * (a6 - a6 / (4 : Int32) * (4 : Int32)))) &&& 31)).toInt8.toInt32).toInt8.toInt32) h
set_option maxRecDepth 100000 in
set_option maxHeartbeats 4000000 in
theorem m_M_feed (l : Launch) {fu : Nat} {a1 : Int32} {a2 : Int32} {a3 : Int32} {a4 : Int32} {a5 : Int32} {S : zSt} {r : Int32} {S1 : zSt} (h : f_M_feed fu a1 a2 a3 a4 a5 S = some (r, S1)) : zPM l y_M_feed b_M_feed 7 (some .int) rm_M_feed true true [zr (some 72), zi a1, zi a2, zi a3, zi a4, zi a5] S (some (zi r)) S1 := by
  refine zPM_of (by decide) (Nat.le_of_ble_eq_true rfl) (fun p e s m args below meth c G C hret hname => ?_)
  unfold f_M_feed at h
  refine (?_ : zJ p l e rm_M_feed s m args below meth c G true 7 0 0 (zQm below G args s rm_M_feed true (some (zi r)) S1) S 0 [(0, zr (some 72)), (1, zi a1), (2, zi a2), (3, zi a3), (4, zi a4), (5, zi a5)] [])
  refine z_aload_n C 0 rfl d_M_feed_0 rfl ?_
  refine z_getI C 11 (by decide) 13 (by decide) rfl zo_72 zk_72 zfl_11_159 d_M_feed_1 ?_
  refine z_bipush C (20 : Int32) (by decide) d_M_feed_4 ?_
  refine z_iadd C d_M_feed_6 ?_
  refine z_sipush C (400 : Int32) (by decide) d_M_feed_7 ?_
  rcases zite h with ⟨c1, h⟩ | ⟨c1, h⟩
  · refine z_icmp_let C 15 c1 d_M_feed_10 (by decide) ?_
    refine z_aload_n C 0 rfl d_M_feed_15 rfl ?_
    refine z_getF2 C 11 (by decide) 12 (by decide) rfl 8 5 rfl (80) rfl zp_72 zk_72 zfl_11_44 d_M_feed_16 ?_
    refine z_iconst C (0 : Int32) (by decide) d_M_feed_19 ?_
    refine z_iload_n C 1 rfl d_M_feed_20 rfl ?_
    refine z_fact (fun hSR => ?_)
    refine z_iastoreS C zo_80 zk_80 (za_80 hSR) (by decide) d_M_feed_21 ?_
    refine z_aload_n C 0 rfl d_M_feed_22 rfl ?_
    refine z_getF2 C 11 (by decide) 12 (by decide) rfl 8 5 rfl (80) rfl zp_72 zk_72 zfl_11_44 d_M_feed_23 ?_
    refine z_iconst C (1 : Int32) (by decide) d_M_feed_26 ?_
    refine z_iload_n C 2 rfl d_M_feed_27 rfl ?_
    refine z_fact (fun hSR => ?_)
    refine z_iastoreS C zo_80 zk_80 (za_80 hSR) (by decide) d_M_feed_28 ?_
    refine z_aload_n C 0 rfl d_M_feed_29 rfl ?_
    refine z_getF2 C 11 (by decide) 12 (by decide) rfl 8 5 rfl (80) rfl zp_72 zk_72 zfl_11_44 d_M_feed_30 ?_
    refine z_iconst C (2 : Int32) (by decide) d_M_feed_33 ?_
    refine z_iload_n C 3 rfl d_M_feed_34 rfl ?_
    refine z_fact (fun hSR => ?_)
    refine z_iastoreS C zo_80 zk_80 (za_80 hSR) (by decide) d_M_feed_35 ?_
    refine z_aload_n C 0 rfl d_M_feed_36 rfl ?_
    refine z_getF2 C 11 (by decide) 12 (by decide) rfl 8 5 rfl (80) rfl zp_72 zk_72 zfl_11_44 d_M_feed_37 ?_
    refine z_iconst C (3 : Int32) (by decide) d_M_feed_40 ?_
    refine z_iload C 4 rfl d_M_feed_41 ?_
    refine z_fact (fun hSR => ?_)
    refine z_iastoreS C zo_80 zk_80 (za_80 hSR) (by decide) d_M_feed_43 ?_
    refine z_aload_n C 0 rfl d_M_feed_44 rfl ?_
    refine z_getF2 C 11 (by decide) 12 (by decide) rfl 8 5 rfl (80) rfl zp_72 zk_72 zfl_11_44 d_M_feed_45 ?_
    refine z_iconst C (4 : Int32) (by decide) d_M_feed_48 ?_
    refine z_iload C 5 rfl d_M_feed_49 ?_
    refine z_fact (fun hSR => ?_)
    refine z_iastoreS C zo_80 zk_80 (za_80 hSR) (by decide) d_M_feed_51 ?_
    refine z_iconst C (0 : Int32) (by decide) d_M_feed_52 ?_
    refine z_istore C [(6, zi (0 : Int32)), (0, zr (some 72)), (1, zi a1), (2, zi a2), (3, zi a3), (4, zi a4), (5, zi a5)] d_M_feed_53 (by decide) rfl ?_
    refine zq_lsub [1, 0] [(0, zr (some 72)), (6, zi (0 : Int32))] rfl ?_
    exact c_M_feed_55 C hret fu  (0 : Int32) (zwI (zwI (zwI (zwI (zwI S 80 (0 : Int32).toNatClampNeg a1) 80 (1 : Int32).toNatClampNeg a2) 80 (2 : Int32).toNatClampNeg a3) 80 (3 : Int32).toNatClampNeg a4) 80 (4 : Int32).toNatClampNeg a5) h
  · refine z_icmp_lef C 15 c1 d_M_feed_10 (by decide) ?_
    refine z_iconst C (-1 : Int32) (by decide) d_M_feed_13 ?_
    cases h
    exact z_iret C .int hret rfl ⟨Nat.zero_le _, Nat.zero_le _⟩ d_M_feed_14
def f_M_end (a1 : Int32) (S : zSt) : Option (Int32 × zSt) := zb1 (f_M_lies a1 (0 : Int32) (zI S 72 13)) (fun r2 => if r2 = 0 then some ((-1 : Int32), S) else some (a1, zwI S 72 13 a1))
set_option maxRecDepth 100000 in
set_option maxHeartbeats 4000000 in
theorem m_M_end (l : Launch) {a1 : Int32} {S : zSt} {r : Int32} {S1 : zSt} (h : f_M_end a1 S = some (r, S1)) : zPM l y_M_end b_M_end 2 (some .int) rm_M_end true true [zr (some 72), zi a1] S (some (zi r)) S1 := by
  refine zPM_of (by decide) (Nat.le_of_ble_eq_true rfl) (fun p e s m args below meth c G C hret hname => ?_)
  unfold f_M_end at h
  refine (?_ : zJ p l e rm_M_end s m args below meth c G true 2 0 0 (zQm below G args s rm_M_end true (some (zi r)) S1) S 0 [(0, zr (some 72)), (1, zi a1)] [])
  refine z_iload_n C 1 rfl d_M_end_0 rfl ?_
  refine z_iconst C (0 : Int32) (by decide) d_M_end_1 ?_
  refine z_aload_n C 0 rfl d_M_end_2 rfl ?_
  refine z_getI C 11 (by decide) 13 (by decide) rfl zo_72 zk_72 zfl_11_159 d_M_end_3 ?_
  obtain ⟨r2, h1, h⟩ := zb1_some h
  refine z_cS C (m_M_lies l h1) mf_M_lies lk_11_108 st_M_lies ⟨rfl, rfl⟩ ⟨by decide, by decide⟩ ⟨Nat.zero_le _, Nat.zero_le _⟩ rfl _ [] rfl (Nat.le_of_ble_eq_true rfl) d_M_end_6 ?_
  rcases zite h with ⟨c3, h⟩ | ⟨c3, h⟩
  · refine z_if_nef C 14 c3 d_M_end_9 (by decide) ?_
    refine z_iconst C (-1 : Int32) (by decide) d_M_end_12 ?_
    cases h
    exact z_iret C .int hret rfl ⟨Nat.zero_le _, Nat.zero_le _⟩ d_M_end_13
  · refine z_if_net C 14 c3 d_M_end_9 (by decide) ?_
    refine z_aload_n C 0 rfl d_M_end_14 rfl ?_
    refine z_iload_n C 1 rfl d_M_end_15 rfl ?_
    refine z_putI C 11 (by decide) 13 (by decide) rfl (Or.inl rfl) zo_72 zk_72 zfl_11_159 (Or.inl rfl) d_M_end_16 ?_
    refine z_iload_n C 1 rfl d_M_end_19 rfl ?_
    cases h
    exact z_iret C .int hret rfl ⟨Nat.zero_le _, Nat.zero_le _⟩ d_M_end_20
def f_M_isSmall (a0 : Int32) : Option Int32 := if a0 < (97 : Int32) then some (0 : Int32) else if (122 : Int32) < a0 then some (0 : Int32) else some (1 : Int32)
set_option maxRecDepth 100000 in
set_option maxHeartbeats 4000000 in
theorem m_M_isSmall (l : Launch) {a0 : Int32} {S : zSt} {r : Int32} (h : f_M_isSmall a0 = some r) : zPM l y_M_isSmall b_M_isSmall 1 (some .boolean) rm_M_isSmall true true [zi a0] S (some (zi r)) S := by
  refine zPM_of (by decide) (Nat.le_of_ble_eq_true rfl) (fun p e s m args below meth c G C hret hname => ?_)
  unfold f_M_isSmall at h
  refine (?_ : zJ p l e rm_M_isSmall s m args below meth c G true 1 0 0 (zQm below G args s rm_M_isSmall true (some (zi r)) S) S 0 [(0, zi a0)] [])
  refine z_iload_n C 0 rfl d_M_isSmall_0 rfl ?_
  refine z_bipush C (97 : Int32) (by decide) d_M_isSmall_1 ?_
  rcases zite h with ⟨c1, h⟩ | ⟨c1, h⟩
  · refine z_icmp_ltt C 16 c1 d_M_isSmall_3 (by decide) ?_
    refine z_iconst C (0 : Int32) (by decide) d_M_isSmall_16 ?_
    cases h
    exact z_iret C .boolean hret rfl ⟨Nat.zero_le _, Nat.zero_le _⟩ d_M_isSmall_17
  · refine z_icmp_ltf C 16 c1 d_M_isSmall_3 (by decide) ?_
    refine z_iload_n C 0 rfl d_M_isSmall_6 rfl ?_
    refine z_bipush C (122 : Int32) (by decide) d_M_isSmall_7 ?_
    rcases zite h with ⟨c2, h⟩ | ⟨c2, h⟩
    · refine z_icmp_gtt C 16 c2 d_M_isSmall_9 (by decide) ?_
      refine z_iconst C (0 : Int32) (by decide) d_M_isSmall_16 ?_
      cases h
      exact z_iret C .boolean hret rfl ⟨Nat.zero_le _, Nat.zero_le _⟩ d_M_isSmall_17
    · refine z_icmp_gtf C 16 c2 d_M_isSmall_9 (by decide) ?_
      refine z_iconst C (1 : Int32) (by decide) d_M_isSmall_12 ?_
      refine z_goto C 17 d_M_isSmall_13 (by decide) ?_
      cases h
      exact z_iret C .boolean hret rfl ⟨Nat.zero_le _, Nat.zero_le _⟩ d_M_isSmall_17
def f_M_isDigit (a0 : Int32) : Option Int32 := if a0 < (48 : Int32) then some (0 : Int32) else if (57 : Int32) < a0 then some (0 : Int32) else some (1 : Int32)
set_option maxRecDepth 100000 in
set_option maxHeartbeats 4000000 in
theorem m_M_isDigit (l : Launch) {a0 : Int32} {S : zSt} {r : Int32} (h : f_M_isDigit a0 = some r) : zPM l y_M_isDigit b_M_isDigit 1 (some .boolean) rm_M_isDigit true true [zi a0] S (some (zi r)) S := by
  refine zPM_of (by decide) (Nat.le_of_ble_eq_true rfl) (fun p e s m args below meth c G C hret hname => ?_)
  unfold f_M_isDigit at h
  refine (?_ : zJ p l e rm_M_isDigit s m args below meth c G true 1 0 0 (zQm below G args s rm_M_isDigit true (some (zi r)) S) S 0 [(0, zi a0)] [])
  refine z_iload_n C 0 rfl d_M_isDigit_0 rfl ?_
  refine z_bipush C (48 : Int32) (by decide) d_M_isDigit_1 ?_
  rcases zite h with ⟨c1, h⟩ | ⟨c1, h⟩
  · refine z_icmp_ltt C 16 c1 d_M_isDigit_3 (by decide) ?_
    refine z_iconst C (0 : Int32) (by decide) d_M_isDigit_16 ?_
    cases h
    exact z_iret C .boolean hret rfl ⟨Nat.zero_le _, Nat.zero_le _⟩ d_M_isDigit_17
  · refine z_icmp_ltf C 16 c1 d_M_isDigit_3 (by decide) ?_
    refine z_iload_n C 0 rfl d_M_isDigit_6 rfl ?_
    refine z_bipush C (57 : Int32) (by decide) d_M_isDigit_7 ?_
    rcases zite h with ⟨c2, h⟩ | ⟨c2, h⟩
    · refine z_icmp_gtt C 16 c2 d_M_isDigit_9 (by decide) ?_
      refine z_iconst C (0 : Int32) (by decide) d_M_isDigit_16 ?_
      cases h
      exact z_iret C .boolean hret rfl ⟨Nat.zero_le _, Nat.zero_le _⟩ d_M_isDigit_17
    · refine z_icmp_gtf C 16 c2 d_M_isDigit_9 (by decide) ?_
      refine z_iconst C (1 : Int32) (by decide) d_M_isDigit_12 ?_
      refine z_goto C 17 d_M_isDigit_13 (by decide) ?_
      cases h
      exact z_iret C .boolean hret rfl ⟨Nat.zero_le _, Nat.zero_le _⟩ d_M_isDigit_17
def f_M_wordOf_104 (fu : Nat) (k5 : Int32 → Int32 → Int32 → Int32 → zSt → Option Int32) (a1 : Int32) (a2 : Int32) (a3 : Int32) (a4 : Int32) (a5 : Int32) (a6 : Int32) (S : zSt) : Option Int32 := if a6 = 0 then k5 a1 a2 (a3 + (1 : Int32)) (a4 + (a5 + (1 : Int32))) S else some a3
def f_M_wordOf_57 (fu : Nat) (k5 : Int32 → Int32 → Int32 → Int32 → zSt → Option Int32) : Nat → Int32 → Int32 → Int32 → Int32 → Int32 → Int32 → Int32 → zSt → Option Int32
  | 0, _, _, _, _, _, _, _, _ => none
  | n + 1, a1, a2, a3, a4, a5, a6, a7, S => if a5 ≤ a7 then f_M_wordOf_104 fu k5 a1 a2 a3 a4 a5 a6 S else if a6 = 0 then f_M_wordOf_104 fu k5 a1 a2 a3 a4 a5 a6 S else zgd (0 ≤ (a4 + a7) ∧ (a4 + a7).toNatClampNeg < 121) (zgd (0 ≤ (a1 + a7) ∧ (a1 + a7).toNatClampNeg < 400) (if (zI S 78 (a4 + a7).toNatClampNeg) = (zI S 79 (a1 + a7).toNatClampNeg) then f_M_wordOf_57 fu k5 n a1 a2 a3 a4 a5 (1 : Int32) (a7 + (1 : Int32)) S else f_M_wordOf_57 fu k5 n a1 a2 a3 a4 a5 (0 : Int32) (a7 + (1 : Int32)) S))
def f_M_wordOf_39 (fu : Nat) (k5 : Int32 → Int32 → Int32 → Int32 → zSt → Option Int32) (a1 : Int32) (a2 : Int32) (a3 : Int32) (a4 : Int32) (a5 : Int32) (S : zSt) : Option Int32 := if a5 = (a2 - a1) then f_M_wordOf_57 fu k5 fu a1 a2 a3 a4 a5 (1 : Int32) (0 : Int32) S else f_M_wordOf_57 fu k5 fu a1 a2 a3 a4 a5 (0 : Int32) (0 : Int32) S
def f_M_wordOf_18 (fu : Nat) (k5 : Int32 → Int32 → Int32 → Int32 → zSt → Option Int32) : Nat → Int32 → Int32 → Int32 → Int32 → Int32 → zSt → Option Int32
  | 0, _, _, _, _, _, _ => none
  | n + 1, a1, a2, a3, a4, a5, S => zgd (0 ≤ (a4 + a5) ∧ (a4 + a5).toNatClampNeg < 121) (if (zI S 78 (a4 + a5).toNatClampNeg) = (32 : Int32) then f_M_wordOf_39 fu k5 a1 a2 a3 a4 a5 S else f_M_wordOf_18 fu k5 n a1 a2 a3 a4 (a5 + (1 : Int32)) S)
def f_M_wordOf_5 (fu : Nat) : Nat → Int32 → Int32 → Int32 → Int32 → zSt → Option Int32
  | 0, _, _, _, _, _ => none
  | n + 1, a1, a2, a3, a4, S => if (121 : Int32) ≤ a4 then some (0 : Int32) else f_M_wordOf_18 fu (f_M_wordOf_5 fu n) fu a1 a2 a3 a4 (0 : Int32) S
def f_M_wordOf (fu : Nat) (a1 : Int32) (a2 : Int32) (S : zSt) : Option Int32 := f_M_wordOf_5 fu fu a1 a2 (1 : Int32) (0 : Int32) S
set_option maxRecDepth 100000 in
set_option maxHeartbeats 4000000 in
theorem c_M_wordOf_104 {p : Program} {l : Launch} {e : Env} {s : State} {m : MethodId} {args : Array Value} {below : List Frame} {meth : Method} {c : Code} {G : zG} (C : zC p s m args meth c G b_M_wordOf 8 y_M_wordOf.cls) (hret : meth.sig.returnType = (some .int)) {fu : Nat} {r : Int32} {k5 : Int32 → Int32 → Int32 → Int32 → zSt → Option Int32} (hk5 : ∀ (a1 : Int32) (a2 : Int32) (a3 : Int32) (a4 : Int32) (S : zSt) , k5 a1 a2 a3 a4 S = some r → zJ p l e rm_M_wordOf s m args below meth c G true 8 0 0 (zQm below G args s rm_M_wordOf true (some (zi r)) S) S 5 [(0, zr (some 72)), (1, zi a1), (2, zi a2), (3, zi a3), (4, zi a4)] []) : ∀ (a1 : Int32) (a2 : Int32) (a3 : Int32) (a4 : Int32) (a5 : Int32) (a6 : Int32) (S : zSt) , f_M_wordOf_104 fu k5 a1 a2 a3 a4 a5 a6 S = some r → zJ p l e rm_M_wordOf s m args below meth c G true 8 0 0 (zQm below G args s rm_M_wordOf true (some (zi r)) S) S 104 [(0, zr (some 72)), (1, zi a1), (2, zi a2), (3, zi a3), (4, zi a4), (5, zi a5), (6, zi a6)] [] := by
  intro a1 a2 a3 a4 a5 a6 S h
  unfold f_M_wordOf_104 at h
  refine z_iload C 6 rfl d_M_wordOf_104 ?_
  rcases zite h with ⟨c1, h⟩ | ⟨c1, h⟩
  · refine z_if_eqt C 111 c1 d_M_wordOf_106 (by decide) ?_
    refine z_iload C 4 rfl d_M_wordOf_111 ?_
    refine z_iload C 5 rfl d_M_wordOf_113 ?_
    refine z_iconst C (1 : Int32) (by decide) d_M_wordOf_115 ?_
    refine z_iadd C d_M_wordOf_116 ?_
    refine z_iadd C d_M_wordOf_117 ?_
    refine z_istore C [(4, zi (a4 + (a5 + (1 : Int32)))), (0, zr (some 72)), (1, zi a1), (2, zi a2), (3, zi a3), (5, zi a5), (6, zi a6)] d_M_wordOf_118 (by decide) rfl ?_
    refine z_iinc C 4 (a3 + (1 : Int32)) [(3, zi (a3 + (1 : Int32))), (4, zi (a4 + (a5 + (1 : Int32)))), (0, zr (some 72)), (1, zi a1), (2, zi a2), (5, zi a5), (6, zi a6)] rfl d_M_wordOf_120 (by first | rfl | decide) (by decide) rfl ?_
    refine z_goto C 5 d_M_wordOf_123 (by decide) ?_
    refine zq_lsub [2, 3, 4, 0, 1] [(0, zr (some 72)), (1, zi a1), (2, zi a2), (3, zi (a3 + (1 : Int32))), (4, zi (a4 + (a5 + (1 : Int32))))] rfl ?_
    exact hk5 a1 a2 (a3 + (1 : Int32)) (a4 + (a5 + (1 : Int32))) S h
  · refine z_if_eqf C 111 c1 d_M_wordOf_106 (by decide) ?_
    refine z_iload_n C 3 rfl d_M_wordOf_109 rfl ?_
    cases h
    exact z_iret C .int hret rfl ⟨Nat.zero_le _, Nat.zero_le _⟩ d_M_wordOf_110
set_option maxRecDepth 100000 in
set_option maxHeartbeats 4000000 in
theorem c_M_wordOf_57 {p : Program} {l : Launch} {e : Env} {s : State} {m : MethodId} {args : Array Value} {below : List Frame} {meth : Method} {c : Code} {G : zG} (C : zC p s m args meth c G b_M_wordOf 8 y_M_wordOf.cls) (hret : meth.sig.returnType = (some .int)) {fu : Nat} {r : Int32} {k5 : Int32 → Int32 → Int32 → Int32 → zSt → Option Int32} (hk5 : ∀ (a1 : Int32) (a2 : Int32) (a3 : Int32) (a4 : Int32) (S : zSt) , k5 a1 a2 a3 a4 S = some r → zJ p l e rm_M_wordOf s m args below meth c G true 8 0 0 (zQm below G args s rm_M_wordOf true (some (zi r)) S) S 5 [(0, zr (some 72)), (1, zi a1), (2, zi a2), (3, zi a3), (4, zi a4)] []) : ∀ (n : Nat) (a1 : Int32) (a2 : Int32) (a3 : Int32) (a4 : Int32) (a5 : Int32) (a6 : Int32) (a7 : Int32) (S : zSt) , f_M_wordOf_57 fu k5 n a1 a2 a3 a4 a5 a6 a7 S = some r → zJ p l e rm_M_wordOf s m args below meth c G true 8 0 0 (zQm below G args s rm_M_wordOf true (some (zi r)) S) S 57 [(0, zr (some 72)), (1, zi a1), (2, zi a2), (3, zi a3), (4, zi a4), (5, zi a5), (6, zi a6), (7, zi a7)] [] := by
  intro n
  induction n with
  | zero =>
    intro a1 a2 a3 a4 a5 a6 a7 S h
    cases h
  | succ n ih =>
    intro a1 a2 a3 a4 a5 a6 a7 S h
    rw [f_M_wordOf_57] at h
    refine z_iload C 7 rfl d_M_wordOf_57 ?_
    refine z_iload C 5 rfl d_M_wordOf_59 ?_
    rcases zite h with ⟨c1, h⟩ | ⟨c1, h⟩
    · refine z_icmp_get C 104 c1 d_M_wordOf_61 (by decide) ?_
      refine zq_lsub [0, 1, 2, 3, 4, 5, 6] [(0, zr (some 72)), (1, zi a1), (2, zi a2), (3, zi a3), (4, zi a4), (5, zi a5), (6, zi a6)] rfl ?_
      exact c_M_wordOf_104 C hret hk5  a1 a2 a3 a4 a5 a6 S h
    · refine z_icmp_gef C 104 c1 d_M_wordOf_61 (by decide) ?_
      refine z_iload C 6 rfl d_M_wordOf_64 ?_
      rcases zite h with ⟨c2, h⟩ | ⟨c2, h⟩
      · refine z_if_eqt C 104 c2 d_M_wordOf_66 (by decide) ?_
        refine zq_lsub [0, 1, 2, 3, 4, 5, 6] [(0, zr (some 72)), (1, zi a1), (2, zi a2), (3, zi a3), (4, zi a4), (5, zi a5), (6, zi a6)] rfl ?_
        exact c_M_wordOf_104 C hret hk5  a1 a2 a3 a4 a5 a6 S h
      · refine z_if_eqf C 104 c2 d_M_wordOf_66 (by decide) ?_
        refine z_aload_n C 0 rfl d_M_wordOf_69 rfl ?_
        refine z_getF2 C 11 (by decide) 7 (by decide) rfl 6 121 rfl (78) rfl zp_72 zk_72 zfl_11_37 d_M_wordOf_70 ?_
        refine z_iload C 4 rfl d_M_wordOf_73 ?_
        refine z_iload C 7 rfl d_M_wordOf_75 ?_
        refine z_iadd C d_M_wordOf_77 ?_
        refine z_fact (fun hSR => ?_)
        obtain ⟨g3, h⟩ := zgd_some h
        refine z_baloadS C zo_78 zk_78 (za_78 hSR) g3 d_M_wordOf_78 ?_
        refine z_aload_n C 0 rfl d_M_wordOf_79 rfl ?_
        refine z_getF2 C 11 (by decide) 11 (by decide) rfl 7 400 rfl (79) rfl zp_72 zk_72 zfl_11_41 d_M_wordOf_80 ?_
        refine z_iload_n C 1 rfl d_M_wordOf_83 rfl ?_
        refine z_iload C 7 rfl d_M_wordOf_84 ?_
        refine z_iadd C d_M_wordOf_86 ?_
        refine z_fact (fun hSR => ?_)
        obtain ⟨g4, h⟩ := zgd_some h
        refine z_baloadS C zo_79 zk_79 (za_79 hSR) g4 d_M_wordOf_87 ?_
        rcases zite h with ⟨c5, h⟩ | ⟨c5, h⟩
        · refine z_icmp_nef C 95 c5 d_M_wordOf_88 (by decide) ?_
          refine z_iconst C (1 : Int32) (by decide) d_M_wordOf_91 ?_
          refine z_goto C 96 d_M_wordOf_92 (by decide) ?_
          refine z_istore C [(6, zi (1 : Int32)), (0, zr (some 72)), (1, zi a1), (2, zi a2), (3, zi a3), (4, zi a4), (5, zi a5), (7, zi a7)] d_M_wordOf_96 (by decide) rfl ?_
          refine z_iinc C 7 (a7 + (1 : Int32)) [(7, zi (a7 + (1 : Int32))), (6, zi (1 : Int32)), (0, zr (some 72)), (1, zi a1), (2, zi a2), (3, zi a3), (4, zi a4), (5, zi a5)] rfl d_M_wordOf_98 (by first | rfl | decide) (by decide) rfl ?_
          refine z_goto C 57 d_M_wordOf_101 (by decide) ?_
          refine zq_lsub [2, 3, 4, 5, 6, 7, 1, 0] [(0, zr (some 72)), (1, zi a1), (2, zi a2), (3, zi a3), (4, zi a4), (5, zi a5), (6, zi (1 : Int32)), (7, zi (a7 + (1 : Int32)))] rfl ?_
          exact ih a1 a2 a3 a4 a5 (1 : Int32) (a7 + (1 : Int32)) S h
        · refine z_icmp_net C 95 c5 d_M_wordOf_88 (by decide) ?_
          refine z_iconst C (0 : Int32) (by decide) d_M_wordOf_95 ?_
          refine z_istore C [(6, zi (0 : Int32)), (0, zr (some 72)), (1, zi a1), (2, zi a2), (3, zi a3), (4, zi a4), (5, zi a5), (7, zi a7)] d_M_wordOf_96 (by decide) rfl ?_
          refine z_iinc C 7 (a7 + (1 : Int32)) [(7, zi (a7 + (1 : Int32))), (6, zi (0 : Int32)), (0, zr (some 72)), (1, zi a1), (2, zi a2), (3, zi a3), (4, zi a4), (5, zi a5)] rfl d_M_wordOf_98 (by first | rfl | decide) (by decide) rfl ?_
          refine z_goto C 57 d_M_wordOf_101 (by decide) ?_
          refine zq_lsub [2, 3, 4, 5, 6, 7, 1, 0] [(0, zr (some 72)), (1, zi a1), (2, zi a2), (3, zi a3), (4, zi a4), (5, zi a5), (6, zi (0 : Int32)), (7, zi (a7 + (1 : Int32)))] rfl ?_
          exact ih a1 a2 a3 a4 a5 (0 : Int32) (a7 + (1 : Int32)) S h
set_option maxRecDepth 100000 in
set_option maxHeartbeats 4000000 in
theorem c_M_wordOf_39 {p : Program} {l : Launch} {e : Env} {s : State} {m : MethodId} {args : Array Value} {below : List Frame} {meth : Method} {c : Code} {G : zG} (C : zC p s m args meth c G b_M_wordOf 8 y_M_wordOf.cls) (hret : meth.sig.returnType = (some .int)) {fu : Nat} {r : Int32} {k5 : Int32 → Int32 → Int32 → Int32 → zSt → Option Int32} (hk5 : ∀ (a1 : Int32) (a2 : Int32) (a3 : Int32) (a4 : Int32) (S : zSt) , k5 a1 a2 a3 a4 S = some r → zJ p l e rm_M_wordOf s m args below meth c G true 8 0 0 (zQm below G args s rm_M_wordOf true (some (zi r)) S) S 5 [(0, zr (some 72)), (1, zi a1), (2, zi a2), (3, zi a3), (4, zi a4)] []) : ∀ (a1 : Int32) (a2 : Int32) (a3 : Int32) (a4 : Int32) (a5 : Int32) (S : zSt) , f_M_wordOf_39 fu k5 a1 a2 a3 a4 a5 S = some r → zJ p l e rm_M_wordOf s m args below meth c G true 8 0 0 (zQm below G args s rm_M_wordOf true (some (zi r)) S) S 39 [(0, zr (some 72)), (1, zi a1), (2, zi a2), (3, zi a3), (4, zi a4), (5, zi a5)] [] := by
  intro a1 a2 a3 a4 a5 S h
  unfold f_M_wordOf_39 at h
  refine z_iload C 5 rfl d_M_wordOf_39 ?_
  refine z_iload_n C 2 rfl d_M_wordOf_41 rfl ?_
  refine z_iload_n C 1 rfl d_M_wordOf_42 rfl ?_
  refine z_isub C d_M_wordOf_43 ?_
  rcases zite h with ⟨c1, h⟩ | ⟨c1, h⟩
  · refine z_icmp_nef C 51 c1 d_M_wordOf_44 (by decide) ?_
    refine z_iconst C (1 : Int32) (by decide) d_M_wordOf_47 ?_
    refine z_goto C 52 d_M_wordOf_48 (by decide) ?_
    refine z_istore C [(6, zi (1 : Int32)), (0, zr (some 72)), (1, zi a1), (2, zi a2), (3, zi a3), (4, zi a4), (5, zi a5)] d_M_wordOf_52 (by decide) rfl ?_
    refine z_iconst C (0 : Int32) (by decide) d_M_wordOf_54 ?_
    refine z_istore C [(7, zi (0 : Int32)), (6, zi (1 : Int32)), (0, zr (some 72)), (1, zi a1), (2, zi a2), (3, zi a3), (4, zi a4), (5, zi a5)] d_M_wordOf_55 (by decide) rfl ?_
    refine zq_lsub [2, 3, 4, 5, 6, 7, 1, 0] [(0, zr (some 72)), (1, zi a1), (2, zi a2), (3, zi a3), (4, zi a4), (5, zi a5), (6, zi (1 : Int32)), (7, zi (0 : Int32))] rfl ?_
    exact c_M_wordOf_57 C hret hk5 fu  a1 a2 a3 a4 a5 (1 : Int32) (0 : Int32) S h
  · refine z_icmp_net C 51 c1 d_M_wordOf_44 (by decide) ?_
    refine z_iconst C (0 : Int32) (by decide) d_M_wordOf_51 ?_
    refine z_istore C [(6, zi (0 : Int32)), (0, zr (some 72)), (1, zi a1), (2, zi a2), (3, zi a3), (4, zi a4), (5, zi a5)] d_M_wordOf_52 (by decide) rfl ?_
    refine z_iconst C (0 : Int32) (by decide) d_M_wordOf_54 ?_
    refine z_istore C [(7, zi (0 : Int32)), (6, zi (0 : Int32)), (0, zr (some 72)), (1, zi a1), (2, zi a2), (3, zi a3), (4, zi a4), (5, zi a5)] d_M_wordOf_55 (by decide) rfl ?_
    refine zq_lsub [2, 3, 4, 5, 6, 7, 1, 0] [(0, zr (some 72)), (1, zi a1), (2, zi a2), (3, zi a3), (4, zi a4), (5, zi a5), (6, zi (0 : Int32)), (7, zi (0 : Int32))] rfl ?_
    exact c_M_wordOf_57 C hret hk5 fu  a1 a2 a3 a4 a5 (0 : Int32) (0 : Int32) S h
set_option maxRecDepth 100000 in
set_option maxHeartbeats 4000000 in
theorem c_M_wordOf_18 {p : Program} {l : Launch} {e : Env} {s : State} {m : MethodId} {args : Array Value} {below : List Frame} {meth : Method} {c : Code} {G : zG} (C : zC p s m args meth c G b_M_wordOf 8 y_M_wordOf.cls) (hret : meth.sig.returnType = (some .int)) {fu : Nat} {r : Int32} {k5 : Int32 → Int32 → Int32 → Int32 → zSt → Option Int32} (hk5 : ∀ (a1 : Int32) (a2 : Int32) (a3 : Int32) (a4 : Int32) (S : zSt) , k5 a1 a2 a3 a4 S = some r → zJ p l e rm_M_wordOf s m args below meth c G true 8 0 0 (zQm below G args s rm_M_wordOf true (some (zi r)) S) S 5 [(0, zr (some 72)), (1, zi a1), (2, zi a2), (3, zi a3), (4, zi a4)] []) : ∀ (n : Nat) (a1 : Int32) (a2 : Int32) (a3 : Int32) (a4 : Int32) (a5 : Int32) (S : zSt) , f_M_wordOf_18 fu k5 n a1 a2 a3 a4 a5 S = some r → zJ p l e rm_M_wordOf s m args below meth c G true 8 0 0 (zQm below G args s rm_M_wordOf true (some (zi r)) S) S 18 [(0, zr (some 72)), (1, zi a1), (2, zi a2), (3, zi a3), (4, zi a4), (5, zi a5)] [] := by
  intro n
  induction n with
  | zero =>
    intro a1 a2 a3 a4 a5 S h
    cases h
  | succ n ih =>
    intro a1 a2 a3 a4 a5 S h
    rw [f_M_wordOf_18] at h
    refine z_aload_n C 0 rfl d_M_wordOf_18 rfl ?_
    refine z_getF2 C 11 (by decide) 7 (by decide) rfl 6 121 rfl (78) rfl zp_72 zk_72 zfl_11_37 d_M_wordOf_19 ?_
    refine z_iload C 4 rfl d_M_wordOf_22 ?_
    refine z_iload C 5 rfl d_M_wordOf_24 ?_
    refine z_iadd C d_M_wordOf_26 ?_
    refine z_fact (fun hSR => ?_)
    obtain ⟨g1, h⟩ := zgd_some h
    refine z_baloadS C zo_78 zk_78 (za_78 hSR) g1 d_M_wordOf_27 ?_
    refine z_bipush C (32 : Int32) (by decide) d_M_wordOf_28 ?_
    rcases zite h with ⟨c2, h⟩ | ⟨c2, h⟩
    · refine z_icmp_eqt C 39 c2 d_M_wordOf_30 (by decide) ?_
      refine zq_lsub [0, 1, 2, 3, 4, 5] [(0, zr (some 72)), (1, zi a1), (2, zi a2), (3, zi a3), (4, zi a4), (5, zi a5)] rfl ?_
      exact c_M_wordOf_39 C hret hk5  a1 a2 a3 a4 a5 S h
    · refine z_icmp_eqf C 39 c2 d_M_wordOf_30 (by decide) ?_
      refine z_iinc C 5 (a5 + (1 : Int32)) [(5, zi (a5 + (1 : Int32))), (0, zr (some 72)), (1, zi a1), (2, zi a2), (3, zi a3), (4, zi a4)] rfl d_M_wordOf_33 (by first | rfl | decide) (by decide) rfl ?_
      refine z_goto C 18 d_M_wordOf_36 (by decide) ?_
      refine zq_lsub [1, 2, 3, 4, 5, 0] [(0, zr (some 72)), (1, zi a1), (2, zi a2), (3, zi a3), (4, zi a4), (5, zi (a5 + (1 : Int32)))] rfl ?_
      exact ih a1 a2 a3 a4 (a5 + (1 : Int32)) S h
set_option maxRecDepth 100000 in
set_option maxHeartbeats 4000000 in
theorem c_M_wordOf_5 {p : Program} {l : Launch} {e : Env} {s : State} {m : MethodId} {args : Array Value} {below : List Frame} {meth : Method} {c : Code} {G : zG} (C : zC p s m args meth c G b_M_wordOf 8 y_M_wordOf.cls) (hret : meth.sig.returnType = (some .int)) {fu : Nat} {r : Int32} : ∀ (n : Nat) (a1 : Int32) (a2 : Int32) (a3 : Int32) (a4 : Int32) (S : zSt) , f_M_wordOf_5 fu n a1 a2 a3 a4 S = some r → zJ p l e rm_M_wordOf s m args below meth c G true 8 0 0 (zQm below G args s rm_M_wordOf true (some (zi r)) S) S 5 [(0, zr (some 72)), (1, zi a1), (2, zi a2), (3, zi a3), (4, zi a4)] [] := by
  intro n
  induction n with
  | zero =>
    intro a1 a2 a3 a4 S h
    cases h
  | succ n ih =>
    intro a1 a2 a3 a4 S h
    rw [f_M_wordOf_5] at h
    refine z_iload C 4 rfl d_M_wordOf_5 ?_
    refine z_aload_n C 0 rfl d_M_wordOf_7 rfl ?_
    refine z_getF2 C 11 (by decide) 7 (by decide) rfl 6 121 rfl (78) rfl zp_72 zk_72 zfl_11_37 d_M_wordOf_8 ?_
    refine z_fact (fun hSR => ?_)
    refine z_alen52S C (121 : Int32) (by decide) zo_78 zk_78 (za_78 hSR) d_M_wordOf_11 ?_
    rcases zite h with ⟨c1, h⟩ | ⟨c1, h⟩
    · refine z_icmp_get C 126 c1 d_M_wordOf_12 (by decide) ?_
      refine z_iconst C (0 : Int32) (by decide) d_M_wordOf_126 ?_
      cases h
      exact z_iret C .int hret rfl ⟨Nat.zero_le _, Nat.zero_le _⟩ d_M_wordOf_127
    · refine z_icmp_gef C 126 c1 d_M_wordOf_12 (by decide) ?_
      refine z_iconst C (0 : Int32) (by decide) d_M_wordOf_15 ?_
      refine z_istore C [(5, zi (0 : Int32)), (0, zr (some 72)), (1, zi a1), (2, zi a2), (3, zi a3), (4, zi a4)] d_M_wordOf_16 (by decide) rfl ?_
      refine zq_lsub [1, 2, 3, 4, 5, 0] [(0, zr (some 72)), (1, zi a1), (2, zi a2), (3, zi a3), (4, zi a4), (5, zi (0 : Int32))] rfl ?_
      exact c_M_wordOf_18 C hret (fun z0 z1 z2 z3 zS zh => ih z0 z1 z2 z3 zS zh) fu  a1 a2 a3 a4 (0 : Int32) S h
set_option maxRecDepth 100000 in
set_option maxHeartbeats 4000000 in
theorem m_M_wordOf (l : Launch) {fu : Nat} {a1 : Int32} {a2 : Int32} {S : zSt} {r : Int32} (h : f_M_wordOf fu a1 a2 S = some r) : zPM l y_M_wordOf b_M_wordOf 8 (some .int) rm_M_wordOf true true [zr (some 72), zi a1, zi a2] S (some (zi r)) S := by
  refine zPM_of (by decide) (Nat.le_of_ble_eq_true rfl) (fun p e s m args below meth c G C hret hname => ?_)
  unfold f_M_wordOf at h
  refine (?_ : zJ p l e rm_M_wordOf s m args below meth c G true 8 0 0 (zQm below G args s rm_M_wordOf true (some (zi r)) S) S 0 [(0, zr (some 72)), (1, zi a1), (2, zi a2)] [])
  refine z_iconst C (1 : Int32) (by decide) d_M_wordOf_0 ?_
  refine z_istore_n C [(3, zi (1 : Int32)), (0, zr (some 72)), (1, zi a1), (2, zi a2)] d_M_wordOf_1 rfl (by decide) rfl ?_
  refine z_iconst C (0 : Int32) (by decide) d_M_wordOf_2 ?_
  refine z_istore C [(4, zi (0 : Int32)), (3, zi (1 : Int32)), (0, zr (some 72)), (1, zi a1), (2, zi a2)] d_M_wordOf_3 (by decide) rfl ?_
  refine zq_lsub [2, 3, 4, 1, 0] [(0, zr (some 72)), (1, zi a1), (2, zi a2), (3, zi (1 : Int32)), (4, zi (0 : Int32))] rfl ?_
  exact c_M_wordOf_5 C hret fu  a1 a2 (1 : Int32) (0 : Int32) S h
def f_M_splits_247 (fu : Nat) (k7 : Int32 → Int32 → zSt → Option zSt) (a1 : Int32) (a4 : Int32) (S : zSt) : Option zSt := k7 a1 a4 (zwI S 72 18 ((zI S 72 18) + (1 : Int32)))
def f_M_splits_169 (fu : Nat) (k7 : Int32 → Int32 → zSt → Option zSt) : Nat → Int32 → Int32 → Int32 → Int32 → zSt → Option zSt
  | 0, _, _, _, _, _ => none
  | n + 1, a1, a3, a4, a5, S => if a4 ≤ a5 then f_M_splits_247 fu k7 a1 a4 S else zb1 (f_M_isDigit a3) (fun r3 => if r3 = 0 then f_M_splits_247 fu k7 a1 a4 S else zgd (0 ≤ (zI S 72 18) ∧ (zI S 72 18).toNatClampNeg < 401) (if (zI S 82 (zI S 72 18).toNatClampNeg) ≤ (1000000 : Int32) then zgd (0 ≤ (zI S 72 18) ∧ (zI S 72 18).toNatClampNeg < 401) (zgd (0 ≤ a5 ∧ a5.toNatClampNeg < 400) (zgd (0 ≤ (zI S 72 18) ∧ (zI S 72 18).toNatClampNeg < 401) (f_M_splits_169 fu k7 n a1 a3 a4 (a5 + (1 : Int32)) (zwI S 82 (zI S 72 18).toNatClampNeg ((((10 : Int32) * (zI S 82 (zI S 72 18).toNatClampNeg)) + (zI S 79 a5.toNatClampNeg)) - (48 : Int32)))))) else zgd (0 ≤ (zI S 72 18) ∧ (zI S 72 18).toNatClampNeg < 401) (zgd (0 ≤ (zI S 72 18) ∧ (zI S 72 18).toNatClampNeg < 401) (f_M_splits_169 fu k7 n a1 a3 a4 (a5 + (1 : Int32)) (zwI S 82 (zI S 72 18).toNatClampNeg (zI S 82 (zI S 72 18).toNatClampNeg))))))
def f_M_splits_100 (fu : Nat) (k7 : Int32 → Int32 → zSt → Option zSt) (a1 : Int32) (a2 : Int32) (a3 : Int32) (a4 : Int32) (S : zSt) : Option zSt := zgd (0 ≤ (zI S 72 18) ∧ (zI S 72 18).toNatClampNeg < 401) (zgd (0 ≤ (zI (zwI S 83 (zI S 72 18).toNatClampNeg a2) 72 18) ∧ (zI (zwI S 83 (zI S 72 18).toNatClampNeg a2) 72 18).toNatClampNeg < 401) (zb1 (f_M_isSmall a3) (fun r4 => if r4 = 0 then zb1 (f_M_isDigit a3) (fun r7 => if r7 = 0 then zgd (0 ≤ (zI (zwI (zwI S 83 (zI S 72 18).toNatClampNeg a2) 82 (zI (zwI S 83 (zI S 72 18).toNatClampNeg a2) 72 18).toNatClampNeg (0 : Int32)) 72 18) ∧ (zI (zwI (zwI S 83 (zI S 72 18).toNatClampNeg a2) 82 (zI (zwI S 83 (zI S 72 18).toNatClampNeg a2) 72 18).toNatClampNeg (0 : Int32)) 72 18).toNatClampNeg < 401) (f_M_splits_169 fu k7 fu a1 a3 a4 a2 (zwI (zwI (zwI S 83 (zI S 72 18).toNatClampNeg a2) 82 (zI (zwI S 83 (zI S 72 18).toNatClampNeg a2) 72 18).toNatClampNeg (0 : Int32)) 81 (zI (zwI (zwI S 83 (zI S 72 18).toNatClampNeg a2) 82 (zI (zwI S 83 (zI S 72 18).toNatClampNeg a2) 72 18).toNatClampNeg (0 : Int32)) 72 18).toNatClampNeg ((100 : Int32) + (a3 &&& (255 : Int32))))) else zgd (0 ≤ (zI (zwI (zwI S 83 (zI S 72 18).toNatClampNeg a2) 82 (zI (zwI S 83 (zI S 72 18).toNatClampNeg a2) 72 18).toNatClampNeg (0 : Int32)) 72 18) ∧ (zI (zwI (zwI S 83 (zI S 72 18).toNatClampNeg a2) 82 (zI (zwI S 83 (zI S 72 18).toNatClampNeg a2) 72 18).toNatClampNeg (0 : Int32)) 72 18).toNatClampNeg < 401) (f_M_splits_169 fu k7 fu a1 a3 a4 a2 (zwI (zwI (zwI S 83 (zI S 72 18).toNatClampNeg a2) 82 (zI (zwI S 83 (zI S 72 18).toNatClampNeg a2) 72 18).toNatClampNeg (0 : Int32)) 81 (zI (zwI (zwI S 83 (zI S 72 18).toNatClampNeg a2) 82 (zI (zwI S 83 (zI S 72 18).toNatClampNeg a2) 72 18).toNatClampNeg (0 : Int32)) 72 18).toNatClampNeg (50 : Int32)))) else zb1 (f_M_wordOf fu a2 a4 (zwI (zwI S 83 (zI S 72 18).toNatClampNeg a2) 82 (zI (zwI S 83 (zI S 72 18).toNatClampNeg a2) 72 18).toNatClampNeg (0 : Int32))) (fun r12 => zgd (0 ≤ (zI (zwI (zwI S 83 (zI S 72 18).toNatClampNeg a2) 82 (zI (zwI S 83 (zI S 72 18).toNatClampNeg a2) 72 18).toNatClampNeg (0 : Int32)) 72 18) ∧ (zI (zwI (zwI S 83 (zI S 72 18).toNatClampNeg a2) 82 (zI (zwI S 83 (zI S 72 18).toNatClampNeg a2) 72 18).toNatClampNeg (0 : Int32)) 72 18).toNatClampNeg < 401) (f_M_splits_169 fu k7 fu a1 a3 a4 a2 (zwI (zwI (zwI S 83 (zI S 72 18).toNatClampNeg a2) 82 (zI (zwI S 83 (zI S 72 18).toNatClampNeg a2) 72 18).toNatClampNeg (0 : Int32)) 81 (zI (zwI (zwI S 83 (zI S 72 18).toNatClampNeg a2) 82 (zI (zwI S 83 (zI S 72 18).toNatClampNeg a2) 72 18).toNatClampNeg (0 : Int32)) 72 18).toNatClampNeg r12))))))
def f_M_splits_75 (fu : Nat) (k7 : Int32 → Int32 → zSt → Option zSt) : Nat → Int32 → Int32 → Int32 → Int32 → zSt → Option zSt
  | 0, _, _, _, _, _ => none
  | n + 1, a1, a2, a3, a4, S => if a1 ≤ a4 then f_M_splits_100 fu k7 a1 a2 a3 a4 S else zgd (0 ≤ a4 ∧ a4.toNatClampNeg < 400) (zb1 (f_M_isDigit (zI S 79 a4.toNatClampNeg)) (fun r4 => if r4 = 0 then f_M_splits_100 fu k7 a1 a2 a3 a4 S else f_M_splits_75 fu k7 n a1 a2 a3 (a4 + (1 : Int32)) S))
def f_M_splits_68 (fu : Nat) (k7 : Int32 → Int32 → zSt → Option zSt) (a1 : Int32) (a2 : Int32) (a3 : Int32) (a4 : Int32) (S : zSt) : Option zSt := zb1 (f_M_isDigit a3) (fun r2 => if r2 = 0 then f_M_splits_100 fu k7 a1 a2 a3 a4 S else f_M_splits_75 fu k7 fu a1 a2 a3 a4 S)
def f_M_splits_43 (fu : Nat) (k7 : Int32 → Int32 → zSt → Option zSt) : Nat → Int32 → Int32 → Int32 → Int32 → zSt → Option zSt
  | 0, _, _, _, _, _ => none
  | n + 1, a1, a2, a3, a4, S => if a1 ≤ a4 then f_M_splits_68 fu k7 a1 a2 a3 a4 S else zgd (0 ≤ a4 ∧ a4.toNatClampNeg < 400) (zb1 (f_M_isSmall (zI S 79 a4.toNatClampNeg)) (fun r4 => if r4 = 0 then f_M_splits_68 fu k7 a1 a2 a3 a4 S else f_M_splits_43 fu k7 n a1 a2 a3 (a4 + (1 : Int32)) S))
def f_M_splits_263 (fu : Nat) (a1 : Int32) (S : zSt) : Option zSt := zgd (0 ≤ (zI S 72 18) ∧ (zI S 72 18).toNatClampNeg < 401) (zgd (0 ≤ (zI (zwI S 83 (zI S 72 18).toNatClampNeg a1) 72 18) ∧ (zI (zwI S 83 (zI S 72 18).toNatClampNeg a1) 72 18).toNatClampNeg < 401) (zgd (0 ≤ (zI (zwI (zwI S 83 (zI S 72 18).toNatClampNeg a1) 81 (zI (zwI S 83 (zI S 72 18).toNatClampNeg a1) 72 18).toNatClampNeg (0 : Int32)) 72 18) ∧ (zI (zwI (zwI S 83 (zI S 72 18).toNatClampNeg a1) 81 (zI (zwI S 83 (zI S 72 18).toNatClampNeg a1) 72 18).toNatClampNeg (0 : Int32)) 72 18).toNatClampNeg < 401) (some (zwI (zwI (zwI S 83 (zI S 72 18).toNatClampNeg a1) 81 (zI (zwI S 83 (zI S 72 18).toNatClampNeg a1) 72 18).toNatClampNeg (0 : Int32)) 82 (zI (zwI (zwI S 83 (zI S 72 18).toNatClampNeg a1) 81 (zI (zwI S 83 (zI S 72 18).toNatClampNeg a1) 72 18).toNatClampNeg (0 : Int32)) 72 18).toNatClampNeg (0 : Int32)))))
def f_M_splits_7 (fu : Nat) : Nat → Int32 → Int32 → zSt → Option zSt
  | 0, _, _, _ => none
  | n + 1, a1, a2, S => if a1 ≤ a2 then f_M_splits_263 fu a1 S else zgd (0 ≤ a2 ∧ a2.toNatClampNeg < 400) (if (zI S 79 a2.toNatClampNeg) = (32 : Int32) then f_M_splits_7 fu n a1 (a2 + (1 : Int32)) S else zb1 (f_M_isSmall (zI S 79 a2.toNatClampNeg)) (fun r5 => if r5 = 0 then f_M_splits_68 fu (f_M_splits_7 fu n) a1 a2 (zI S 79 a2.toNatClampNeg) (a2 + (1 : Int32)) S else f_M_splits_43 fu (f_M_splits_7 fu n) fu a1 a2 (zI S 79 a2.toNatClampNeg) (a2 + (1 : Int32)) S))
def f_M_splits (fu : Nat) (a1 : Int32) (S : zSt) : Option zSt := f_M_splits_7 fu fu a1 (0 : Int32) (zwI S 72 18 (0 : Int32))
set_option maxRecDepth 100000 in
set_option maxHeartbeats 4000000 in
theorem c_M_splits_247 {p : Program} {l : Launch} {e : Env} {s : State} {m : MethodId} {args : Array Value} {below : List Frame} {meth : Method} {c : Code} {G : zG} (C : zC p s m args meth c G b_M_splits 6 y_M_splits.cls) (hret : meth.sig.returnType = none) {fu : Nat} {S1 : zSt} {k7 : Int32 → Int32 → zSt → Option zSt} (hk7 : ∀ (a1 : Int32) (a2 : Int32) (S : zSt) , k7 a1 a2 S = some S1 → zJ p l e rm_M_splits s m args below meth c G true 6 0 0 (zQm below G args s rm_M_splits true none S1) S 7 [(0, zr (some 72)), (1, zi a1), (2, zi a2)] []) : ∀ (a1 : Int32) (a4 : Int32) (S : zSt) , f_M_splits_247 fu k7 a1 a4 S = some S1 → zJ p l e rm_M_splits s m args below meth c G true 6 0 0 (zQm below G args s rm_M_splits true none S1) S 247 [(0, zr (some 72)), (1, zi a1), (4, zi a4)] [] := by
  intro a1 a4 S h
  unfold f_M_splits_247 at h
  refine z_aload_n C 0 rfl d_M_splits_247 rfl ?_
  refine z_dup C rfl d_M_splits_248 ?_
  refine z_getI C 11 (by decide) 18 (by decide) rfl zo_72 zk_72 zfl_11_165 d_M_splits_249 ?_
  refine z_iconst C (1 : Int32) (by decide) d_M_splits_252 ?_
  refine z_iadd C d_M_splits_253 ?_
  refine z_putI C 11 (by decide) 18 (by decide) rfl (Or.inl rfl) zo_72 zk_72 zfl_11_165 (Or.inl rfl) d_M_splits_254 ?_
  refine z_iload C 2 rfl d_M_splits_257 ?_
  refine z_istore_n C [(2, zi a4), (0, zr (some 72)), (1, zi a1), (4, zi a4)] d_M_splits_259 rfl (by decide) rfl ?_
  refine z_goto C 7 d_M_splits_260 (by decide) ?_
  refine zq_lsub [1, 2, 0] [(0, zr (some 72)), (1, zi a1), (2, zi a4)] rfl ?_
  exact hk7 a1 a4 (zwI S 72 18 ((zI S 72 18) + (1 : Int32))) h
set_option maxRecDepth 100000 in
set_option maxHeartbeats 4000000 in
theorem c_M_splits_169 {p : Program} {l : Launch} {e : Env} {s : State} {m : MethodId} {args : Array Value} {below : List Frame} {meth : Method} {c : Code} {G : zG} (C : zC p s m args meth c G b_M_splits 6 y_M_splits.cls) (hret : meth.sig.returnType = none) {fu : Nat} {S1 : zSt} {k7 : Int32 → Int32 → zSt → Option zSt} (hk7 : ∀ (a1 : Int32) (a2 : Int32) (S : zSt) , k7 a1 a2 S = some S1 → zJ p l e rm_M_splits s m args below meth c G true 6 0 0 (zQm below G args s rm_M_splits true none S1) S 7 [(0, zr (some 72)), (1, zi a1), (2, zi a2)] []) : ∀ (n : Nat) (a1 : Int32) (a3 : Int32) (a4 : Int32) (a5 : Int32) (S : zSt) , f_M_splits_169 fu k7 n a1 a3 a4 a5 S = some S1 → zJ p l e rm_M_splits s m args below meth c G true 6 0 0 (zQm below G args s rm_M_splits true none S1) S 169 [(0, zr (some 72)), (1, zi a1), (3, zi a3), (4, zi a4), (5, zi a5)] [] := by
  intro n
  induction n with
  | zero =>
    intro a1 a3 a4 a5 S h
    cases h
  | succ n ih =>
    intro a1 a3 a4 a5 S h
    rw [f_M_splits_169] at h
    refine z_iload C 4 rfl d_M_splits_169 ?_
    refine z_iload C 3 rfl d_M_splits_171 ?_
    rcases zite h with ⟨c1, h⟩ | ⟨c1, h⟩
    · refine z_icmp_get C 247 c1 d_M_splits_173 (by decide) ?_
      refine zq_lsub [0, 1, 3] [(0, zr (some 72)), (1, zi a1), (4, zi a4)] rfl ?_
      exact c_M_splits_247 C hret hk7  a1 a4 S h
    · refine z_icmp_gef C 247 c1 d_M_splits_173 (by decide) ?_
      refine z_iload_n C 2 rfl d_M_splits_176 rfl ?_
      obtain ⟨r3, h2, h⟩ := zb1_some h
      refine z_cS C (m_M_isDigit l h2) mf_M_isDigit lk_11_171 st_M_isDigit ⟨rfl, rfl⟩ ⟨by decide, by decide⟩ ⟨Nat.zero_le _, Nat.zero_le _⟩ rfl _ [] rfl (Nat.le_of_ble_eq_true rfl) d_M_splits_177 ?_
      rcases zite h with ⟨c4, h⟩ | ⟨c4, h⟩
      · refine z_if_eqt C 247 c4 d_M_splits_180 (by decide) ?_
        refine zq_lsub [0, 1, 3] [(0, zr (some 72)), (1, zi a1), (4, zi a4)] rfl ?_
        exact c_M_splits_247 C hret hk7  a1 a4 S h
      · refine z_if_eqf C 247 c4 d_M_splits_180 (by decide) ?_
        refine z_aload_n C 0 rfl d_M_splits_183 rfl ?_
        refine z_getF2 C 11 (by decide) 16 (by decide) rfl 10 401 rfl (82) rfl zp_72 zk_72 zfl_11_53 d_M_splits_184 ?_
        refine z_aload_n C 0 rfl d_M_splits_187 rfl ?_
        refine z_getI C 11 (by decide) 18 (by decide) rfl zo_72 zk_72 zfl_11_165 d_M_splits_188 ?_
        refine z_aload_n C 0 rfl d_M_splits_191 rfl ?_
        refine z_getF2 C 11 (by decide) 16 (by decide) rfl 10 401 rfl (82) rfl zp_72 zk_72 zfl_11_53 d_M_splits_192 ?_
        refine z_aload_n C 0 rfl d_M_splits_195 rfl ?_
        refine z_getI C 11 (by decide) 18 (by decide) rfl zo_72 zk_72 zfl_11_165 d_M_splits_196 ?_
        refine z_fact (fun hSR => ?_)
        obtain ⟨g5, h⟩ := zgd_some h
        refine z_ialoadS C zo_82 zk_82 (za_82 hSR) g5 d_M_splits_199 ?_
        refine z_ldc C zc_11_177 d_M_splits_200 ?_
        rcases zite h with ⟨c6, h⟩ | ⟨c6, h⟩
        · refine z_icmp_let C 217 c6 d_M_splits_202 (by decide) ?_
          refine z_bipush C (10 : Int32) (by decide) d_M_splits_217 ?_
          refine z_aload_n C 0 rfl d_M_splits_219 rfl ?_
          refine z_getF2 C 11 (by decide) 16 (by decide) rfl 10 401 rfl (82) rfl zp_72 zk_72 zfl_11_53 d_M_splits_220 ?_
          refine z_aload_n C 0 rfl d_M_splits_223 rfl ?_
          refine z_getI C 11 (by decide) 18 (by decide) rfl zo_72 zk_72 zfl_11_165 d_M_splits_224 ?_
          refine z_fact (fun hSR => ?_)
          obtain ⟨g7, h⟩ := zgd_some h
          refine z_ialoadS C zo_82 zk_82 (za_82 hSR) g7 d_M_splits_227 ?_
          refine z_imul C d_M_splits_228 ?_
          refine z_aload_n C 0 rfl d_M_splits_229 rfl ?_
          refine z_getF2 C 11 (by decide) 11 (by decide) rfl 7 400 rfl (79) rfl zp_72 zk_72 zfl_11_41 d_M_splits_230 ?_
          refine z_iload C 4 rfl d_M_splits_233 ?_
          refine z_fact (fun hSR => ?_)
          obtain ⟨g8, h⟩ := zgd_some h
          refine z_baloadS C zo_79 zk_79 (za_79 hSR) g8 d_M_splits_235 ?_
          refine z_iadd C d_M_splits_236 ?_
          refine z_bipush C (48 : Int32) (by decide) d_M_splits_237 ?_
          refine z_isub C d_M_splits_239 ?_
          refine z_fact (fun hSR => ?_)
          obtain ⟨g9, h⟩ := zgd_some h
          refine z_iastoreS C zo_82 zk_82 (za_82 hSR) g9 d_M_splits_240 ?_
          refine z_iinc C 4 (a5 + (1 : Int32)) [(5, zi (a5 + (1 : Int32))), (0, zr (some 72)), (1, zi a1), (3, zi a3), (4, zi a4)] rfl d_M_splits_241 (by first | rfl | decide) (by decide) rfl ?_
          refine z_goto C 169 d_M_splits_244 (by decide) ?_
          refine zq_lsub [1, 2, 3, 4, 0] [(0, zr (some 72)), (1, zi a1), (3, zi a3), (4, zi a4), (5, zi (a5 + (1 : Int32)))] rfl ?_
          exact ih a1 a3 a4 (a5 + (1 : Int32)) (zwI S 82 (zI S 72 18).toNatClampNeg ((((10 : Int32) * (zI S 82 (zI S 72 18).toNatClampNeg)) + (zI S 79 a5.toNatClampNeg)) - (48 : Int32))) h
        · refine z_icmp_lef C 217 c6 d_M_splits_202 (by decide) ?_
          refine z_aload_n C 0 rfl d_M_splits_205 rfl ?_
          refine z_getF2 C 11 (by decide) 16 (by decide) rfl 10 401 rfl (82) rfl zp_72 zk_72 zfl_11_53 d_M_splits_206 ?_
          refine z_aload_n C 0 rfl d_M_splits_209 rfl ?_
          refine z_getI C 11 (by decide) 18 (by decide) rfl zo_72 zk_72 zfl_11_165 d_M_splits_210 ?_
          refine z_fact (fun hSR => ?_)
          obtain ⟨g10, h⟩ := zgd_some h
          refine z_ialoadS C zo_82 zk_82 (za_82 hSR) g10 d_M_splits_213 ?_
          refine z_goto C 240 d_M_splits_214 (by decide) ?_
          refine z_fact (fun hSR => ?_)
          obtain ⟨g11, h⟩ := zgd_some h
          refine z_iastoreS C zo_82 zk_82 (za_82 hSR) g11 d_M_splits_240 ?_
          refine z_iinc C 4 (a5 + (1 : Int32)) [(5, zi (a5 + (1 : Int32))), (0, zr (some 72)), (1, zi a1), (3, zi a3), (4, zi a4)] rfl d_M_splits_241 (by first | rfl | decide) (by decide) rfl ?_
          refine z_goto C 169 d_M_splits_244 (by decide) ?_
          refine zq_lsub [1, 2, 3, 4, 0] [(0, zr (some 72)), (1, zi a1), (3, zi a3), (4, zi a4), (5, zi (a5 + (1 : Int32)))] rfl ?_
          exact ih a1 a3 a4 (a5 + (1 : Int32)) (zwI S 82 (zI S 72 18).toNatClampNeg (zI S 82 (zI S 72 18).toNatClampNeg)) h
set_option maxRecDepth 100000 in
set_option maxHeartbeats 4000000 in
theorem c_M_splits_100 {p : Program} {l : Launch} {e : Env} {s : State} {m : MethodId} {args : Array Value} {below : List Frame} {meth : Method} {c : Code} {G : zG} (C : zC p s m args meth c G b_M_splits 6 y_M_splits.cls) (hret : meth.sig.returnType = none) {fu : Nat} {S1 : zSt} {k7 : Int32 → Int32 → zSt → Option zSt} (hk7 : ∀ (a1 : Int32) (a2 : Int32) (S : zSt) , k7 a1 a2 S = some S1 → zJ p l e rm_M_splits s m args below meth c G true 6 0 0 (zQm below G args s rm_M_splits true none S1) S 7 [(0, zr (some 72)), (1, zi a1), (2, zi a2)] []) : ∀ (a1 : Int32) (a2 : Int32) (a3 : Int32) (a4 : Int32) (S : zSt) , f_M_splits_100 fu k7 a1 a2 a3 a4 S = some S1 → zJ p l e rm_M_splits s m args below meth c G true 6 0 0 (zQm below G args s rm_M_splits true none S1) S 100 [(0, zr (some 72)), (1, zi a1), (2, zi a2), (3, zi a3), (4, zi a4)] [] := by
  intro a1 a2 a3 a4 S h
  unfold f_M_splits_100 at h
  refine z_aload_n C 0 rfl d_M_splits_100 rfl ?_
  refine z_getF2 C 11 (by decide) 17 (by decide) rfl 11 401 rfl (83) rfl zp_72 zk_72 zfl_11_56 d_M_splits_101 ?_
  refine z_aload_n C 0 rfl d_M_splits_104 rfl ?_
  refine z_getI C 11 (by decide) 18 (by decide) rfl zo_72 zk_72 zfl_11_165 d_M_splits_105 ?_
  refine z_iload_n C 2 rfl d_M_splits_108 rfl ?_
  refine z_fact (fun hSR => ?_)
  obtain ⟨g1, h⟩ := zgd_some h
  refine z_iastoreS C zo_83 zk_83 (za_83 hSR) g1 d_M_splits_109 ?_
  refine z_aload_n C 0 rfl d_M_splits_110 rfl ?_
  refine z_getF2 C 11 (by decide) 16 (by decide) rfl 10 401 rfl (82) rfl zp_72 zk_72 zfl_11_53 d_M_splits_111 ?_
  refine z_aload_n C 0 rfl d_M_splits_114 rfl ?_
  refine z_getI C 11 (by decide) 18 (by decide) rfl zo_72 zk_72 zfl_11_165 d_M_splits_115 ?_
  refine z_iconst C (0 : Int32) (by decide) d_M_splits_118 ?_
  refine z_fact (fun hSR => ?_)
  obtain ⟨g2, h⟩ := zgd_some h
  refine z_iastoreS C zo_82 zk_82 (za_82 hSR) g2 d_M_splits_119 ?_
  refine z_aload_n C 0 rfl d_M_splits_120 rfl ?_
  refine z_getF2 C 11 (by decide) 15 (by decide) rfl 9 401 rfl (81) rfl zp_72 zk_72 zfl_11_50 d_M_splits_121 ?_
  refine z_aload_n C 0 rfl d_M_splits_124 rfl ?_
  refine z_getI C 11 (by decide) 18 (by decide) rfl zo_72 zk_72 zfl_11_165 d_M_splits_125 ?_
  refine z_iload_n C 3 rfl d_M_splits_128 rfl ?_
  obtain ⟨r4, h3, h⟩ := zb1_some h
  refine z_cS C (m_M_isSmall l h3) mf_M_isSmall lk_11_168 st_M_isSmall ⟨rfl, rfl⟩ ⟨by decide, by decide⟩ ⟨Nat.zero_le _, Nat.zero_le _⟩ rfl _ [zi (zI (zwI (zwI S 83 (zI S 72 18).toNatClampNeg a2) 82 (zI (zwI S 83 (zI S 72 18).toNatClampNeg a2) 72 18).toNatClampNeg (0 : Int32)) 72 18), zr (some 81)] rfl (Nat.le_of_ble_eq_true rfl) d_M_splits_129 ?_
  rcases zite h with ⟨c5, h⟩ | ⟨c5, h⟩
  · refine z_if_eqt C 145 c5 d_M_splits_132 (by decide) ?_
    refine z_iload_n C 3 rfl d_M_splits_145 rfl ?_
    obtain ⟨r7, h6, h⟩ := zb1_some h
    refine z_cS C (m_M_isDigit l h6) mf_M_isDigit lk_11_171 st_M_isDigit ⟨rfl, rfl⟩ ⟨by decide, by decide⟩ ⟨Nat.zero_le _, Nat.zero_le _⟩ rfl _ [zi (zI (zwI (zwI S 83 (zI S 72 18).toNatClampNeg a2) 82 (zI (zwI S 83 (zI S 72 18).toNatClampNeg a2) 72 18).toNatClampNeg (0 : Int32)) 72 18), zr (some 81)] rfl (Nat.le_of_ble_eq_true rfl) d_M_splits_146 ?_
    rcases zite h with ⟨c8, h⟩ | ⟨c8, h⟩
    · refine z_if_eqt C 157 c8 d_M_splits_149 (by decide) ?_
      refine z_bipush C (100 : Int32) (by decide) d_M_splits_157 ?_
      refine z_iload_n C 3 rfl d_M_splits_159 rfl ?_
      refine z_sipush C (255 : Int32) (by decide) d_M_splits_160 ?_
      refine z_iand C d_M_splits_163 ?_
      refine z_iadd C d_M_splits_164 ?_
      refine z_fact (fun hSR => ?_)
      obtain ⟨g9, h⟩ := zgd_some h
      refine z_iastoreS C zo_81 zk_81 (za_81 hSR) g9 d_M_splits_165 ?_
      refine z_iload_n C 2 rfl d_M_splits_166 rfl ?_
      refine z_istore C [(5, zi a2), (0, zr (some 72)), (1, zi a1), (2, zi a2), (3, zi a3), (4, zi a4)] d_M_splits_167 (by decide) rfl ?_
      refine zq_lsub [1, 2, 4, 5, 0] [(0, zr (some 72)), (1, zi a1), (3, zi a3), (4, zi a4), (5, zi a2)] rfl ?_
      exact c_M_splits_169 C hret hk7 fu  a1 a3 a4 a2 (zwI (zwI (zwI S 83 (zI S 72 18).toNatClampNeg a2) 82 (zI (zwI S 83 (zI S 72 18).toNatClampNeg a2) 72 18).toNatClampNeg (0 : Int32)) 81 (zI (zwI (zwI S 83 (zI S 72 18).toNatClampNeg a2) 82 (zI (zwI S 83 (zI S 72 18).toNatClampNeg a2) 72 18).toNatClampNeg (0 : Int32)) 72 18).toNatClampNeg ((100 : Int32) + (a3 &&& (255 : Int32)))) h
    · refine z_if_eqf C 157 c8 d_M_splits_149 (by decide) ?_
      refine z_bipush C (50 : Int32) (by decide) d_M_splits_152 ?_
      refine z_goto C 165 d_M_splits_154 (by decide) ?_
      refine z_fact (fun hSR => ?_)
      obtain ⟨g10, h⟩ := zgd_some h
      refine z_iastoreS C zo_81 zk_81 (za_81 hSR) g10 d_M_splits_165 ?_
      refine z_iload_n C 2 rfl d_M_splits_166 rfl ?_
      refine z_istore C [(5, zi a2), (0, zr (some 72)), (1, zi a1), (2, zi a2), (3, zi a3), (4, zi a4)] d_M_splits_167 (by decide) rfl ?_
      refine zq_lsub [1, 2, 4, 5, 0] [(0, zr (some 72)), (1, zi a1), (3, zi a3), (4, zi a4), (5, zi a2)] rfl ?_
      exact c_M_splits_169 C hret hk7 fu  a1 a3 a4 a2 (zwI (zwI (zwI S 83 (zI S 72 18).toNatClampNeg a2) 82 (zI (zwI S 83 (zI S 72 18).toNatClampNeg a2) 72 18).toNatClampNeg (0 : Int32)) 81 (zI (zwI (zwI S 83 (zI S 72 18).toNatClampNeg a2) 82 (zI (zwI S 83 (zI S 72 18).toNatClampNeg a2) 72 18).toNatClampNeg (0 : Int32)) 72 18).toNatClampNeg (50 : Int32)) h
  · refine z_if_eqf C 145 c5 d_M_splits_132 (by decide) ?_
    refine z_aload_n C 0 rfl d_M_splits_135 rfl ?_
    refine z_iload_n C 2 rfl d_M_splits_136 rfl ?_
    refine z_iload C 4 rfl d_M_splits_137 ?_
    obtain ⟨r12, h11, h⟩ := zb1_some h
    refine z_cV C 11 (by decide) (m_M_wordOf l h11) mf_M_wordOf lk_11_174 in_M_wordOf se_M_wordOf rfl zo_72 zk_72 ⟨rfl, rfl⟩ ⟨by decide, by decide⟩ ⟨Nat.zero_le _, Nat.zero_le _⟩ rfl _ [zi (zI (zwI (zwI S 83 (zI S 72 18).toNatClampNeg a2) 82 (zI (zwI S 83 (zI S 72 18).toNatClampNeg a2) 72 18).toNatClampNeg (0 : Int32)) 72 18), zr (some 81)] rfl (Nat.le_of_ble_eq_true rfl) d_M_splits_139 ?_
    refine z_goto C 165 d_M_splits_142 (by decide) ?_
    refine z_fact (fun hSR => ?_)
    obtain ⟨g13, h⟩ := zgd_some h
    refine z_iastoreS C zo_81 zk_81 (za_81 hSR) g13 d_M_splits_165 ?_
    refine z_iload_n C 2 rfl d_M_splits_166 rfl ?_
    refine z_istore C [(5, zi a2), (0, zr (some 72)), (1, zi a1), (2, zi a2), (3, zi a3), (4, zi a4)] d_M_splits_167 (by decide) rfl ?_
    refine zq_lsub [1, 2, 4, 5, 0] [(0, zr (some 72)), (1, zi a1), (3, zi a3), (4, zi a4), (5, zi a2)] rfl ?_
    exact c_M_splits_169 C hret hk7 fu  a1 a3 a4 a2 (zwI (zwI (zwI S 83 (zI S 72 18).toNatClampNeg a2) 82 (zI (zwI S 83 (zI S 72 18).toNatClampNeg a2) 72 18).toNatClampNeg (0 : Int32)) 81 (zI (zwI (zwI S 83 (zI S 72 18).toNatClampNeg a2) 82 (zI (zwI S 83 (zI S 72 18).toNatClampNeg a2) 72 18).toNatClampNeg (0 : Int32)) 72 18).toNatClampNeg r12) h
set_option maxRecDepth 100000 in
set_option maxHeartbeats 4000000 in
theorem c_M_splits_75 {p : Program} {l : Launch} {e : Env} {s : State} {m : MethodId} {args : Array Value} {below : List Frame} {meth : Method} {c : Code} {G : zG} (C : zC p s m args meth c G b_M_splits 6 y_M_splits.cls) (hret : meth.sig.returnType = none) {fu : Nat} {S1 : zSt} {k7 : Int32 → Int32 → zSt → Option zSt} (hk7 : ∀ (a1 : Int32) (a2 : Int32) (S : zSt) , k7 a1 a2 S = some S1 → zJ p l e rm_M_splits s m args below meth c G true 6 0 0 (zQm below G args s rm_M_splits true none S1) S 7 [(0, zr (some 72)), (1, zi a1), (2, zi a2)] []) : ∀ (n : Nat) (a1 : Int32) (a2 : Int32) (a3 : Int32) (a4 : Int32) (S : zSt) , f_M_splits_75 fu k7 n a1 a2 a3 a4 S = some S1 → zJ p l e rm_M_splits s m args below meth c G true 6 0 0 (zQm below G args s rm_M_splits true none S1) S 75 [(0, zr (some 72)), (1, zi a1), (2, zi a2), (3, zi a3), (4, zi a4)] [] := by
  intro n
  induction n with
  | zero =>
    intro a1 a2 a3 a4 S h
    cases h
  | succ n ih =>
    intro a1 a2 a3 a4 S h
    rw [f_M_splits_75] at h
    refine z_iload C 4 rfl d_M_splits_75 ?_
    refine z_iload_n C 1 rfl d_M_splits_77 rfl ?_
    rcases zite h with ⟨c1, h⟩ | ⟨c1, h⟩
    · refine z_icmp_get C 100 c1 d_M_splits_78 (by decide) ?_
      refine zq_lsub [0, 1, 2, 3, 4] [(0, zr (some 72)), (1, zi a1), (2, zi a2), (3, zi a3), (4, zi a4)] rfl ?_
      exact c_M_splits_100 C hret hk7  a1 a2 a3 a4 S h
    · refine z_icmp_gef C 100 c1 d_M_splits_78 (by decide) ?_
      refine z_aload_n C 0 rfl d_M_splits_81 rfl ?_
      refine z_getF2 C 11 (by decide) 11 (by decide) rfl 7 400 rfl (79) rfl zp_72 zk_72 zfl_11_41 d_M_splits_82 ?_
      refine z_iload C 4 rfl d_M_splits_85 ?_
      refine z_fact (fun hSR => ?_)
      obtain ⟨g2, h⟩ := zgd_some h
      refine z_baloadS C zo_79 zk_79 (za_79 hSR) g2 d_M_splits_87 ?_
      obtain ⟨r4, h3, h⟩ := zb1_some h
      refine z_cS C (m_M_isDigit l h3) mf_M_isDigit lk_11_171 st_M_isDigit ⟨rfl, rfl⟩ ⟨by decide, by decide⟩ ⟨Nat.zero_le _, Nat.zero_le _⟩ rfl _ [] rfl (Nat.le_of_ble_eq_true rfl) d_M_splits_88 ?_
      rcases zite h with ⟨c5, h⟩ | ⟨c5, h⟩
      · refine z_if_eqt C 100 c5 d_M_splits_91 (by decide) ?_
        refine zq_lsub [0, 1, 2, 3, 4] [(0, zr (some 72)), (1, zi a1), (2, zi a2), (3, zi a3), (4, zi a4)] rfl ?_
        exact c_M_splits_100 C hret hk7  a1 a2 a3 a4 S h
      · refine z_if_eqf C 100 c5 d_M_splits_91 (by decide) ?_
        refine z_iinc C 4 (a4 + (1 : Int32)) [(4, zi (a4 + (1 : Int32))), (0, zr (some 72)), (1, zi a1), (2, zi a2), (3, zi a3)] rfl d_M_splits_94 (by first | rfl | decide) (by decide) rfl ?_
        refine z_goto C 75 d_M_splits_97 (by decide) ?_
        refine zq_lsub [1, 2, 3, 4, 0] [(0, zr (some 72)), (1, zi a1), (2, zi a2), (3, zi a3), (4, zi (a4 + (1 : Int32)))] rfl ?_
        exact ih a1 a2 a3 (a4 + (1 : Int32)) S h
set_option maxRecDepth 100000 in
set_option maxHeartbeats 4000000 in
theorem c_M_splits_68 {p : Program} {l : Launch} {e : Env} {s : State} {m : MethodId} {args : Array Value} {below : List Frame} {meth : Method} {c : Code} {G : zG} (C : zC p s m args meth c G b_M_splits 6 y_M_splits.cls) (hret : meth.sig.returnType = none) {fu : Nat} {S1 : zSt} {k7 : Int32 → Int32 → zSt → Option zSt} (hk7 : ∀ (a1 : Int32) (a2 : Int32) (S : zSt) , k7 a1 a2 S = some S1 → zJ p l e rm_M_splits s m args below meth c G true 6 0 0 (zQm below G args s rm_M_splits true none S1) S 7 [(0, zr (some 72)), (1, zi a1), (2, zi a2)] []) : ∀ (a1 : Int32) (a2 : Int32) (a3 : Int32) (a4 : Int32) (S : zSt) , f_M_splits_68 fu k7 a1 a2 a3 a4 S = some S1 → zJ p l e rm_M_splits s m args below meth c G true 6 0 0 (zQm below G args s rm_M_splits true none S1) S 68 [(0, zr (some 72)), (1, zi a1), (2, zi a2), (3, zi a3), (4, zi a4)] [] := by
  intro a1 a2 a3 a4 S h
  unfold f_M_splits_68 at h
  refine z_iload_n C 3 rfl d_M_splits_68 rfl ?_
  obtain ⟨r2, h1, h⟩ := zb1_some h
  refine z_cS C (m_M_isDigit l h1) mf_M_isDigit lk_11_171 st_M_isDigit ⟨rfl, rfl⟩ ⟨by decide, by decide⟩ ⟨Nat.zero_le _, Nat.zero_le _⟩ rfl _ [] rfl (Nat.le_of_ble_eq_true rfl) d_M_splits_69 ?_
  rcases zite h with ⟨c3, h⟩ | ⟨c3, h⟩
  · refine z_if_eqt C 100 c3 d_M_splits_72 (by decide) ?_
    refine zq_lsub [0, 1, 2, 3, 4] [(0, zr (some 72)), (1, zi a1), (2, zi a2), (3, zi a3), (4, zi a4)] rfl ?_
    exact c_M_splits_100 C hret hk7  a1 a2 a3 a4 S h
  · refine z_if_eqf C 100 c3 d_M_splits_72 (by decide) ?_
    refine zq_lsub [0, 1, 2, 3, 4] [(0, zr (some 72)), (1, zi a1), (2, zi a2), (3, zi a3), (4, zi a4)] rfl ?_
    exact c_M_splits_75 C hret hk7 fu  a1 a2 a3 a4 S h
set_option maxRecDepth 100000 in
set_option maxHeartbeats 4000000 in
theorem c_M_splits_43 {p : Program} {l : Launch} {e : Env} {s : State} {m : MethodId} {args : Array Value} {below : List Frame} {meth : Method} {c : Code} {G : zG} (C : zC p s m args meth c G b_M_splits 6 y_M_splits.cls) (hret : meth.sig.returnType = none) {fu : Nat} {S1 : zSt} {k7 : Int32 → Int32 → zSt → Option zSt} (hk7 : ∀ (a1 : Int32) (a2 : Int32) (S : zSt) , k7 a1 a2 S = some S1 → zJ p l e rm_M_splits s m args below meth c G true 6 0 0 (zQm below G args s rm_M_splits true none S1) S 7 [(0, zr (some 72)), (1, zi a1), (2, zi a2)] []) : ∀ (n : Nat) (a1 : Int32) (a2 : Int32) (a3 : Int32) (a4 : Int32) (S : zSt) , f_M_splits_43 fu k7 n a1 a2 a3 a4 S = some S1 → zJ p l e rm_M_splits s m args below meth c G true 6 0 0 (zQm below G args s rm_M_splits true none S1) S 43 [(0, zr (some 72)), (1, zi a1), (2, zi a2), (3, zi a3), (4, zi a4)] [] := by
  intro n
  induction n with
  | zero =>
    intro a1 a2 a3 a4 S h
    cases h
  | succ n ih =>
    intro a1 a2 a3 a4 S h
    rw [f_M_splits_43] at h
    refine z_iload C 4 rfl d_M_splits_43 ?_
    refine z_iload_n C 1 rfl d_M_splits_45 rfl ?_
    rcases zite h with ⟨c1, h⟩ | ⟨c1, h⟩
    · refine z_icmp_get C 68 c1 d_M_splits_46 (by decide) ?_
      refine zq_lsub [0, 1, 2, 3, 4] [(0, zr (some 72)), (1, zi a1), (2, zi a2), (3, zi a3), (4, zi a4)] rfl ?_
      exact c_M_splits_68 C hret hk7  a1 a2 a3 a4 S h
    · refine z_icmp_gef C 68 c1 d_M_splits_46 (by decide) ?_
      refine z_aload_n C 0 rfl d_M_splits_49 rfl ?_
      refine z_getF2 C 11 (by decide) 11 (by decide) rfl 7 400 rfl (79) rfl zp_72 zk_72 zfl_11_41 d_M_splits_50 ?_
      refine z_iload C 4 rfl d_M_splits_53 ?_
      refine z_fact (fun hSR => ?_)
      obtain ⟨g2, h⟩ := zgd_some h
      refine z_baloadS C zo_79 zk_79 (za_79 hSR) g2 d_M_splits_55 ?_
      obtain ⟨r4, h3, h⟩ := zb1_some h
      refine z_cS C (m_M_isSmall l h3) mf_M_isSmall lk_11_168 st_M_isSmall ⟨rfl, rfl⟩ ⟨by decide, by decide⟩ ⟨Nat.zero_le _, Nat.zero_le _⟩ rfl _ [] rfl (Nat.le_of_ble_eq_true rfl) d_M_splits_56 ?_
      rcases zite h with ⟨c5, h⟩ | ⟨c5, h⟩
      · refine z_if_eqt C 68 c5 d_M_splits_59 (by decide) ?_
        refine zq_lsub [0, 1, 2, 3, 4] [(0, zr (some 72)), (1, zi a1), (2, zi a2), (3, zi a3), (4, zi a4)] rfl ?_
        exact c_M_splits_68 C hret hk7  a1 a2 a3 a4 S h
      · refine z_if_eqf C 68 c5 d_M_splits_59 (by decide) ?_
        refine z_iinc C 4 (a4 + (1 : Int32)) [(4, zi (a4 + (1 : Int32))), (0, zr (some 72)), (1, zi a1), (2, zi a2), (3, zi a3)] rfl d_M_splits_62 (by first | rfl | decide) (by decide) rfl ?_
        refine z_goto C 43 d_M_splits_65 (by decide) ?_
        refine zq_lsub [1, 2, 3, 4, 0] [(0, zr (some 72)), (1, zi a1), (2, zi a2), (3, zi a3), (4, zi (a4 + (1 : Int32)))] rfl ?_
        exact ih a1 a2 a3 (a4 + (1 : Int32)) S h
set_option maxRecDepth 100000 in
set_option maxHeartbeats 4000000 in
theorem c_M_splits_263 {p : Program} {l : Launch} {e : Env} {s : State} {m : MethodId} {args : Array Value} {below : List Frame} {meth : Method} {c : Code} {G : zG} (C : zC p s m args meth c G b_M_splits 6 y_M_splits.cls) (hret : meth.sig.returnType = none) {fu : Nat} {S1 : zSt} : ∀ (a1 : Int32) (S : zSt) , f_M_splits_263 fu a1 S = some S1 → zJ p l e rm_M_splits s m args below meth c G true 6 0 0 (zQm below G args s rm_M_splits true none S1) S 263 [(0, zr (some 72)), (1, zi a1)] [] := by
  intro a1 S h
  unfold f_M_splits_263 at h
  refine z_aload_n C 0 rfl d_M_splits_263 rfl ?_
  refine z_getF2 C 11 (by decide) 17 (by decide) rfl 11 401 rfl (83) rfl zp_72 zk_72 zfl_11_56 d_M_splits_264 ?_
  refine z_aload_n C 0 rfl d_M_splits_267 rfl ?_
  refine z_getI C 11 (by decide) 18 (by decide) rfl zo_72 zk_72 zfl_11_165 d_M_splits_268 ?_
  refine z_iload_n C 1 rfl d_M_splits_271 rfl ?_
  refine z_fact (fun hSR => ?_)
  obtain ⟨g1, h⟩ := zgd_some h
  refine z_iastoreS C zo_83 zk_83 (za_83 hSR) g1 d_M_splits_272 ?_
  refine z_aload_n C 0 rfl d_M_splits_273 rfl ?_
  refine z_getF2 C 11 (by decide) 15 (by decide) rfl 9 401 rfl (81) rfl zp_72 zk_72 zfl_11_50 d_M_splits_274 ?_
  refine z_aload_n C 0 rfl d_M_splits_277 rfl ?_
  refine z_getI C 11 (by decide) 18 (by decide) rfl zo_72 zk_72 zfl_11_165 d_M_splits_278 ?_
  refine z_iconst C (0 : Int32) (by decide) d_M_splits_281 ?_
  refine z_fact (fun hSR => ?_)
  obtain ⟨g2, h⟩ := zgd_some h
  refine z_iastoreS C zo_81 zk_81 (za_81 hSR) g2 d_M_splits_282 ?_
  refine z_aload_n C 0 rfl d_M_splits_283 rfl ?_
  refine z_getF2 C 11 (by decide) 16 (by decide) rfl 10 401 rfl (82) rfl zp_72 zk_72 zfl_11_53 d_M_splits_284 ?_
  refine z_aload_n C 0 rfl d_M_splits_287 rfl ?_
  refine z_getI C 11 (by decide) 18 (by decide) rfl zo_72 zk_72 zfl_11_165 d_M_splits_288 ?_
  refine z_iconst C (0 : Int32) (by decide) d_M_splits_291 ?_
  refine z_fact (fun hSR => ?_)
  obtain ⟨g3, h⟩ := zgd_some h
  refine z_iastoreS C zo_82 zk_82 (za_82 hSR) g3 d_M_splits_292 ?_
  cases h
  exact z_vret C hret ⟨Nat.zero_le _, Nat.zero_le _⟩ d_M_splits_293
set_option maxRecDepth 100000 in
set_option maxHeartbeats 4000000 in
theorem c_M_splits_7 {p : Program} {l : Launch} {e : Env} {s : State} {m : MethodId} {args : Array Value} {below : List Frame} {meth : Method} {c : Code} {G : zG} (C : zC p s m args meth c G b_M_splits 6 y_M_splits.cls) (hret : meth.sig.returnType = none) {fu : Nat} {S1 : zSt} : ∀ (n : Nat) (a1 : Int32) (a2 : Int32) (S : zSt) , f_M_splits_7 fu n a1 a2 S = some S1 → zJ p l e rm_M_splits s m args below meth c G true 6 0 0 (zQm below G args s rm_M_splits true none S1) S 7 [(0, zr (some 72)), (1, zi a1), (2, zi a2)] [] := by
  intro n
  induction n with
  | zero =>
    intro a1 a2 S h
    cases h
  | succ n ih =>
    intro a1 a2 S h
    rw [f_M_splits_7] at h
    refine z_iload_n C 2 rfl d_M_splits_7 rfl ?_
    refine z_iload_n C 1 rfl d_M_splits_8 rfl ?_
    rcases zite h with ⟨c1, h⟩ | ⟨c1, h⟩
    · refine z_icmp_get C 263 c1 d_M_splits_9 (by decide) ?_
      refine zq_lsub [0, 1] [(0, zr (some 72)), (1, zi a1)] rfl ?_
      exact c_M_splits_263 C hret  a1 S h
    · refine z_icmp_gef C 263 c1 d_M_splits_9 (by decide) ?_
      refine z_aload_n C 0 rfl d_M_splits_12 rfl ?_
      refine z_getF2 C 11 (by decide) 11 (by decide) rfl 7 400 rfl (79) rfl zp_72 zk_72 zfl_11_41 d_M_splits_13 ?_
      refine z_iload_n C 2 rfl d_M_splits_16 rfl ?_
      refine z_fact (fun hSR => ?_)
      obtain ⟨g2, h⟩ := zgd_some h
      refine z_baloadS C zo_79 zk_79 (za_79 hSR) g2 d_M_splits_17 ?_
      refine z_istore_n C [(3, zi (zI S 79 a2.toNatClampNeg)), (0, zr (some 72)), (1, zi a1), (2, zi a2)] d_M_splits_18 rfl (by decide) rfl ?_
      refine z_iload_n C 0 rfl d_M_splits_19 rfl ?_
      refine z_bipush C (32 : Int32) (by decide) d_M_splits_20 ?_
      rcases zite h with ⟨c3, h⟩ | ⟨c3, h⟩
      · refine z_icmp_nef C 31 c3 d_M_splits_22 (by decide) ?_
        refine z_iinc C 3 (a2 + (1 : Int32)) [(2, zi (a2 + (1 : Int32))), (3, zi (zI S 79 a2.toNatClampNeg)), (0, zr (some 72)), (1, zi a1)] rfl d_M_splits_25 (by first | rfl | decide) (by decide) rfl ?_
        refine z_goto C 7 d_M_splits_28 (by decide) ?_
        refine zq_lsub [2, 3, 0] [(0, zr (some 72)), (1, zi a1), (2, zi (a2 + (1 : Int32)))] rfl ?_
        exact ih a1 (a2 + (1 : Int32)) S h
      · refine z_icmp_net C 31 c3 d_M_splits_22 (by decide) ?_
        refine z_iload_n C 3 rfl d_M_splits_31 rfl ?_
        refine z_iconst C (1 : Int32) (by decide) d_M_splits_32 ?_
        refine z_iadd C d_M_splits_33 ?_
        refine z_istore C [(4, zi (a2 + (1 : Int32))), (3, zi (zI S 79 a2.toNatClampNeg)), (0, zr (some 72)), (1, zi a1), (2, zi a2)] d_M_splits_34 (by decide) rfl ?_
        refine z_iload_n C 1 rfl d_M_splits_36 rfl ?_
        obtain ⟨r5, h4, h⟩ := zb1_some h
        refine z_cS C (m_M_isSmall l h4) mf_M_isSmall lk_11_168 st_M_isSmall ⟨rfl, rfl⟩ ⟨by decide, by decide⟩ ⟨Nat.zero_le _, Nat.zero_le _⟩ rfl _ [] rfl (Nat.le_of_ble_eq_true rfl) d_M_splits_37 ?_
        rcases zite h with ⟨c6, h⟩ | ⟨c6, h⟩
        · refine z_if_eqt C 68 c6 d_M_splits_40 (by decide) ?_
          refine zq_lsub [2, 3, 4, 1, 0] [(0, zr (some 72)), (1, zi a1), (2, zi a2), (3, zi (zI S 79 a2.toNatClampNeg)), (4, zi (a2 + (1 : Int32)))] rfl ?_
          exact c_M_splits_68 C hret (fun z0 z1 zS zh => ih z0 z1 zS zh)  a1 a2 (zI S 79 a2.toNatClampNeg) (a2 + (1 : Int32)) S h
        · refine z_if_eqf C 68 c6 d_M_splits_40 (by decide) ?_
          refine zq_lsub [2, 3, 4, 1, 0] [(0, zr (some 72)), (1, zi a1), (2, zi a2), (3, zi (zI S 79 a2.toNatClampNeg)), (4, zi (a2 + (1 : Int32)))] rfl ?_
          exact c_M_splits_43 C hret (fun z0 z1 zS zh => ih z0 z1 zS zh) fu  a1 a2 (zI S 79 a2.toNatClampNeg) (a2 + (1 : Int32)) S h
set_option maxRecDepth 100000 in
set_option maxHeartbeats 4000000 in
theorem m_M_splits (l : Launch) {fu : Nat} {a1 : Int32} {S : zSt} {S1 : zSt} (h : f_M_splits fu a1 S = some S1) : zPM l y_M_splits b_M_splits 6 none rm_M_splits true true [zr (some 72), zi a1] S none S1 := by
  refine zPM_of (by decide) (Nat.le_of_ble_eq_true rfl) (fun p e s m args below meth c G C hret hname => ?_)
  unfold f_M_splits at h
  refine (?_ : zJ p l e rm_M_splits s m args below meth c G true 6 0 0 (zQm below G args s rm_M_splits true none S1) S 0 [(0, zr (some 72)), (1, zi a1)] [])
  refine z_aload_n C 0 rfl d_M_splits_0 rfl ?_
  refine z_iconst C (0 : Int32) (by decide) d_M_splits_1 ?_
  refine z_putI C 11 (by decide) 18 (by decide) rfl (Or.inl rfl) zo_72 zk_72 zfl_11_165 (Or.inl rfl) d_M_splits_2 ?_
  refine z_iconst C (0 : Int32) (by decide) d_M_splits_5 ?_
  refine z_istore_n C [(2, zi (0 : Int32)), (0, zr (some 72)), (1, zi a1)] d_M_splits_6 rfl (by decide) rfl ?_
  refine zq_lsub [1, 2, 0] [(0, zr (some 72)), (1, zi a1), (2, zi (0 : Int32))] rfl ?_
  exact c_M_splits_7 C hret fu  a1 (0 : Int32) (zwI S 72 18 (0 : Int32)) h
def f_M_fine (S : zSt) : Option Int32 := if (zI S 72 21) = (-1 : Int32) then some (1 : Int32) else some (0 : Int32)
set_option maxRecDepth 100000 in
set_option maxHeartbeats 4000000 in
theorem m_M_fine (l : Launch) {S : zSt} {r : Int32} (h : f_M_fine  S = some r) : zPM l y_M_fine b_M_fine 1 (some .boolean) rm_M_fine true true [zr (some 72)] S (some (zi r)) S := by
  refine zPM_of (by decide) (Nat.le_of_ble_eq_true rfl) (fun p e s m args below meth c G C hret hname => ?_)
  unfold f_M_fine at h
  refine (?_ : zJ p l e rm_M_fine s m args below meth c G true 1 0 0 (zQm below G args s rm_M_fine true (some (zi r)) S) S 0 [(0, zr (some 72))] [])
  refine z_aload_n C 0 rfl d_M_fine_0 rfl ?_
  refine z_getI C 11 (by decide) 21 (by decide) rfl zo_72 zk_72 zfl_11_178 d_M_fine_1 ?_
  refine z_iconst C (-1 : Int32) (by decide) d_M_fine_4 ?_
  rcases zite h with ⟨c1, h⟩ | ⟨c1, h⟩
  · refine z_icmp_nef C 12 c1 d_M_fine_5 (by decide) ?_
    refine z_iconst C (1 : Int32) (by decide) d_M_fine_8 ?_
    refine z_goto C 13 d_M_fine_9 (by decide) ?_
    cases h
    exact z_iret C .boolean hret rfl ⟨Nat.zero_le _, Nat.zero_le _⟩ d_M_fine_13
  · refine z_icmp_net C 12 c1 d_M_fine_5 (by decide) ?_
    refine z_iconst C (0 : Int32) (by decide) d_M_fine_12 ?_
    cases h
    exact z_iret C .boolean hret rfl ⟨Nat.zero_le _, Nat.zero_le _⟩ d_M_fine_13
def f_M_takes0_25 (k0 : Int32) (S : zSt) : Option (Int32 × zSt) := if k0 = 0 then zgd (k0 = 0 ∨ k0 = 1) (some (k0, S)) else zgd (k0 = 0 ∨ k0 = 1) (some (k0, zwI S 72 19 ((zI S 72 19) + (1 : Int32))))
def f_M_takes0 (a1 : Int32) (S : zSt) : Option (Int32 × zSt) := zb1 (f_M_fine S) (fun r2 => if r2 = 0 then f_M_takes0_25 (0 : Int32) S else zgd (0 ≤ (zI S 72 19) ∧ (zI S 72 19).toNatClampNeg < 401) (if (zI S 81 (zI S 72 19).toNatClampNeg) = a1 then f_M_takes0_25 (1 : Int32) S else f_M_takes0_25 (0 : Int32) S))
set_option maxRecDepth 100000 in
set_option maxHeartbeats 4000000 in
theorem c_M_takes0_25 {p : Program} {l : Launch} {e : Env} {s : State} {m : MethodId} {args : Array Value} {below : List Frame} {meth : Method} {c : Code} {G : zG} (C : zC p s m args meth c G b_M_takes0 3 y_M_takes0.cls) (hret : meth.sig.returnType = (some .boolean)) {r : Int32} {S1 : zSt} : ∀ (k0 : Int32) (S : zSt) , f_M_takes0_25 k0 S = some (r, S1) → zJ p l e rm_M_takes0 s m args below meth c G true 3 0 0 (zQm below G args s rm_M_takes0 true (some (zi r)) S1) S 25 [(0, zr (some 72))] [zi k0] := by
  intro k0 S h
  unfold f_M_takes0_25 at h
  refine z_istore_n C [(2, zi k0), (0, zr (some 72))] d_M_takes0_25 rfl (by decide) rfl ?_
  refine z_iload_n C 0 rfl d_M_takes0_26 rfl ?_
  rcases zite h with ⟨c1, h⟩ | ⟨c1, h⟩
  · refine z_if_eqt C 40 c1 d_M_takes0_27 (by decide) ?_
    refine z_iload_n C 0 rfl d_M_takes0_40 rfl ?_
    obtain ⟨g2, h⟩ := zgd_some h
    cases h
    exact z_iret C .boolean hret (by rcases g2 with e | e <;> rw [e] <;> rfl) ⟨Nat.zero_le _, Nat.zero_le _⟩ d_M_takes0_41
  · refine z_if_eqf C 40 c1 d_M_takes0_27 (by decide) ?_
    refine z_aload_n C 1 rfl d_M_takes0_30 rfl ?_
    refine z_dup C rfl d_M_takes0_31 ?_
    refine z_getI C 11 (by decide) 19 (by decide) rfl zo_72 zk_72 zfl_11_185 d_M_takes0_32 ?_
    refine z_iconst C (1 : Int32) (by decide) d_M_takes0_35 ?_
    refine z_iadd C d_M_takes0_36 ?_
    refine z_putI C 11 (by decide) 19 (by decide) rfl (Or.inl rfl) zo_72 zk_72 zfl_11_185 (Or.inl rfl) d_M_takes0_37 ?_
    refine z_iload_n C 0 rfl d_M_takes0_40 rfl ?_
    obtain ⟨g3, h⟩ := zgd_some h
    cases h
    exact z_iret C .boolean hret (by rcases g3 with e | e <;> rw [e] <;> rfl) ⟨Nat.zero_le _, Nat.zero_le _⟩ d_M_takes0_41
set_option maxRecDepth 100000 in
set_option maxHeartbeats 4000000 in
theorem m_M_takes0 (l : Launch) {a1 : Int32} {S : zSt} {r : Int32} {S1 : zSt} (h : f_M_takes0 a1 S = some (r, S1)) : zPM l y_M_takes0 b_M_takes0 3 (some .boolean) rm_M_takes0 true true [zr (some 72), zi a1] S (some (zi r)) S1 := by
  refine zPM_of (by decide) (Nat.le_of_ble_eq_true rfl) (fun p e s m args below meth c G C hret hname => ?_)
  unfold f_M_takes0 at h
  refine (?_ : zJ p l e rm_M_takes0 s m args below meth c G true 3 0 0 (zQm below G args s rm_M_takes0 true (some (zi r)) S1) S 0 [(0, zr (some 72)), (1, zi a1)] [])
  refine z_aload_n C 0 rfl d_M_takes0_0 rfl ?_
  obtain ⟨r2, h1, h⟩ := zb1_some h
  refine z_cV C 11 (by decide) (m_M_fine l h1) mf_M_fine lk_11_181 in_M_fine se_M_fine rfl zo_72 zk_72 ⟨rfl, rfl⟩ ⟨by decide, by decide⟩ ⟨Nat.zero_le _, Nat.zero_le _⟩ rfl _ [] rfl (Nat.le_of_ble_eq_true rfl) d_M_takes0_1 ?_
  rcases zite h with ⟨c3, h⟩ | ⟨c3, h⟩
  · refine z_if_eqt C 24 c3 d_M_takes0_4 (by decide) ?_
    refine z_iconst C (0 : Int32) (by decide) d_M_takes0_24 ?_
    refine zq_lsub [0] [(0, zr (some 72))] rfl ?_
    exact c_M_takes0_25 C hret  (0 : Int32) S h
  · refine z_if_eqf C 24 c3 d_M_takes0_4 (by decide) ?_
    refine z_aload_n C 0 rfl d_M_takes0_7 rfl ?_
    refine z_getF2 C 11 (by decide) 15 (by decide) rfl 9 401 rfl (81) rfl zp_72 zk_72 zfl_11_50 d_M_takes0_8 ?_
    refine z_aload_n C 0 rfl d_M_takes0_11 rfl ?_
    refine z_getI C 11 (by decide) 19 (by decide) rfl zo_72 zk_72 zfl_11_185 d_M_takes0_12 ?_
    refine z_fact (fun hSR => ?_)
    obtain ⟨g4, h⟩ := zgd_some h
    refine z_ialoadS C zo_81 zk_81 (za_81 hSR) g4 d_M_takes0_15 ?_
    refine z_iload_n C 1 rfl d_M_takes0_16 rfl ?_
    rcases zite h with ⟨c5, h⟩ | ⟨c5, h⟩
    · refine z_icmp_nef C 24 c5 d_M_takes0_17 (by decide) ?_
      refine z_iconst C (1 : Int32) (by decide) d_M_takes0_20 ?_
      refine z_goto C 25 d_M_takes0_21 (by decide) ?_
      refine zq_lsub [0] [(0, zr (some 72))] rfl ?_
      exact c_M_takes0_25 C hret  (1 : Int32) S h
    · refine z_icmp_net C 24 c5 d_M_takes0_17 (by decide) ?_
      refine z_iconst C (0 : Int32) (by decide) d_M_takes0_24 ?_
      refine zq_lsub [0] [(0, zr (some 72))] rfl ?_
      exact c_M_takes0_25 C hret  (0 : Int32) S h
def f_M_faults (S : zSt) : Option zSt := zb1 (f_M_fine S) (fun r2 => if r2 = 0 then some S else zgd (0 ≤ (zI S 72 19) ∧ (zI S 72 19).toNatClampNeg < 401) (some (zwI S 72 21 (zI S 83 (zI S 72 19).toNatClampNeg))))
set_option maxRecDepth 100000 in
set_option maxHeartbeats 4000000 in
theorem m_M_faults (l : Launch) {S : zSt} {S1 : zSt} (h : f_M_faults  S = some S1) : zPM l y_M_faults b_M_faults 1 none rm_M_faults true true [zr (some 72)] S none S1 := by
  refine zPM_of (by decide) (Nat.le_of_ble_eq_true rfl) (fun p e s m args below meth c G C hret hname => ?_)
  unfold f_M_faults at h
  refine (?_ : zJ p l e rm_M_faults s m args below meth c G true 1 0 0 (zQm below G args s rm_M_faults true none S1) S 0 [(0, zr (some 72))] [])
  refine z_aload_n C 0 rfl d_M_faults_0 rfl ?_
  obtain ⟨r2, h1, h⟩ := zb1_some h
  refine z_cV C 11 (by decide) (m_M_fine l h1) mf_M_fine lk_11_181 in_M_fine se_M_fine rfl zo_72 zk_72 ⟨rfl, rfl⟩ ⟨by decide, by decide⟩ ⟨Nat.zero_le _, Nat.zero_le _⟩ rfl _ [] rfl (Nat.le_of_ble_eq_true rfl) d_M_faults_1 ?_
  rcases zite h with ⟨c3, h⟩ | ⟨c3, h⟩
  · refine z_if_eqt C 20 c3 d_M_faults_4 (by decide) ?_
    cases h
    exact z_vret C hret ⟨Nat.zero_le _, Nat.zero_le _⟩ d_M_faults_20
  · refine z_if_eqf C 20 c3 d_M_faults_4 (by decide) ?_
    refine z_aload_n C 0 rfl d_M_faults_7 rfl ?_
    refine z_aload_n C 0 rfl d_M_faults_8 rfl ?_
    refine z_getF2 C 11 (by decide) 17 (by decide) rfl 11 401 rfl (83) rfl zp_72 zk_72 zfl_11_56 d_M_faults_9 ?_
    refine z_aload_n C 0 rfl d_M_faults_12 rfl ?_
    refine z_getI C 11 (by decide) 19 (by decide) rfl zo_72 zk_72 zfl_11_185 d_M_faults_13 ?_
    refine z_fact (fun hSR => ?_)
    obtain ⟨g4, h⟩ := zgd_some h
    refine z_ialoadS C zo_83 zk_83 (za_83 hSR) g4 d_M_faults_16 ?_
    refine z_putI C 11 (by decide) 21 (by decide) rfl (Or.inl rfl) zo_72 zk_72 zfl_11_178 (Or.inl rfl) d_M_faults_17 ?_
    cases h
    exact z_vret C hret ⟨Nat.zero_le _, Nat.zero_le _⟩ d_M_faults_20
def f_M_must (a1 : Int32) (S : zSt) : Option zSt := zb2 (f_M_takes0 a1 S) (fun r2 S3 => if r2 = 0 then zb1 (f_M_faults S3) (fun S6 => some S6) else some S3)
set_option maxRecDepth 100000 in
set_option maxHeartbeats 4000000 in
theorem m_M_must (l : Launch) {a1 : Int32} {S : zSt} {S1 : zSt} (h : f_M_must a1 S = some S1) : zPM l y_M_must b_M_must 2 none rm_M_must true true [zr (some 72), zi a1] S none S1 := by
  refine zPM_of (by decide) (Nat.le_of_ble_eq_true rfl) (fun p e s m args below meth c G C hret hname => ?_)
  unfold f_M_must at h
  refine (?_ : zJ p l e rm_M_must s m args below meth c G true 2 0 0 (zQm below G args s rm_M_must true none S1) S 0 [(0, zr (some 72)), (1, zi a1)] [])
  refine z_aload_n C 0 rfl d_M_must_0 rfl ?_
  refine z_iload_n C 1 rfl d_M_must_1 rfl ?_
  obtain ⟨r2, S3, h1, h⟩ := zb2_some h
  refine z_cV C 11 (by decide) (m_M_takes0 l h1) mf_M_takes0 lk_11_188 in_M_takes0 se_M_takes0 rfl zo_72 zk_72 ⟨rfl, rfl⟩ ⟨by decide, by decide⟩ ⟨Nat.zero_le _, Nat.zero_le _⟩ rfl _ [] rfl (Nat.le_of_ble_eq_true rfl) d_M_must_2 ?_
  rcases zite h with ⟨c4, h⟩ | ⟨c4, h⟩
  · refine z_if_nef C 12 c4 d_M_must_5 (by decide) ?_
    refine z_aload_n C 0 rfl d_M_must_8 rfl ?_
    obtain ⟨S6, h5, h⟩ := zb1_some h
    refine z_cV C 11 (by decide) (m_M_faults l h5) mf_M_faults lk_11_191 in_M_faults se_M_faults rfl zo_72 zk_72 ⟨rfl, rfl⟩ ⟨by decide, by decide⟩ ⟨Nat.zero_le _, Nat.zero_le _⟩ rfl _ [] rfl (Nat.le_of_ble_eq_true rfl) d_M_must_9 ?_
    cases h
    exact z_vret C hret ⟨Nat.zero_le _, Nat.zero_le _⟩ d_M_must_12
  · refine z_if_net C 12 c4 d_M_must_5 (by decide) ?_
    cases h
    exact z_vret C hret ⟨Nat.zero_le _, Nat.zero_le _⟩ d_M_must_12
def f_M_leaf_13 (S : zSt) : Option zSt := zb1 (f_M_fine (zwI S 72 20 ((zI S 72 20) + (1 : Int32)))) (fun r2 => if r2 = 0 then some (zwI S 72 20 ((zI S 72 20) + (1 : Int32))) else some (zwI (zwI S 72 20 ((zI S 72 20) + (1 : Int32))) 72 19 ((zI (zwI S 72 20 ((zI S 72 20) + (1 : Int32))) 72 19) + (1 : Int32))))
def f_M_leaf (S : zSt) : Option zSt := if (zI S 72 20) = (50 : Int32) then zb1 (f_M_faults S) (fun S3 => f_M_leaf_13 S3) else f_M_leaf_13 S
set_option maxRecDepth 100000 in
set_option maxHeartbeats 4000000 in
theorem c_M_leaf_13 {p : Program} {l : Launch} {e : Env} {s : State} {m : MethodId} {args : Array Value} {below : List Frame} {meth : Method} {c : Code} {G : zG} (C : zC p s m args meth c G b_M_leaf 1 y_M_leaf.cls) (hret : meth.sig.returnType = none) {S1 : zSt} : ∀ (S : zSt) , f_M_leaf_13  S = some S1 → zJ p l e rm_M_leaf s m args below meth c G true 1 0 0 (zQm below G args s rm_M_leaf true none S1) S 13 [(0, zr (some 72))] [] := by
  intro S h
  unfold f_M_leaf_13 at h
  refine z_aload_n C 0 rfl d_M_leaf_13 rfl ?_
  refine z_dup C rfl d_M_leaf_14 ?_
  refine z_getI C 11 (by decide) 20 (by decide) rfl zo_72 zk_72 zfl_11_194 d_M_leaf_15 ?_
  refine z_iconst C (1 : Int32) (by decide) d_M_leaf_18 ?_
  refine z_iadd C d_M_leaf_19 ?_
  refine z_putI C 11 (by decide) 20 (by decide) rfl (Or.inl rfl) zo_72 zk_72 zfl_11_194 (Or.inl rfl) d_M_leaf_20 ?_
  refine z_aload_n C 0 rfl d_M_leaf_23 rfl ?_
  obtain ⟨r2, h1, h⟩ := zb1_some h
  refine z_cV C 11 (by decide) (m_M_fine l h1) mf_M_fine lk_11_181 in_M_fine se_M_fine rfl zo_72 zk_72 ⟨rfl, rfl⟩ ⟨by decide, by decide⟩ ⟨Nat.zero_le _, Nat.zero_le _⟩ rfl _ [] rfl (Nat.le_of_ble_eq_true rfl) d_M_leaf_24 ?_
  rcases zite h with ⟨c3, h⟩ | ⟨c3, h⟩
  · refine z_if_eqt C 40 c3 d_M_leaf_27 (by decide) ?_
    cases h
    exact z_vret C hret ⟨Nat.zero_le _, Nat.zero_le _⟩ d_M_leaf_40
  · refine z_if_eqf C 40 c3 d_M_leaf_27 (by decide) ?_
    refine z_aload_n C 0 rfl d_M_leaf_30 rfl ?_
    refine z_dup C rfl d_M_leaf_31 ?_
    refine z_getI C 11 (by decide) 19 (by decide) rfl zo_72 zk_72 zfl_11_185 d_M_leaf_32 ?_
    refine z_iconst C (1 : Int32) (by decide) d_M_leaf_35 ?_
    refine z_iadd C d_M_leaf_36 ?_
    refine z_putI C 11 (by decide) 19 (by decide) rfl (Or.inl rfl) zo_72 zk_72 zfl_11_185 (Or.inl rfl) d_M_leaf_37 ?_
    cases h
    exact z_vret C hret ⟨Nat.zero_le _, Nat.zero_le _⟩ d_M_leaf_40
set_option maxRecDepth 100000 in
set_option maxHeartbeats 4000000 in
theorem m_M_leaf (l : Launch) {S : zSt} {S1 : zSt} (h : f_M_leaf  S = some S1) : zPM l y_M_leaf b_M_leaf 1 none rm_M_leaf true true [zr (some 72)] S none S1 := by
  refine zPM_of (by decide) (Nat.le_of_ble_eq_true rfl) (fun p e s m args below meth c G C hret hname => ?_)
  unfold f_M_leaf at h
  refine (?_ : zJ p l e rm_M_leaf s m args below meth c G true 1 0 0 (zQm below G args s rm_M_leaf true none S1) S 0 [(0, zr (some 72))] [])
  refine z_aload_n C 0 rfl d_M_leaf_0 rfl ?_
  refine z_getI C 11 (by decide) 20 (by decide) rfl zo_72 zk_72 zfl_11_194 d_M_leaf_1 ?_
  refine z_bipush C (50 : Int32) (by decide) d_M_leaf_4 ?_
  rcases zite h with ⟨c1, h⟩ | ⟨c1, h⟩
  · refine z_icmp_nef C 13 c1 d_M_leaf_6 (by decide) ?_
    refine z_aload_n C 0 rfl d_M_leaf_9 rfl ?_
    obtain ⟨S3, h2, h⟩ := zb1_some h
    refine z_cV C 11 (by decide) (m_M_faults l h2) mf_M_faults lk_11_191 in_M_faults se_M_faults rfl zo_72 zk_72 ⟨rfl, rfl⟩ ⟨by decide, by decide⟩ ⟨Nat.zero_le _, Nat.zero_le _⟩ rfl _ [] rfl (Nat.le_of_ble_eq_true rfl) d_M_leaf_10 ?_
    refine zq_lsub [0] [(0, zr (some 72))] rfl ?_
    exact c_M_leaf_13 C hret   S3 h
  · refine z_icmp_net C 13 c1 d_M_leaf_6 (by decide) ?_
    refine zq_lsub [0] [(0, zr (some 72))] rfl ?_
    exact c_M_leaf_13 C hret   S h
def f_M_mustNumber_38 (S : zSt) : Option zSt := zb1 (f_M_faults S) (fun S2 => zb1 (f_M_fine S2) (fun r4 => if r4 = 0 then some S2 else some (zwI S2 72 19 ((zI S2 72 19) + (1 : Int32)))))
def f_M_mustNumber (a1 : Int32) (a2 : Int32) (S : zSt) : Option zSt := zb1 (f_M_fine S) (fun r2 => if r2 = 0 then zb1 (f_M_fine S) (fun r5 => if r5 = 0 then some S else some (zwI S 72 19 ((zI S 72 19) + (1 : Int32)))) else zgd (0 ≤ (zI S 72 19) ∧ (zI S 72 19).toNatClampNeg < 401) (if (zI S 81 (zI S 72 19).toNatClampNeg) = (50 : Int32) then zgd (0 ≤ (zI S 72 19) ∧ (zI S 72 19).toNatClampNeg < 401) (zb1 (f_M_lies (zI S 82 (zI S 72 19).toNatClampNeg) a1 a2) (fun r11 => if r11 = 0 then f_M_mustNumber_38 S else zb1 (f_M_fine S) (fun r14 => if r14 = 0 then some S else some (zwI S 72 19 ((zI S 72 19) + (1 : Int32)))))) else f_M_mustNumber_38 S))
set_option maxRecDepth 100000 in
set_option maxHeartbeats 4000000 in
theorem c_M_mustNumber_38 {p : Program} {l : Launch} {e : Env} {s : State} {m : MethodId} {args : Array Value} {below : List Frame} {meth : Method} {c : Code} {G : zG} (C : zC p s m args meth c G b_M_mustNumber 3 y_M_mustNumber.cls) (hret : meth.sig.returnType = none) {S1 : zSt} : ∀ (S : zSt) , f_M_mustNumber_38  S = some S1 → zJ p l e rm_M_mustNumber s m args below meth c G true 3 0 0 (zQm below G args s rm_M_mustNumber true none S1) S 38 [(0, zr (some 72))] [] := by
  intro S h
  unfold f_M_mustNumber_38 at h
  refine z_aload_n C 0 rfl d_M_mustNumber_38 rfl ?_
  obtain ⟨S2, h1, h⟩ := zb1_some h
  refine z_cV C 11 (by decide) (m_M_faults l h1) mf_M_faults lk_11_191 in_M_faults se_M_faults rfl zo_72 zk_72 ⟨rfl, rfl⟩ ⟨by decide, by decide⟩ ⟨Nat.zero_le _, Nat.zero_le _⟩ rfl _ [] rfl (Nat.le_of_ble_eq_true rfl) d_M_mustNumber_39 ?_
  refine z_aload_n C 0 rfl d_M_mustNumber_42 rfl ?_
  obtain ⟨r4, h3, h⟩ := zb1_some h
  refine z_cV C 11 (by decide) (m_M_fine l h3) mf_M_fine lk_11_181 in_M_fine se_M_fine rfl zo_72 zk_72 ⟨rfl, rfl⟩ ⟨by decide, by decide⟩ ⟨Nat.zero_le _, Nat.zero_le _⟩ rfl _ [] rfl (Nat.le_of_ble_eq_true rfl) d_M_mustNumber_43 ?_
  rcases zite h with ⟨c5, h⟩ | ⟨c5, h⟩
  · refine z_if_eqt C 59 c5 d_M_mustNumber_46 (by decide) ?_
    cases h
    exact z_vret C hret ⟨Nat.zero_le _, Nat.zero_le _⟩ d_M_mustNumber_59
  · refine z_if_eqf C 59 c5 d_M_mustNumber_46 (by decide) ?_
    refine z_aload_n C 0 rfl d_M_mustNumber_49 rfl ?_
    refine z_dup C rfl d_M_mustNumber_50 ?_
    refine z_getI C 11 (by decide) 19 (by decide) rfl zo_72 zk_72 zfl_11_185 d_M_mustNumber_51 ?_
    refine z_iconst C (1 : Int32) (by decide) d_M_mustNumber_54 ?_
    refine z_iadd C d_M_mustNumber_55 ?_
    refine z_putI C 11 (by decide) 19 (by decide) rfl (Or.inl rfl) zo_72 zk_72 zfl_11_185 (Or.inl rfl) d_M_mustNumber_56 ?_
    cases h
    exact z_vret C hret ⟨Nat.zero_le _, Nat.zero_le _⟩ d_M_mustNumber_59
set_option maxRecDepth 100000 in
set_option maxHeartbeats 4000000 in
theorem m_M_mustNumber (l : Launch) {a1 : Int32} {a2 : Int32} {S : zSt} {S1 : zSt} (h : f_M_mustNumber a1 a2 S = some S1) : zPM l y_M_mustNumber b_M_mustNumber 3 none rm_M_mustNumber true true [zr (some 72), zi a1, zi a2] S none S1 := by
  refine zPM_of (by decide) (Nat.le_of_ble_eq_true rfl) (fun p e s m args below meth c G C hret hname => ?_)
  unfold f_M_mustNumber at h
  refine (?_ : zJ p l e rm_M_mustNumber s m args below meth c G true 3 0 0 (zQm below G args s rm_M_mustNumber true none S1) S 0 [(0, zr (some 72)), (1, zi a1), (2, zi a2)] [])
  refine z_aload_n C 0 rfl d_M_mustNumber_0 rfl ?_
  obtain ⟨r2, h1, h⟩ := zb1_some h
  refine z_cV C 11 (by decide) (m_M_fine l h1) mf_M_fine lk_11_181 in_M_fine se_M_fine rfl zo_72 zk_72 ⟨rfl, rfl⟩ ⟨by decide, by decide⟩ ⟨Nat.zero_le _, Nat.zero_le _⟩ rfl _ [] rfl (Nat.le_of_ble_eq_true rfl) d_M_mustNumber_1 ?_
  rcases zite h with ⟨c3, h⟩ | ⟨c3, h⟩
  · refine z_if_eqt C 42 c3 d_M_mustNumber_4 (by decide) ?_
    refine z_aload_n C 0 rfl d_M_mustNumber_42 rfl ?_
    obtain ⟨r5, h4, h⟩ := zb1_some h
    refine z_cV C 11 (by decide) (m_M_fine l h4) mf_M_fine lk_11_181 in_M_fine se_M_fine rfl zo_72 zk_72 ⟨rfl, rfl⟩ ⟨by decide, by decide⟩ ⟨Nat.zero_le _, Nat.zero_le _⟩ rfl _ [] rfl (Nat.le_of_ble_eq_true rfl) d_M_mustNumber_43 ?_
    rcases zite h with ⟨c6, h⟩ | ⟨c6, h⟩
    · refine z_if_eqt C 59 c6 d_M_mustNumber_46 (by decide) ?_
      cases h
      exact z_vret C hret ⟨Nat.zero_le _, Nat.zero_le _⟩ d_M_mustNumber_59
    · refine z_if_eqf C 59 c6 d_M_mustNumber_46 (by decide) ?_
      refine z_aload_n C 0 rfl d_M_mustNumber_49 rfl ?_
      refine z_dup C rfl d_M_mustNumber_50 ?_
      refine z_getI C 11 (by decide) 19 (by decide) rfl zo_72 zk_72 zfl_11_185 d_M_mustNumber_51 ?_
      refine z_iconst C (1 : Int32) (by decide) d_M_mustNumber_54 ?_
      refine z_iadd C d_M_mustNumber_55 ?_
      refine z_putI C 11 (by decide) 19 (by decide) rfl (Or.inl rfl) zo_72 zk_72 zfl_11_185 (Or.inl rfl) d_M_mustNumber_56 ?_
      cases h
      exact z_vret C hret ⟨Nat.zero_le _, Nat.zero_le _⟩ d_M_mustNumber_59
  · refine z_if_eqf C 42 c3 d_M_mustNumber_4 (by decide) ?_
    refine z_aload_n C 0 rfl d_M_mustNumber_7 rfl ?_
    refine z_getF2 C 11 (by decide) 15 (by decide) rfl 9 401 rfl (81) rfl zp_72 zk_72 zfl_11_50 d_M_mustNumber_8 ?_
    refine z_aload_n C 0 rfl d_M_mustNumber_11 rfl ?_
    refine z_getI C 11 (by decide) 19 (by decide) rfl zo_72 zk_72 zfl_11_185 d_M_mustNumber_12 ?_
    refine z_fact (fun hSR => ?_)
    obtain ⟨g7, h⟩ := zgd_some h
    refine z_ialoadS C zo_81 zk_81 (za_81 hSR) g7 d_M_mustNumber_15 ?_
    refine z_bipush C (50 : Int32) (by decide) d_M_mustNumber_16 ?_
    rcases zite h with ⟨c8, h⟩ | ⟨c8, h⟩
    · refine z_icmp_nef C 38 c8 d_M_mustNumber_18 (by decide) ?_
      refine z_aload_n C 0 rfl d_M_mustNumber_21 rfl ?_
      refine z_getF2 C 11 (by decide) 16 (by decide) rfl 10 401 rfl (82) rfl zp_72 zk_72 zfl_11_53 d_M_mustNumber_22 ?_
      refine z_aload_n C 0 rfl d_M_mustNumber_25 rfl ?_
      refine z_getI C 11 (by decide) 19 (by decide) rfl zo_72 zk_72 zfl_11_185 d_M_mustNumber_26 ?_
      refine z_fact (fun hSR => ?_)
      obtain ⟨g9, h⟩ := zgd_some h
      refine z_ialoadS C zo_82 zk_82 (za_82 hSR) g9 d_M_mustNumber_29 ?_
      refine z_iload_n C 1 rfl d_M_mustNumber_30 rfl ?_
      refine z_iload_n C 2 rfl d_M_mustNumber_31 rfl ?_
      obtain ⟨r11, h10, h⟩ := zb1_some h
      refine z_cS C (m_M_lies l h10) mf_M_lies lk_11_108 st_M_lies ⟨rfl, rfl⟩ ⟨by decide, by decide⟩ ⟨Nat.zero_le _, Nat.zero_le _⟩ rfl _ [] rfl (Nat.le_of_ble_eq_true rfl) d_M_mustNumber_32 ?_
      rcases zite h with ⟨c12, h⟩ | ⟨c12, h⟩
      · refine z_if_nef C 42 c12 d_M_mustNumber_35 (by decide) ?_
        refine zq_lsub [0] [(0, zr (some 72))] rfl ?_
        exact c_M_mustNumber_38 C hret   S h
      · refine z_if_net C 42 c12 d_M_mustNumber_35 (by decide) ?_
        refine z_aload_n C 0 rfl d_M_mustNumber_42 rfl ?_
        obtain ⟨r14, h13, h⟩ := zb1_some h
        refine z_cV C 11 (by decide) (m_M_fine l h13) mf_M_fine lk_11_181 in_M_fine se_M_fine rfl zo_72 zk_72 ⟨rfl, rfl⟩ ⟨by decide, by decide⟩ ⟨Nat.zero_le _, Nat.zero_le _⟩ rfl _ [] rfl (Nat.le_of_ble_eq_true rfl) d_M_mustNumber_43 ?_
        rcases zite h with ⟨c15, h⟩ | ⟨c15, h⟩
        · refine z_if_eqt C 59 c15 d_M_mustNumber_46 (by decide) ?_
          cases h
          exact z_vret C hret ⟨Nat.zero_le _, Nat.zero_le _⟩ d_M_mustNumber_59
        · refine z_if_eqf C 59 c15 d_M_mustNumber_46 (by decide) ?_
          refine z_aload_n C 0 rfl d_M_mustNumber_49 rfl ?_
          refine z_dup C rfl d_M_mustNumber_50 ?_
          refine z_getI C 11 (by decide) 19 (by decide) rfl zo_72 zk_72 zfl_11_185 d_M_mustNumber_51 ?_
          refine z_iconst C (1 : Int32) (by decide) d_M_mustNumber_54 ?_
          refine z_iadd C d_M_mustNumber_55 ?_
          refine z_putI C 11 (by decide) 19 (by decide) rfl (Or.inl rfl) zo_72 zk_72 zfl_11_185 (Or.inl rfl) d_M_mustNumber_56 ?_
          cases h
          exact z_vret C hret ⟨Nat.zero_le _, Nat.zero_le _⟩ d_M_mustNumber_59
    · refine z_icmp_net C 38 c8 d_M_mustNumber_18 (by decide) ?_
      refine zq_lsub [0] [(0, zr (some 72))] rfl ?_
      exact c_M_mustNumber_38 C hret   S h
def f_M_readPart_37 (c_M_readSum : Int32 → zSt → Option zSt) (fu : Nat) (a1 : Int32) (S : zSt) : Option zSt := zb1 (f_M_fine S) (fun r2 => if r2 = 0 then some S else zb1 (c_M_readSum (a1 + (1 : Int32)) (zwI S 72 19 ((zI S 72 19) + (1 : Int32)))) (fun S5 => zb1 (f_M_sign (93 : Int32)) (fun r7 => zb1 (f_M_must r7 S5) (fun S9 => some S9))))
def f_M_readPart_111 (c_M_readSum : Int32 → zSt → Option zSt) (fu : Nat) (a2 : Int32) (S : zSt) : Option zSt := zb1 (f_M_leaf S) (fun S2 => if (zI S2 72 10) = 0 then some S2 else if a2 = (14 : Int32) then zb1 (f_M_mustNumber (0 : Int32) (8 : Int32) S2) (fun S6 => some S6) else if a2 = (20 : Int32) then zb1 (f_M_mustNumber (0 : Int32) (8 : Int32) S2) (fun S9 => some S9) else some S2)
def f_M_readPart_95 (c_M_readSum : Int32 → zSt → Option zSt) (fu : Nat) (a2 : Int32) (S : zSt) : Option zSt := if a2 < (zI S 72 8) then zb1 (f_M_faults S) (fun S3 => some S3) else if (zI S 72 9) < a2 then zb1 (f_M_faults S) (fun S6 => some S6) else f_M_readPart_111 c_M_readSum fu a2 S
def f_M_readPart_o (c_M_readSum : Int32 → zSt → Option zSt) (fu : Nat) (a1 : Int32) (S : zSt) : Option zSt := zb1 (f_M_fine S) (fun r2 => if r2 = 0 then some S else zgd (0 ≤ (zI S 72 19) ∧ (zI S 72 19).toNatClampNeg < 401) (zb1 (f_M_sign (91 : Int32)) (fun r6 => if (zI S 81 (zI S 72 19).toNatClampNeg) = r6 then if a1 = (8 : Int32) then zb1 (f_M_faults S) (fun S13 => f_M_readPart_37 c_M_readSum fu a1 S13) else f_M_readPart_37 c_M_readSum fu a1 S else if (zI S 81 (zI S 72 19).toNatClampNeg) = (50 : Int32) then zgd (0 ≤ (zI S 72 19) ∧ (zI S 72 19).toNatClampNeg < 401) (if (zI S 82 (zI S 72 19).toNatClampNeg) ≤ (1000 : Int32) then f_M_readPart_111 c_M_readSum fu (zI S 81 (zI S 72 19).toNatClampNeg) S else f_M_readPart_95 c_M_readSum fu (zI S 81 (zI S 72 19).toNatClampNeg) S) else f_M_readPart_95 c_M_readSum fu (zI S 81 (zI S 72 19).toNatClampNeg) S)))
set_option maxRecDepth 100000 in
set_option maxHeartbeats 4000000 in
theorem c_M_readPart_37 {p : Program} {l : Launch} {e : Env} {s : State} {m : MethodId} {args : Array Value} {below : List Frame} {meth : Method} {c : Code} {G : zG} (C : zC p s m args meth c G b_M_readPart 3 y_M_readPart.cls) (hret : meth.sig.returnType = none) {c_M_readSum : Int32 → zSt → Option zSt} {dp : Nat} {fu : Nat} {S1 : zSt} (hc_M_readSum : ∀ (a1 : Int32) (S : zSt) (S1 : zSt), c_M_readSum a1 S = some S1 → zPM l y_M_readSum b_M_readSum 2 none (rm_g3 dp) true true [zr (some 72), zi a1] S none S1) : ∀ (a1 : Int32) (S : zSt) , f_M_readPart_37 c_M_readSum fu a1 S = some S1 → zJ p l e (rm_g3 (dp + 1)) s m args below meth c G true 3 0 0 (zQm below G args s (rm_g3 (dp + 1)) true none S1) S 37 [(0, zr (some 72)), (1, zi a1)] [] := by
  intro a1 S h
  unfold f_M_readPart_37 at h
  refine z_aload_n C 0 rfl d_M_readPart_37 rfl ?_
  obtain ⟨r2, h1, h⟩ := zb1_some h
  refine z_cV C 11 (by decide) (m_M_fine l h1) mf_M_fine lk_11_181 in_M_fine se_M_fine rfl zo_72 zk_72 ⟨rfl, rfl⟩ ⟨rm_le_M_readPart_M_fine.1, rm_le_M_readPart_M_fine.2⟩ ⟨Nat.zero_le _, Nat.zero_le _⟩ rfl _ [] rfl (Nat.le_of_ble_eq_true rfl) d_M_readPart_38 ?_
  rcases zite h with ⟨c3, h⟩ | ⟨c3, h⟩
  · refine z_if_nef C 45 c3 d_M_readPart_41 (by decide) ?_
    cases h
    exact z_vret C hret ⟨Nat.zero_le _, Nat.zero_le _⟩ d_M_readPart_44
  · refine z_if_net C 45 c3 d_M_readPart_41 (by decide) ?_
    refine z_aload_n C 0 rfl d_M_readPart_45 rfl ?_
    refine z_dup C rfl d_M_readPart_46 ?_
    refine z_getI C 11 (by decide) 19 (by decide) rfl zo_72 zk_72 zfl_11_185 d_M_readPart_47 ?_
    refine z_iconst C (1 : Int32) (by decide) d_M_readPart_50 ?_
    refine z_iadd C d_M_readPart_51 ?_
    refine z_putI C 11 (by decide) 19 (by decide) rfl (Or.inl rfl) zo_72 zk_72 zfl_11_185 (Or.inl rfl) d_M_readPart_52 ?_
    refine z_aload_n C 0 rfl d_M_readPart_55 rfl ?_
    refine z_iload_n C 1 rfl d_M_readPart_56 rfl ?_
    refine z_iconst C (1 : Int32) (by decide) d_M_readPart_57 ?_
    refine z_iadd C d_M_readPart_58 ?_
    obtain ⟨S5, h4, h⟩ := zb1_some h
    refine z_cV C 11 (by decide) (hc_M_readSum (a1 + (1 : Int32)) (zwI S 72 19 ((zI S 72 19) + (1 : Int32))) _ h4) mf_M_readSum lk_11_197 in_M_readSum se_M_readSum rfl zo_72 zk_72 ⟨rfl, rfl⟩ ⟨rm_le_M_readPart_M_readSum.1, rm_le_M_readPart_M_readSum.2⟩ ⟨Nat.zero_le _, Nat.zero_le _⟩ rfl _ [] rfl (Nat.le_of_ble_eq_true rfl) d_M_readPart_59 ?_
    refine z_aload_n C 0 rfl d_M_readPart_62 rfl ?_
    refine z_bipush C (93 : Int32) (by decide) d_M_readPart_63 ?_
    obtain ⟨r7, h6, h⟩ := zb1_some h
    refine z_cS C (m_M_sign l h6) mf_M_sign lk_11_227 st_M_sign ⟨rfl, rfl⟩ ⟨rm_le_M_readPart_M_sign.1, rm_le_M_readPart_M_sign.2⟩ ⟨Nat.zero_le _, Nat.zero_le _⟩ rfl _ [zr (some 72)] rfl (Nat.le_of_ble_eq_true rfl) d_M_readPart_65 ?_
    obtain ⟨S9, h8, h⟩ := zb1_some h
    refine z_cV C 11 (by decide) (m_M_must l h8) mf_M_must lk_11_201 in_M_must se_M_must rfl zo_72 zk_72 ⟨rfl, rfl⟩ ⟨rm_le_M_readPart_M_must.1, rm_le_M_readPart_M_must.2⟩ ⟨Nat.zero_le _, Nat.zero_le _⟩ rfl _ [] rfl (Nat.le_of_ble_eq_true rfl) d_M_readPart_68 ?_
    refine z_goto C 148 d_M_readPart_71 (by decide) ?_
    cases h
    exact z_vret C hret ⟨Nat.zero_le _, Nat.zero_le _⟩ d_M_readPart_148
set_option maxRecDepth 100000 in
set_option maxHeartbeats 4000000 in
theorem c_M_readPart_111 {p : Program} {l : Launch} {e : Env} {s : State} {m : MethodId} {args : Array Value} {below : List Frame} {meth : Method} {c : Code} {G : zG} (C : zC p s m args meth c G b_M_readPart 3 y_M_readPart.cls) (hret : meth.sig.returnType = none) {c_M_readSum : Int32 → zSt → Option zSt} {dp : Nat} {fu : Nat} {S1 : zSt} (hc_M_readSum : ∀ (a1 : Int32) (S : zSt) (S1 : zSt), c_M_readSum a1 S = some S1 → zPM l y_M_readSum b_M_readSum 2 none (rm_g3 dp) true true [zr (some 72), zi a1] S none S1) : ∀ (a2 : Int32) (S : zSt) , f_M_readPart_111 c_M_readSum fu a2 S = some S1 → zJ p l e (rm_g3 (dp + 1)) s m args below meth c G true 3 0 0 (zQm below G args s (rm_g3 (dp + 1)) true none S1) S 111 [(0, zr (some 72)), (2, zi a2)] [] := by
  intro a2 S h
  unfold f_M_readPart_111 at h
  refine z_aload_n C 0 rfl d_M_readPart_111 rfl ?_
  obtain ⟨S2, h1, h⟩ := zb1_some h
  refine z_cV C 11 (by decide) (m_M_leaf l h1) mf_M_leaf lk_11_243 in_M_leaf se_M_leaf rfl zo_72 zk_72 ⟨rfl, rfl⟩ ⟨rm_le_M_readPart_M_leaf.1, rm_le_M_readPart_M_leaf.2⟩ ⟨Nat.zero_le _, Nat.zero_le _⟩ rfl _ [] rfl (Nat.le_of_ble_eq_true rfl) d_M_readPart_112 ?_
  refine z_aload_n C 0 rfl d_M_readPart_115 rfl ?_
  refine z_getI C 11 (by decide) 10 (by decide) rfl zo_72 zk_72 zfl_11_211 d_M_readPart_116 ?_
  rcases zite h with ⟨c3, h⟩ | ⟨c3, h⟩
  · refine z_if_eqt C 148 c3 d_M_readPart_119 (by decide) ?_
    cases h
    exact z_vret C hret ⟨Nat.zero_le _, Nat.zero_le _⟩ d_M_readPart_148
  · refine z_if_eqf C 148 c3 d_M_readPart_119 (by decide) ?_
    refine z_iload_n C 1 rfl d_M_readPart_122 rfl ?_
    refine z_bipush C (14 : Int32) (by decide) d_M_readPart_123 ?_
    rcases zite h with ⟨c4, h⟩ | ⟨c4, h⟩
    · refine z_icmp_eqt C 134 c4 d_M_readPart_125 (by decide) ?_
      refine z_aload_n C 0 rfl d_M_readPart_134 rfl ?_
      refine z_iconst C (0 : Int32) (by decide) d_M_readPart_135 ?_
      refine z_bipush C (8 : Int32) (by decide) d_M_readPart_136 ?_
      obtain ⟨S6, h5, h⟩ := zb1_some h
      refine z_cV C 11 (by decide) (m_M_mustNumber l h5) mf_M_mustNumber lk_11_207 in_M_mustNumber se_M_mustNumber rfl zo_72 zk_72 ⟨rfl, rfl⟩ ⟨rm_le_M_readPart_M_mustNumber.1, rm_le_M_readPart_M_mustNumber.2⟩ ⟨Nat.zero_le _, Nat.zero_le _⟩ rfl _ [] rfl (Nat.le_of_ble_eq_true rfl) d_M_readPart_138 ?_
      refine z_goto C 148 d_M_readPart_141 (by decide) ?_
      cases h
      exact z_vret C hret ⟨Nat.zero_le _, Nat.zero_le _⟩ d_M_readPart_148
    · refine z_icmp_eqf C 134 c4 d_M_readPart_125 (by decide) ?_
      refine z_iload_n C 1 rfl d_M_readPart_128 rfl ?_
      refine z_bipush C (20 : Int32) (by decide) d_M_readPart_129 ?_
      rcases zite h with ⟨c7, h⟩ | ⟨c7, h⟩
      · refine z_icmp_nef C 148 c7 d_M_readPart_131 (by decide) ?_
        refine z_aload_n C 0 rfl d_M_readPart_134 rfl ?_
        refine z_iconst C (0 : Int32) (by decide) d_M_readPart_135 ?_
        refine z_bipush C (8 : Int32) (by decide) d_M_readPart_136 ?_
        obtain ⟨S9, h8, h⟩ := zb1_some h
        refine z_cV C 11 (by decide) (m_M_mustNumber l h8) mf_M_mustNumber lk_11_207 in_M_mustNumber se_M_mustNumber rfl zo_72 zk_72 ⟨rfl, rfl⟩ ⟨rm_le_M_readPart_M_mustNumber.1, rm_le_M_readPart_M_mustNumber.2⟩ ⟨Nat.zero_le _, Nat.zero_le _⟩ rfl _ [] rfl (Nat.le_of_ble_eq_true rfl) d_M_readPart_138 ?_
        refine z_goto C 148 d_M_readPart_141 (by decide) ?_
        cases h
        exact z_vret C hret ⟨Nat.zero_le _, Nat.zero_le _⟩ d_M_readPart_148
      · refine z_icmp_net C 148 c7 d_M_readPart_131 (by decide) ?_
        cases h
        exact z_vret C hret ⟨Nat.zero_le _, Nat.zero_le _⟩ d_M_readPart_148
set_option maxRecDepth 100000 in
set_option maxHeartbeats 4000000 in
theorem c_M_readPart_95 {p : Program} {l : Launch} {e : Env} {s : State} {m : MethodId} {args : Array Value} {below : List Frame} {meth : Method} {c : Code} {G : zG} (C : zC p s m args meth c G b_M_readPart 3 y_M_readPart.cls) (hret : meth.sig.returnType = none) {c_M_readSum : Int32 → zSt → Option zSt} {dp : Nat} {fu : Nat} {S1 : zSt} (hc_M_readSum : ∀ (a1 : Int32) (S : zSt) (S1 : zSt), c_M_readSum a1 S = some S1 → zPM l y_M_readSum b_M_readSum 2 none (rm_g3 dp) true true [zr (some 72), zi a1] S none S1) : ∀ (a2 : Int32) (S : zSt) , f_M_readPart_95 c_M_readSum fu a2 S = some S1 → zJ p l e (rm_g3 (dp + 1)) s m args below meth c G true 3 0 0 (zQm below G args s (rm_g3 (dp + 1)) true none S1) S 95 [(0, zr (some 72)), (2, zi a2)] [] := by
  intro a2 S h
  unfold f_M_readPart_95 at h
  refine z_iload_n C 1 rfl d_M_readPart_95 rfl ?_
  refine z_aload_n C 0 rfl d_M_readPart_96 rfl ?_
  refine z_getI C 11 (by decide) 8 (by decide) rfl zo_72 zk_72 zfl_11_237 d_M_readPart_97 ?_
  rcases zite h with ⟨c1, h⟩ | ⟨c1, h⟩
  · refine z_icmp_ltt C 144 c1 d_M_readPart_100 (by decide) ?_
    refine z_aload_n C 0 rfl d_M_readPart_144 rfl ?_
    obtain ⟨S3, h2, h⟩ := zb1_some h
    refine z_cV C 11 (by decide) (m_M_faults l h2) mf_M_faults lk_11_191 in_M_faults se_M_faults rfl zo_72 zk_72 ⟨rfl, rfl⟩ ⟨rm_le_M_readPart_M_faults.1, rm_le_M_readPart_M_faults.2⟩ ⟨Nat.zero_le _, Nat.zero_le _⟩ rfl _ [] rfl (Nat.le_of_ble_eq_true rfl) d_M_readPart_145 ?_
    cases h
    exact z_vret C hret ⟨Nat.zero_le _, Nat.zero_le _⟩ d_M_readPart_148
  · refine z_icmp_ltf C 144 c1 d_M_readPart_100 (by decide) ?_
    refine z_iload_n C 1 rfl d_M_readPart_103 rfl ?_
    refine z_aload_n C 0 rfl d_M_readPart_104 rfl ?_
    refine z_getI C 11 (by decide) 9 (by decide) rfl zo_72 zk_72 zfl_11_240 d_M_readPart_105 ?_
    rcases zite h with ⟨c4, h⟩ | ⟨c4, h⟩
    · refine z_icmp_gtt C 144 c4 d_M_readPart_108 (by decide) ?_
      refine z_aload_n C 0 rfl d_M_readPart_144 rfl ?_
      obtain ⟨S6, h5, h⟩ := zb1_some h
      refine z_cV C 11 (by decide) (m_M_faults l h5) mf_M_faults lk_11_191 in_M_faults se_M_faults rfl zo_72 zk_72 ⟨rfl, rfl⟩ ⟨rm_le_M_readPart_M_faults.1, rm_le_M_readPart_M_faults.2⟩ ⟨Nat.zero_le _, Nat.zero_le _⟩ rfl _ [] rfl (Nat.le_of_ble_eq_true rfl) d_M_readPart_145 ?_
      cases h
      exact z_vret C hret ⟨Nat.zero_le _, Nat.zero_le _⟩ d_M_readPart_148
    · refine z_icmp_gtf C 144 c4 d_M_readPart_108 (by decide) ?_
      refine zq_lsub [0, 1] [(0, zr (some 72)), (2, zi a2)] rfl ?_
      exact c_M_readPart_111 C hret hc_M_readSum  a2 S h
set_option maxRecDepth 100000 in
set_option maxHeartbeats 4000000 in
theorem m_M_readPart_o (l : Launch) {c_M_readSum : Int32 → zSt → Option zSt} {dp : Nat} {fu : Nat} {a1 : Int32} {S : zSt} {S1 : zSt} (hc_M_readSum : ∀ (a1 : Int32) (S : zSt) (S1 : zSt), c_M_readSum a1 S = some S1 → zPM l y_M_readSum b_M_readSum 2 none (rm_g3 dp) true true [zr (some 72), zi a1] S none S1) (h : f_M_readPart_o c_M_readSum fu a1 S = some S1) : zPM l y_M_readPart b_M_readPart 3 none (rm_g3 (dp + 1)) true true [zr (some 72), zi a1] S none S1 := by
  refine zPM_of (by decide) (Nat.le_of_ble_eq_true rfl) (fun p e s m args below meth c G C hret hname => ?_)
  unfold f_M_readPart_o at h
  refine (?_ : zJ p l e (rm_g3 (dp + 1)) s m args below meth c G true 3 0 0 (zQm below G args s (rm_g3 (dp + 1)) true none S1) S 0 [(0, zr (some 72)), (1, zi a1)] [])
  refine z_aload_n C 0 rfl d_M_readPart_0 rfl ?_
  obtain ⟨r2, h1, h⟩ := zb1_some h
  refine z_cV C 11 (by decide) (m_M_fine l h1) mf_M_fine lk_11_181 in_M_fine se_M_fine rfl zo_72 zk_72 ⟨rfl, rfl⟩ ⟨rm_le_M_readPart_M_fine.1, rm_le_M_readPart_M_fine.2⟩ ⟨Nat.zero_le _, Nat.zero_le _⟩ rfl _ [] rfl (Nat.le_of_ble_eq_true rfl) d_M_readPart_1 ?_
  rcases zite h with ⟨c3, h⟩ | ⟨c3, h⟩
  · refine z_if_nef C 8 c3 d_M_readPart_4 (by decide) ?_
    cases h
    exact z_vret C hret ⟨Nat.zero_le _, Nat.zero_le _⟩ d_M_readPart_7
  · refine z_if_net C 8 c3 d_M_readPart_4 (by decide) ?_
    refine z_aload_n C 0 rfl d_M_readPart_8 rfl ?_
    refine z_getF2 C 11 (by decide) 15 (by decide) rfl 9 401 rfl (81) rfl zp_72 zk_72 zfl_11_50 d_M_readPart_9 ?_
    refine z_aload_n C 0 rfl d_M_readPart_12 rfl ?_
    refine z_getI C 11 (by decide) 19 (by decide) rfl zo_72 zk_72 zfl_11_185 d_M_readPart_13 ?_
    refine z_fact (fun hSR => ?_)
    obtain ⟨g4, h⟩ := zgd_some h
    refine z_ialoadS C zo_81 zk_81 (za_81 hSR) g4 d_M_readPart_16 ?_
    refine z_istore_n C [(2, zi (zI S 81 (zI S 72 19).toNatClampNeg)), (0, zr (some 72)), (1, zi a1)] d_M_readPart_17 rfl (by decide) rfl ?_
    refine z_iload_n C 0 rfl d_M_readPart_18 rfl ?_
    refine z_bipush C (91 : Int32) (by decide) d_M_readPart_19 ?_
    obtain ⟨r6, h5, h⟩ := zb1_some h
    refine z_cS C (m_M_sign l h5) mf_M_sign lk_11_227 st_M_sign ⟨rfl, rfl⟩ ⟨rm_le_M_readPart_M_sign.1, rm_le_M_readPart_M_sign.2⟩ ⟨Nat.zero_le _, Nat.zero_le _⟩ rfl _ [zi (zI S 81 (zI S 72 19).toNatClampNeg)] rfl (Nat.le_of_ble_eq_true rfl) d_M_readPart_21 ?_
    rcases zite h with ⟨c7, h⟩ | ⟨c7, h⟩
    · refine z_icmp_nef C 74 c7 d_M_readPart_24 (by decide) ?_
      refine z_iload_n C 2 rfl d_M_readPart_27 rfl ?_
      refine z_bipush C (8 : Int32) (by decide) d_M_readPart_28 ?_
      rcases zite h with ⟨c11, h⟩ | ⟨c11, h⟩
      · refine z_icmp_nef C 37 c11 d_M_readPart_30 (by decide) ?_
        refine z_aload_n C 1 rfl d_M_readPart_33 rfl ?_
        obtain ⟨S13, h12, h⟩ := zb1_some h
        refine z_cV C 11 (by decide) (m_M_faults l h12) mf_M_faults lk_11_191 in_M_faults se_M_faults rfl zo_72 zk_72 ⟨rfl, rfl⟩ ⟨rm_le_M_readPart_M_faults.1, rm_le_M_readPart_M_faults.2⟩ ⟨Nat.zero_le _, Nat.zero_le _⟩ rfl _ [] rfl (Nat.le_of_ble_eq_true rfl) d_M_readPart_34 ?_
        refine zq_lsub [1, 2] [(0, zr (some 72)), (1, zi a1)] rfl ?_
        exact c_M_readPart_37 C hret hc_M_readSum  a1 S13 h
      · refine z_icmp_net C 37 c11 d_M_readPart_30 (by decide) ?_
        refine zq_lsub [1, 2] [(0, zr (some 72)), (1, zi a1)] rfl ?_
        exact c_M_readPart_37 C hret hc_M_readSum  a1 S h
    · refine z_icmp_net C 74 c7 d_M_readPart_24 (by decide) ?_
      refine z_iload_n C 0 rfl d_M_readPart_74 rfl ?_
      refine z_bipush C (50 : Int32) (by decide) d_M_readPart_75 ?_
      rcases zite h with ⟨c8, h⟩ | ⟨c8, h⟩
      · refine z_icmp_nef C 95 c8 d_M_readPart_77 (by decide) ?_
        refine z_aload_n C 1 rfl d_M_readPart_80 rfl ?_
        refine z_getF2 C 11 (by decide) 16 (by decide) rfl 10 401 rfl (82) rfl zp_72 zk_72 zfl_11_53 d_M_readPart_81 ?_
        refine z_aload_n C 1 rfl d_M_readPart_84 rfl ?_
        refine z_getI C 11 (by decide) 19 (by decide) rfl zo_72 zk_72 zfl_11_185 d_M_readPart_85 ?_
        refine z_fact (fun hSR => ?_)
        obtain ⟨g9, h⟩ := zgd_some h
        refine z_ialoadS C zo_82 zk_82 (za_82 hSR) g9 d_M_readPart_88 ?_
        refine z_sipush C (1000 : Int32) (by decide) d_M_readPart_89 ?_
        rcases zite h with ⟨c10, h⟩ | ⟨c10, h⟩
        · refine z_icmp_let C 111 c10 d_M_readPart_92 (by decide) ?_
          refine zq_lsub [1, 0] [(0, zr (some 72)), (2, zi (zI S 81 (zI S 72 19).toNatClampNeg))] rfl ?_
          exact c_M_readPart_111 C hret hc_M_readSum  (zI S 81 (zI S 72 19).toNatClampNeg) S h
        · refine z_icmp_lef C 111 c10 d_M_readPart_92 (by decide) ?_
          refine zq_lsub [1, 0] [(0, zr (some 72)), (2, zi (zI S 81 (zI S 72 19).toNatClampNeg))] rfl ?_
          exact c_M_readPart_95 C hret hc_M_readSum  (zI S 81 (zI S 72 19).toNatClampNeg) S h
      · refine z_icmp_net C 95 c8 d_M_readPart_77 (by decide) ?_
        refine zq_lsub [1, 0] [(0, zr (some 72)), (2, zi (zI S 81 (zI S 72 19).toNatClampNeg))] rfl ?_
        exact c_M_readPart_95 C hret hc_M_readSum  (zI S 81 (zI S 72 19).toNatClampNeg) S h
def f_M_readTerm_5 (c_M_readPart : Int32 → zSt → Option zSt) (fu : Nat) : Nat → Int32 → zSt → Option zSt
  | 0, _, _ => none
  | n + 1, a1, S => zb1 (f_M_sign (42 : Int32)) (fun r2 => zb2 (f_M_takes0 r2 S) (fun r4 S5 => if r4 = 0 then zb1 (f_M_sign (47 : Int32)) (fun r10 => zb2 (f_M_takes0 r10 S5) (fun r12 S13 => if r12 = 0 then zb1 (f_M_sign (37 : Int32)) (fun r18 => zb2 (f_M_takes0 r18 S13) (fun r20 S21 => if r20 = 0 then some S21 else zb1 (c_M_readPart a1 S21) (fun S24 => f_M_readTerm_5 c_M_readPart fu n a1 S24))) else zb1 (c_M_readPart a1 S13) (fun S16 => f_M_readTerm_5 c_M_readPart fu n a1 S16))) else zb1 (c_M_readPart a1 S5) (fun S8 => f_M_readTerm_5 c_M_readPart fu n a1 S8)))
def f_M_readTerm_o (c_M_readPart : Int32 → zSt → Option zSt) (fu : Nat) (a1 : Int32) (S : zSt) : Option zSt := zb1 (c_M_readPart a1 S) (fun S2 => f_M_readTerm_5 c_M_readPart fu fu a1 S2)
set_option maxRecDepth 100000 in
set_option maxHeartbeats 4000000 in
theorem c_M_readTerm_5 {p : Program} {l : Launch} {e : Env} {s : State} {m : MethodId} {args : Array Value} {below : List Frame} {meth : Method} {c : Code} {G : zG} (C : zC p s m args meth c G b_M_readTerm 2 y_M_readTerm.cls) (hret : meth.sig.returnType = none) {c_M_readPart : Int32 → zSt → Option zSt} {dp : Nat} {fu : Nat} {S1 : zSt} (hc_M_readPart : ∀ (a1 : Int32) (S : zSt) (S1 : zSt), c_M_readPart a1 S = some S1 → zPM l y_M_readPart b_M_readPart 3 none (rm_g3 dp) true true [zr (some 72), zi a1] S none S1) : ∀ (n : Nat) (a1 : Int32) (S : zSt) , f_M_readTerm_5 c_M_readPart fu n a1 S = some S1 → zJ p l e (rm_g3 (dp + 1)) s m args below meth c G true 2 0 0 (zQm below G args s (rm_g3 (dp + 1)) true none S1) S 5 [(0, zr (some 72)), (1, zi a1)] [] := by
  intro n
  induction n with
  | zero =>
    intro a1 S h
    cases h
  | succ n ih =>
    intro a1 S h
    rw [f_M_readTerm_5] at h
    refine z_aload_n C 0 rfl d_M_readTerm_5 rfl ?_
    refine z_bipush C (42 : Int32) (by decide) d_M_readTerm_6 ?_
    obtain ⟨r2, h1, h⟩ := zb1_some h
    refine z_cS C (m_M_sign l h1) mf_M_sign lk_11_227 st_M_sign ⟨rfl, rfl⟩ ⟨rm_le_M_readTerm_M_sign.1, rm_le_M_readTerm_M_sign.2⟩ ⟨Nat.zero_le _, Nat.zero_le _⟩ rfl _ [zr (some 72)] rfl (Nat.le_of_ble_eq_true rfl) d_M_readTerm_8 ?_
    obtain ⟨r4, S5, h3, h⟩ := zb2_some h
    refine z_cV C 11 (by decide) (m_M_takes0 l h3) mf_M_takes0 lk_11_188 in_M_takes0 se_M_takes0 rfl zo_72 zk_72 ⟨rfl, rfl⟩ ⟨rm_le_M_readTerm_M_takes0.1, rm_le_M_readTerm_M_takes0.2⟩ ⟨Nat.zero_le _, Nat.zero_le _⟩ rfl _ [] rfl (Nat.le_of_ble_eq_true rfl) d_M_readTerm_11 ?_
    rcases zite h with ⟨c6, h⟩ | ⟨c6, h⟩
    · refine z_if_nef C 41 c6 d_M_readTerm_14 (by decide) ?_
      refine z_aload_n C 0 rfl d_M_readTerm_17 rfl ?_
      refine z_bipush C (47 : Int32) (by decide) d_M_readTerm_18 ?_
      obtain ⟨r10, h9, h⟩ := zb1_some h
      refine z_cS C (m_M_sign l h9) mf_M_sign lk_11_227 st_M_sign ⟨rfl, rfl⟩ ⟨rm_le_M_readTerm_M_sign.1, rm_le_M_readTerm_M_sign.2⟩ ⟨Nat.zero_le _, Nat.zero_le _⟩ rfl _ [zr (some 72)] rfl (Nat.le_of_ble_eq_true rfl) d_M_readTerm_20 ?_
      obtain ⟨r12, S13, h11, h⟩ := zb2_some h
      refine z_cV C 11 (by decide) (m_M_takes0 l h11) mf_M_takes0 lk_11_188 in_M_takes0 se_M_takes0 rfl zo_72 zk_72 ⟨rfl, rfl⟩ ⟨rm_le_M_readTerm_M_takes0.1, rm_le_M_readTerm_M_takes0.2⟩ ⟨Nat.zero_le _, Nat.zero_le _⟩ rfl _ [] rfl (Nat.le_of_ble_eq_true rfl) d_M_readTerm_23 ?_
      rcases zite h with ⟨c14, h⟩ | ⟨c14, h⟩
      · refine z_if_nef C 41 c14 d_M_readTerm_26 (by decide) ?_
        refine z_aload_n C 0 rfl d_M_readTerm_29 rfl ?_
        refine z_bipush C (37 : Int32) (by decide) d_M_readTerm_30 ?_
        obtain ⟨r18, h17, h⟩ := zb1_some h
        refine z_cS C (m_M_sign l h17) mf_M_sign lk_11_227 st_M_sign ⟨rfl, rfl⟩ ⟨rm_le_M_readTerm_M_sign.1, rm_le_M_readTerm_M_sign.2⟩ ⟨Nat.zero_le _, Nat.zero_le _⟩ rfl _ [zr (some 72)] rfl (Nat.le_of_ble_eq_true rfl) d_M_readTerm_32 ?_
        obtain ⟨r20, S21, h19, h⟩ := zb2_some h
        refine z_cV C 11 (by decide) (m_M_takes0 l h19) mf_M_takes0 lk_11_188 in_M_takes0 se_M_takes0 rfl zo_72 zk_72 ⟨rfl, rfl⟩ ⟨rm_le_M_readTerm_M_takes0.1, rm_le_M_readTerm_M_takes0.2⟩ ⟨Nat.zero_le _, Nat.zero_le _⟩ rfl _ [] rfl (Nat.le_of_ble_eq_true rfl) d_M_readTerm_35 ?_
        rcases zite h with ⟨c22, h⟩ | ⟨c22, h⟩
        · refine z_if_eqt C 49 c22 d_M_readTerm_38 (by decide) ?_
          cases h
          exact z_vret C hret ⟨Nat.zero_le _, Nat.zero_le _⟩ d_M_readTerm_49
        · refine z_if_eqf C 49 c22 d_M_readTerm_38 (by decide) ?_
          refine z_aload_n C 0 rfl d_M_readTerm_41 rfl ?_
          refine z_iload_n C 1 rfl d_M_readTerm_42 rfl ?_
          obtain ⟨S24, h23, h⟩ := zb1_some h
          refine z_cV C 11 (by decide) (hc_M_readPart a1 S21 _ h23) mf_M_readPart lk_11_234 in_M_readPart se_M_readPart rfl zo_72 zk_72 ⟨rfl, rfl⟩ ⟨rm_le_M_readTerm_M_readPart.1, rm_le_M_readTerm_M_readPart.2⟩ ⟨Nat.zero_le _, Nat.zero_le _⟩ rfl _ [] rfl (Nat.le_of_ble_eq_true rfl) d_M_readTerm_43 ?_
          refine z_goto C 5 d_M_readTerm_46 (by decide) ?_
          refine zq_lsub [0, 1] [(0, zr (some 72)), (1, zi a1)] rfl ?_
          exact ih a1 S24 h
      · refine z_if_net C 41 c14 d_M_readTerm_26 (by decide) ?_
        refine z_aload_n C 0 rfl d_M_readTerm_41 rfl ?_
        refine z_iload_n C 1 rfl d_M_readTerm_42 rfl ?_
        obtain ⟨S16, h15, h⟩ := zb1_some h
        refine z_cV C 11 (by decide) (hc_M_readPart a1 S13 _ h15) mf_M_readPart lk_11_234 in_M_readPart se_M_readPart rfl zo_72 zk_72 ⟨rfl, rfl⟩ ⟨rm_le_M_readTerm_M_readPart.1, rm_le_M_readTerm_M_readPart.2⟩ ⟨Nat.zero_le _, Nat.zero_le _⟩ rfl _ [] rfl (Nat.le_of_ble_eq_true rfl) d_M_readTerm_43 ?_
        refine z_goto C 5 d_M_readTerm_46 (by decide) ?_
        refine zq_lsub [0, 1] [(0, zr (some 72)), (1, zi a1)] rfl ?_
        exact ih a1 S16 h
    · refine z_if_net C 41 c6 d_M_readTerm_14 (by decide) ?_
      refine z_aload_n C 0 rfl d_M_readTerm_41 rfl ?_
      refine z_iload_n C 1 rfl d_M_readTerm_42 rfl ?_
      obtain ⟨S8, h7, h⟩ := zb1_some h
      refine z_cV C 11 (by decide) (hc_M_readPart a1 S5 _ h7) mf_M_readPart lk_11_234 in_M_readPart se_M_readPart rfl zo_72 zk_72 ⟨rfl, rfl⟩ ⟨rm_le_M_readTerm_M_readPart.1, rm_le_M_readTerm_M_readPart.2⟩ ⟨Nat.zero_le _, Nat.zero_le _⟩ rfl _ [] rfl (Nat.le_of_ble_eq_true rfl) d_M_readTerm_43 ?_
      refine z_goto C 5 d_M_readTerm_46 (by decide) ?_
      refine zq_lsub [0, 1] [(0, zr (some 72)), (1, zi a1)] rfl ?_
      exact ih a1 S8 h
set_option maxRecDepth 100000 in
set_option maxHeartbeats 4000000 in
theorem m_M_readTerm_o (l : Launch) {c_M_readPart : Int32 → zSt → Option zSt} {dp : Nat} {fu : Nat} {a1 : Int32} {S : zSt} {S1 : zSt} (hc_M_readPart : ∀ (a1 : Int32) (S : zSt) (S1 : zSt), c_M_readPart a1 S = some S1 → zPM l y_M_readPart b_M_readPart 3 none (rm_g3 dp) true true [zr (some 72), zi a1] S none S1) (h : f_M_readTerm_o c_M_readPart fu a1 S = some S1) : zPM l y_M_readTerm b_M_readTerm 2 none (rm_g3 (dp + 1)) true true [zr (some 72), zi a1] S none S1 := by
  refine zPM_of (by decide) (Nat.le_of_ble_eq_true rfl) (fun p e s m args below meth c G C hret hname => ?_)
  unfold f_M_readTerm_o at h
  refine (?_ : zJ p l e (rm_g3 (dp + 1)) s m args below meth c G true 2 0 0 (zQm below G args s (rm_g3 (dp + 1)) true none S1) S 0 [(0, zr (some 72)), (1, zi a1)] [])
  refine z_aload_n C 0 rfl d_M_readTerm_0 rfl ?_
  refine z_iload_n C 1 rfl d_M_readTerm_1 rfl ?_
  obtain ⟨S2, h1, h⟩ := zb1_some h
  refine z_cV C 11 (by decide) (hc_M_readPart a1 S _ h1) mf_M_readPart lk_11_234 in_M_readPart se_M_readPart rfl zo_72 zk_72 ⟨rfl, rfl⟩ ⟨rm_le_M_readTerm_M_readPart.1, rm_le_M_readTerm_M_readPart.2⟩ ⟨Nat.zero_le _, Nat.zero_le _⟩ rfl _ [] rfl (Nat.le_of_ble_eq_true rfl) d_M_readTerm_2 ?_
  refine zq_lsub [0, 1] [(0, zr (some 72)), (1, zi a1)] rfl ?_
  exact c_M_readTerm_5 C hret hc_M_readPart fu  a1 S2 h
def f_M_readSum_5 (c_M_readTerm : Int32 → zSt → Option zSt) (fu : Nat) : Nat → Int32 → zSt → Option zSt
  | 0, _, _ => none
  | n + 1, a1, S => zb1 (f_M_sign (43 : Int32)) (fun r2 => zb2 (f_M_takes0 r2 S) (fun r4 S5 => if r4 = 0 then zb1 (f_M_sign (45 : Int32)) (fun r10 => zb2 (f_M_takes0 r10 S5) (fun r12 S13 => if r12 = 0 then some S13 else zb1 (c_M_readTerm a1 S13) (fun S16 => f_M_readSum_5 c_M_readTerm fu n a1 S16))) else zb1 (c_M_readTerm a1 S5) (fun S8 => f_M_readSum_5 c_M_readTerm fu n a1 S8)))
def f_M_readSum_o (c_M_readTerm : Int32 → zSt → Option zSt) (fu : Nat) (a1 : Int32) (S : zSt) : Option zSt := zb1 (c_M_readTerm a1 S) (fun S2 => f_M_readSum_5 c_M_readTerm fu fu a1 S2)
set_option maxRecDepth 100000 in
set_option maxHeartbeats 4000000 in
theorem c_M_readSum_5 {p : Program} {l : Launch} {e : Env} {s : State} {m : MethodId} {args : Array Value} {below : List Frame} {meth : Method} {c : Code} {G : zG} (C : zC p s m args meth c G b_M_readSum 2 y_M_readSum.cls) (hret : meth.sig.returnType = none) {c_M_readTerm : Int32 → zSt → Option zSt} {dp : Nat} {fu : Nat} {S1 : zSt} (hc_M_readTerm : ∀ (a1 : Int32) (S : zSt) (S1 : zSt), c_M_readTerm a1 S = some S1 → zPM l y_M_readTerm b_M_readTerm 2 none (rm_g3 dp) true true [zr (some 72), zi a1] S none S1) : ∀ (n : Nat) (a1 : Int32) (S : zSt) , f_M_readSum_5 c_M_readTerm fu n a1 S = some S1 → zJ p l e (rm_g3 (dp + 1)) s m args below meth c G true 2 0 0 (zQm below G args s (rm_g3 (dp + 1)) true none S1) S 5 [(0, zr (some 72)), (1, zi a1)] [] := by
  intro n
  induction n with
  | zero =>
    intro a1 S h
    cases h
  | succ n ih =>
    intro a1 S h
    rw [f_M_readSum_5] at h
    refine z_aload_n C 0 rfl d_M_readSum_5 rfl ?_
    refine z_bipush C (43 : Int32) (by decide) d_M_readSum_6 ?_
    obtain ⟨r2, h1, h⟩ := zb1_some h
    refine z_cS C (m_M_sign l h1) mf_M_sign lk_11_227 st_M_sign ⟨rfl, rfl⟩ ⟨rm_le_M_readSum_M_sign.1, rm_le_M_readSum_M_sign.2⟩ ⟨Nat.zero_le _, Nat.zero_le _⟩ rfl _ [zr (some 72)] rfl (Nat.le_of_ble_eq_true rfl) d_M_readSum_8 ?_
    obtain ⟨r4, S5, h3, h⟩ := zb2_some h
    refine z_cV C 11 (by decide) (m_M_takes0 l h3) mf_M_takes0 lk_11_188 in_M_takes0 se_M_takes0 rfl zo_72 zk_72 ⟨rfl, rfl⟩ ⟨rm_le_M_readSum_M_takes0.1, rm_le_M_readSum_M_takes0.2⟩ ⟨Nat.zero_le _, Nat.zero_le _⟩ rfl _ [] rfl (Nat.le_of_ble_eq_true rfl) d_M_readSum_11 ?_
    rcases zite h with ⟨c6, h⟩ | ⟨c6, h⟩
    · refine z_if_nef C 29 c6 d_M_readSum_14 (by decide) ?_
      refine z_aload_n C 0 rfl d_M_readSum_17 rfl ?_
      refine z_bipush C (45 : Int32) (by decide) d_M_readSum_18 ?_
      obtain ⟨r10, h9, h⟩ := zb1_some h
      refine z_cS C (m_M_sign l h9) mf_M_sign lk_11_227 st_M_sign ⟨rfl, rfl⟩ ⟨rm_le_M_readSum_M_sign.1, rm_le_M_readSum_M_sign.2⟩ ⟨Nat.zero_le _, Nat.zero_le _⟩ rfl _ [zr (some 72)] rfl (Nat.le_of_ble_eq_true rfl) d_M_readSum_20 ?_
      obtain ⟨r12, S13, h11, h⟩ := zb2_some h
      refine z_cV C 11 (by decide) (m_M_takes0 l h11) mf_M_takes0 lk_11_188 in_M_takes0 se_M_takes0 rfl zo_72 zk_72 ⟨rfl, rfl⟩ ⟨rm_le_M_readSum_M_takes0.1, rm_le_M_readSum_M_takes0.2⟩ ⟨Nat.zero_le _, Nat.zero_le _⟩ rfl _ [] rfl (Nat.le_of_ble_eq_true rfl) d_M_readSum_23 ?_
      rcases zite h with ⟨c14, h⟩ | ⟨c14, h⟩
      · refine z_if_eqt C 37 c14 d_M_readSum_26 (by decide) ?_
        cases h
        exact z_vret C hret ⟨Nat.zero_le _, Nat.zero_le _⟩ d_M_readSum_37
      · refine z_if_eqf C 37 c14 d_M_readSum_26 (by decide) ?_
        refine z_aload_n C 0 rfl d_M_readSum_29 rfl ?_
        refine z_iload_n C 1 rfl d_M_readSum_30 rfl ?_
        obtain ⟨S16, h15, h⟩ := zb1_some h
        refine z_cV C 11 (by decide) (hc_M_readTerm a1 S13 _ h15) mf_M_readTerm lk_11_231 in_M_readTerm se_M_readTerm rfl zo_72 zk_72 ⟨rfl, rfl⟩ ⟨rm_le_M_readSum_M_readTerm.1, rm_le_M_readSum_M_readTerm.2⟩ ⟨Nat.zero_le _, Nat.zero_le _⟩ rfl _ [] rfl (Nat.le_of_ble_eq_true rfl) d_M_readSum_31 ?_
        refine z_goto C 5 d_M_readSum_34 (by decide) ?_
        refine zq_lsub [0, 1] [(0, zr (some 72)), (1, zi a1)] rfl ?_
        exact ih a1 S16 h
    · refine z_if_net C 29 c6 d_M_readSum_14 (by decide) ?_
      refine z_aload_n C 0 rfl d_M_readSum_29 rfl ?_
      refine z_iload_n C 1 rfl d_M_readSum_30 rfl ?_
      obtain ⟨S8, h7, h⟩ := zb1_some h
      refine z_cV C 11 (by decide) (hc_M_readTerm a1 S5 _ h7) mf_M_readTerm lk_11_231 in_M_readTerm se_M_readTerm rfl zo_72 zk_72 ⟨rfl, rfl⟩ ⟨rm_le_M_readSum_M_readTerm.1, rm_le_M_readSum_M_readTerm.2⟩ ⟨Nat.zero_le _, Nat.zero_le _⟩ rfl _ [] rfl (Nat.le_of_ble_eq_true rfl) d_M_readSum_31 ?_
      refine z_goto C 5 d_M_readSum_34 (by decide) ?_
      refine zq_lsub [0, 1] [(0, zr (some 72)), (1, zi a1)] rfl ?_
      exact ih a1 S8 h
set_option maxRecDepth 100000 in
set_option maxHeartbeats 4000000 in
theorem m_M_readSum_o (l : Launch) {c_M_readTerm : Int32 → zSt → Option zSt} {dp : Nat} {fu : Nat} {a1 : Int32} {S : zSt} {S1 : zSt} (hc_M_readTerm : ∀ (a1 : Int32) (S : zSt) (S1 : zSt), c_M_readTerm a1 S = some S1 → zPM l y_M_readTerm b_M_readTerm 2 none (rm_g3 dp) true true [zr (some 72), zi a1] S none S1) (h : f_M_readSum_o c_M_readTerm fu a1 S = some S1) : zPM l y_M_readSum b_M_readSum 2 none (rm_g3 (dp + 1)) true true [zr (some 72), zi a1] S none S1 := by
  refine zPM_of (by decide) (Nat.le_of_ble_eq_true rfl) (fun p e s m args below meth c G C hret hname => ?_)
  unfold f_M_readSum_o at h
  refine (?_ : zJ p l e (rm_g3 (dp + 1)) s m args below meth c G true 2 0 0 (zQm below G args s (rm_g3 (dp + 1)) true none S1) S 0 [(0, zr (some 72)), (1, zi a1)] [])
  refine z_aload_n C 0 rfl d_M_readSum_0 rfl ?_
  refine z_iload_n C 1 rfl d_M_readSum_1 rfl ?_
  obtain ⟨S2, h1, h⟩ := zb1_some h
  refine z_cV C 11 (by decide) (hc_M_readTerm a1 S _ h1) mf_M_readTerm lk_11_231 in_M_readTerm se_M_readTerm rfl zo_72 zk_72 ⟨rfl, rfl⟩ ⟨rm_le_M_readSum_M_readTerm.1, rm_le_M_readSum_M_readTerm.2⟩ ⟨Nat.zero_le _, Nat.zero_le _⟩ rfl _ [] rfl (Nat.le_of_ble_eq_true rfl) d_M_readSum_2 ?_
  refine zq_lsub [0, 1] [(0, zr (some 72)), (1, zi a1)] rfl ?_
  exact c_M_readSum_5 C hret hc_M_readTerm fu  a1 S2 h
def zgr_3 (fu : Nat) : Nat → (Int32 → zSt → Option zSt) × (Int32 → zSt → Option zSt) × (Int32 → zSt → Option zSt)
  | 0 => (fun _ _ => none, fun _ _ => none, fun _ _ => none)
  | d + 1 => (f_M_readPart_o ((zgr_3 fu d).2.1) fu, f_M_readSum_o ((zgr_3 fu d).2.2) fu, f_M_readTerm_o ((zgr_3 fu d).1) fu)
def f_M_readPart (fu d : Nat) : Int32 → zSt → Option zSt := (zgr_3 fu d).1
def f_M_readSum (fu d : Nat) : Int32 → zSt → Option zSt := (zgr_3 fu d).2.1
def f_M_readTerm (fu d : Nat) : Int32 → zSt → Option zSt := (zgr_3 fu d).2.2
set_option maxRecDepth 100000 in
set_option maxHeartbeats 4000000 in
theorem zgm_3 (l : Launch) (fu : Nat) : ∀ dp : Nat, (∀ (a1 : Int32) (S : zSt) (S1 : zSt), f_M_readPart fu dp a1 S = some S1 → zPM l y_M_readPart b_M_readPart 3 none (rm_g3 dp) true true [zr (some 72), zi a1] S none S1) ∧ (∀ (a1 : Int32) (S : zSt) (S1 : zSt), f_M_readSum fu dp a1 S = some S1 → zPM l y_M_readSum b_M_readSum 2 none (rm_g3 dp) true true [zr (some 72), zi a1] S none S1) ∧ (∀ (a1 : Int32) (S : zSt) (S1 : zSt), f_M_readTerm fu dp a1 S = some S1 → zPM l y_M_readTerm b_M_readTerm 2 none (rm_g3 dp) true true [zr (some 72), zi a1] S none S1) := by
  intro dp
  induction dp with
  | zero => exact ⟨(fun _ _ _ h => by have h : (none : Option _) = some _ := h; cases h), (fun _ _ _ h => by have h : (none : Option _) = some _ := h; cases h), (fun _ _ _ h => by have h : (none : Option _) = some _ := h; cases h)⟩
  | succ dp ih =>
    obtain ⟨ih_M_readPart, ih_M_readSum, ih_M_readTerm⟩ := ih
    exact ⟨fun _ _ _ h => m_M_readPart_o l ih_M_readSum h, fun _ _ _ h => m_M_readSum_o l ih_M_readTerm h, fun _ _ _ h => m_M_readTerm_o l ih_M_readPart h⟩
theorem m_M_readPart (l : Launch) {fu : Nat} {a1 : Int32} {S : zSt} {S1 : zSt} (h : f_M_readPart fu 64 a1 S = some S1) : zPM l y_M_readPart b_M_readPart 3 none (rm_g3 64) true true [zr (some 72), zi a1] S none S1 := (zgm_3 l fu 64).1 _ _ _ h
theorem m_M_readSum (l : Launch) {fu : Nat} {a1 : Int32} {S : zSt} {S1 : zSt} (h : f_M_readSum fu 64 a1 S = some S1) : zPM l y_M_readSum b_M_readSum 2 none (rm_g3 64) true true [zr (some 72), zi a1] S none S1 := (zgm_3 l fu 64).2.1 _ _ _ h
theorem m_M_readTerm (l : Launch) {fu : Nat} {a1 : Int32} {S : zSt} {S1 : zSt} (h : f_M_readTerm fu 64 a1 S = some S1) : zPM l y_M_readTerm b_M_readTerm 2 none (rm_g3 64) true true [zr (some 72), zi a1] S none S1 := (zgm_3 l fu 64).2.2 _ _ _ h
def f_M_readPlain_53 (c_M_readTest : Int32 → zSt → Option zSt) (fu : Nat) (a1 : Int32) (S : zSt) : Option zSt := zb1 (f_M_fine S) (fun r2 => if r2 = 0 then some S else zb1 (c_M_readTest (a1 + (1 : Int32)) (zwI S 72 19 ((zI S 72 19) + (1 : Int32)))) (fun S5 => zb1 (f_M_sign (41 : Int32)) (fun r7 => zb1 (f_M_must r7 S5) (fun S9 => some S9))))
def f_M_readPlain_16 (c_M_readTest : Int32 → zSt → Option zSt) (fu : Nat) (a1 : Int32) (S : zSt) : Option zSt := zb1 (f_M_fine S) (fun r2 => if r2 = 0 then some S else zgd (0 ≤ (zI S 72 19) ∧ (zI S 72 19).toNatClampNeg < 401) (zb1 (f_M_sign (40 : Int32)) (fun r6 => if (zI S 81 (zI S 72 19).toNatClampNeg) = r6 then if a1 = (8 : Int32) then zb1 (f_M_faults S) (fun S34 => f_M_readPlain_53 c_M_readTest fu a1 S34) else f_M_readPlain_53 c_M_readTest fu a1 S else zb1 (f_M_readSum fu 64 a1 S) (fun S9 => zb1 (f_M_sign (60 : Int32)) (fun r11 => zb2 (f_M_takes0 r11 S9) (fun r13 S14 => if r13 = 0 then zb1 (f_M_sign (62 : Int32)) (fun r19 => zb2 (f_M_takes0 r19 S14) (fun r21 S22 => if r21 = 0 then zb1 (f_M_sign (61 : Int32)) (fun r27 => zb1 (f_M_must r27 S22) (fun S29 => zb1 (f_M_readSum fu 64 a1 S29) (fun S31 => some S31))) else zb1 (f_M_readSum fu 64 a1 S22) (fun S25 => some S25))) else zb1 (f_M_readSum fu 64 a1 S14) (fun S17 => some S17)))))))
def f_M_readPlain_2 (c_M_readTest : Int32 → zSt → Option zSt) (fu : Nat) : Nat → Int32 → Int32 → zSt → Option zSt
  | 0, _, _, _ => none
  | n + 1, a1, a2, S => if a2 = 0 then f_M_readPlain_16 c_M_readTest fu a1 S else zb2 (f_M_takes0 (8 : Int32) S) (fun r3 S4 => f_M_readPlain_2 c_M_readTest fu n a1 r3 S4)
def f_M_readPlain_o (c_M_readTest : Int32 → zSt → Option zSt) (fu : Nat) (a1 : Int32) (S : zSt) : Option zSt := f_M_readPlain_2 c_M_readTest fu fu a1 (1 : Int32) S
set_option maxRecDepth 100000 in
set_option maxHeartbeats 4000000 in
theorem c_M_readPlain_53 {p : Program} {l : Launch} {e : Env} {s : State} {m : MethodId} {args : Array Value} {below : List Frame} {meth : Method} {c : Code} {G : zG} (C : zC p s m args meth c G b_M_readPlain 4 y_M_readPlain.cls) (hret : meth.sig.returnType = none) {c_M_readTest : Int32 → zSt → Option zSt} {dp : Nat} {fu : Nat} {S1 : zSt} (hc_M_readTest : ∀ (a1 : Int32) (S : zSt) (S1 : zSt), c_M_readTest a1 S = some S1 → zPM l y_M_readTest b_M_readTest 2 none (rm_g4 dp) true true [zr (some 72), zi a1] S none S1) : ∀ (a1 : Int32) (S : zSt) , f_M_readPlain_53 c_M_readTest fu a1 S = some S1 → zJ p l e (rm_g4 (dp + 1)) s m args below meth c G true 4 0 0 (zQm below G args s (rm_g4 (dp + 1)) true none S1) S 53 [(0, zr (some 72)), (1, zi a1)] [] := by
  intro a1 S h
  unfold f_M_readPlain_53 at h
  refine z_aload_n C 0 rfl d_M_readPlain_53 rfl ?_
  obtain ⟨r2, h1, h⟩ := zb1_some h
  refine z_cV C 11 (by decide) (m_M_fine l h1) mf_M_fine lk_11_181 in_M_fine se_M_fine rfl zo_72 zk_72 ⟨rfl, rfl⟩ ⟨rm_le_M_readPlain_M_fine.1, rm_le_M_readPlain_M_fine.2⟩ ⟨Nat.zero_le _, Nat.zero_le _⟩ rfl _ [] rfl (Nat.le_of_ble_eq_true rfl) d_M_readPlain_54 ?_
  rcases zite h with ⟨c3, h⟩ | ⟨c3, h⟩
  · refine z_if_nef C 61 c3 d_M_readPlain_57 (by decide) ?_
    cases h
    exact z_vret C hret ⟨Nat.zero_le _, Nat.zero_le _⟩ d_M_readPlain_60
  · refine z_if_net C 61 c3 d_M_readPlain_57 (by decide) ?_
    refine z_aload_n C 0 rfl d_M_readPlain_61 rfl ?_
    refine z_dup C rfl d_M_readPlain_62 ?_
    refine z_getI C 11 (by decide) 19 (by decide) rfl zo_72 zk_72 zfl_11_185 d_M_readPlain_63 ?_
    refine z_iconst C (1 : Int32) (by decide) d_M_readPlain_66 ?_
    refine z_iadd C d_M_readPlain_67 ?_
    refine z_putI C 11 (by decide) 19 (by decide) rfl (Or.inl rfl) zo_72 zk_72 zfl_11_185 (Or.inl rfl) d_M_readPlain_68 ?_
    refine z_aload_n C 0 rfl d_M_readPlain_71 rfl ?_
    refine z_iload_n C 1 rfl d_M_readPlain_72 rfl ?_
    refine z_iconst C (1 : Int32) (by decide) d_M_readPlain_73 ?_
    refine z_iadd C d_M_readPlain_74 ?_
    obtain ⟨S5, h4, h⟩ := zb1_some h
    refine z_cV C 11 (by decide) (hc_M_readTest (a1 + (1 : Int32)) (zwI S 72 19 ((zI S 72 19) + (1 : Int32))) _ h4) mf_M_readTest lk_11_204 in_M_readTest se_M_readTest rfl zo_72 zk_72 ⟨rfl, rfl⟩ ⟨rm_le_M_readPlain_M_readTest.1, rm_le_M_readPlain_M_readTest.2⟩ ⟨Nat.zero_le _, Nat.zero_le _⟩ rfl _ [] rfl (Nat.le_of_ble_eq_true rfl) d_M_readPlain_75 ?_
    refine z_aload_n C 0 rfl d_M_readPlain_78 rfl ?_
    refine z_bipush C (41 : Int32) (by decide) d_M_readPlain_79 ?_
    obtain ⟨r7, h6, h⟩ := zb1_some h
    refine z_cS C (m_M_sign l h6) mf_M_sign lk_11_227 st_M_sign ⟨rfl, rfl⟩ ⟨rm_le_M_readPlain_M_sign.1, rm_le_M_readPlain_M_sign.2⟩ ⟨Nat.zero_le _, Nat.zero_le _⟩ rfl _ [zr (some 72)] rfl (Nat.le_of_ble_eq_true rfl) d_M_readPlain_81 ?_
    obtain ⟨S9, h8, h⟩ := zb1_some h
    refine z_cV C 11 (by decide) (m_M_must l h8) mf_M_must lk_11_201 in_M_must se_M_must rfl zo_72 zk_72 ⟨rfl, rfl⟩ ⟨rm_le_M_readPlain_M_must.1, rm_le_M_readPlain_M_must.2⟩ ⟨Nat.zero_le _, Nat.zero_le _⟩ rfl _ [] rfl (Nat.le_of_ble_eq_true rfl) d_M_readPlain_84 ?_
    refine z_goto C 133 d_M_readPlain_87 (by decide) ?_
    cases h
    exact z_vret C hret ⟨Nat.zero_le _, Nat.zero_le _⟩ d_M_readPlain_133
set_option maxRecDepth 100000 in
set_option maxHeartbeats 4000000 in
theorem c_M_readPlain_16 {p : Program} {l : Launch} {e : Env} {s : State} {m : MethodId} {args : Array Value} {below : List Frame} {meth : Method} {c : Code} {G : zG} (C : zC p s m args meth c G b_M_readPlain 4 y_M_readPlain.cls) (hret : meth.sig.returnType = none) {c_M_readTest : Int32 → zSt → Option zSt} {dp : Nat} {fu : Nat} {S1 : zSt} (hc_M_readTest : ∀ (a1 : Int32) (S : zSt) (S1 : zSt), c_M_readTest a1 S = some S1 → zPM l y_M_readTest b_M_readTest 2 none (rm_g4 dp) true true [zr (some 72), zi a1] S none S1) : ∀ (a1 : Int32) (S : zSt) , f_M_readPlain_16 c_M_readTest fu a1 S = some S1 → zJ p l e (rm_g4 (dp + 1)) s m args below meth c G true 4 0 0 (zQm below G args s (rm_g4 (dp + 1)) true none S1) S 16 [(0, zr (some 72)), (1, zi a1)] [] := by
  intro a1 S h
  unfold f_M_readPlain_16 at h
  refine z_aload_n C 0 rfl d_M_readPlain_16 rfl ?_
  obtain ⟨r2, h1, h⟩ := zb1_some h
  refine z_cV C 11 (by decide) (m_M_fine l h1) mf_M_fine lk_11_181 in_M_fine se_M_fine rfl zo_72 zk_72 ⟨rfl, rfl⟩ ⟨rm_le_M_readPlain_M_fine.1, rm_le_M_readPlain_M_fine.2⟩ ⟨Nat.zero_le _, Nat.zero_le _⟩ rfl _ [] rfl (Nat.le_of_ble_eq_true rfl) d_M_readPlain_17 ?_
  rcases zite h with ⟨c3, h⟩ | ⟨c3, h⟩
  · refine z_if_nef C 24 c3 d_M_readPlain_20 (by decide) ?_
    cases h
    exact z_vret C hret ⟨Nat.zero_le _, Nat.zero_le _⟩ d_M_readPlain_23
  · refine z_if_net C 24 c3 d_M_readPlain_20 (by decide) ?_
    refine z_aload_n C 0 rfl d_M_readPlain_24 rfl ?_
    refine z_getF2 C 11 (by decide) 15 (by decide) rfl 9 401 rfl (81) rfl zp_72 zk_72 zfl_11_50 d_M_readPlain_25 ?_
    refine z_aload_n C 0 rfl d_M_readPlain_28 rfl ?_
    refine z_getI C 11 (by decide) 19 (by decide) rfl zo_72 zk_72 zfl_11_185 d_M_readPlain_29 ?_
    refine z_fact (fun hSR => ?_)
    obtain ⟨g4, h⟩ := zgd_some h
    refine z_ialoadS C zo_81 zk_81 (za_81 hSR) g4 d_M_readPlain_32 ?_
    refine z_istore_n C [(3, zi (zI S 81 (zI S 72 19).toNatClampNeg)), (0, zr (some 72)), (1, zi a1)] d_M_readPlain_33 rfl (by decide) rfl ?_
    refine z_iload_n C 0 rfl d_M_readPlain_34 rfl ?_
    refine z_bipush C (40 : Int32) (by decide) d_M_readPlain_35 ?_
    obtain ⟨r6, h5, h⟩ := zb1_some h
    refine z_cS C (m_M_sign l h5) mf_M_sign lk_11_227 st_M_sign ⟨rfl, rfl⟩ ⟨rm_le_M_readPlain_M_sign.1, rm_le_M_readPlain_M_sign.2⟩ ⟨Nat.zero_le _, Nat.zero_le _⟩ rfl _ [zi (zI S 81 (zI S 72 19).toNatClampNeg)] rfl (Nat.le_of_ble_eq_true rfl) d_M_readPlain_37 ?_
    rcases zite h with ⟨c7, h⟩ | ⟨c7, h⟩
    · refine z_icmp_nef C 90 c7 d_M_readPlain_40 (by decide) ?_
      refine z_iload_n C 2 rfl d_M_readPlain_43 rfl ?_
      refine z_bipush C (8 : Int32) (by decide) d_M_readPlain_44 ?_
      rcases zite h with ⟨c32, h⟩ | ⟨c32, h⟩
      · refine z_icmp_nef C 53 c32 d_M_readPlain_46 (by decide) ?_
        refine z_aload_n C 1 rfl d_M_readPlain_49 rfl ?_
        obtain ⟨S34, h33, h⟩ := zb1_some h
        refine z_cV C 11 (by decide) (m_M_faults l h33) mf_M_faults lk_11_191 in_M_faults se_M_faults rfl zo_72 zk_72 ⟨rfl, rfl⟩ ⟨rm_le_M_readPlain_M_faults.1, rm_le_M_readPlain_M_faults.2⟩ ⟨Nat.zero_le _, Nat.zero_le _⟩ rfl _ [] rfl (Nat.le_of_ble_eq_true rfl) d_M_readPlain_50 ?_
        refine zq_lsub [1, 2] [(0, zr (some 72)), (1, zi a1)] rfl ?_
        exact c_M_readPlain_53 C hret hc_M_readTest  a1 S34 h
      · refine z_icmp_net C 53 c32 d_M_readPlain_46 (by decide) ?_
        refine zq_lsub [1, 2] [(0, zr (some 72)), (1, zi a1)] rfl ?_
        exact c_M_readPlain_53 C hret hc_M_readTest  a1 S h
    · refine z_icmp_net C 90 c7 d_M_readPlain_40 (by decide) ?_
      refine z_aload_n C 1 rfl d_M_readPlain_90 rfl ?_
      refine z_iload_n C 2 rfl d_M_readPlain_91 rfl ?_
      obtain ⟨S9, h8, h⟩ := zb1_some h
      refine z_cV C 11 (by decide) (m_M_readSum l h8) mf_M_readSum lk_11_197 in_M_readSum se_M_readSum rfl zo_72 zk_72 ⟨rfl, rfl⟩ ⟨rm_le_M_readPlain_M_readSum.1, rm_le_M_readPlain_M_readSum.2⟩ ⟨Nat.zero_le _, Nat.zero_le _⟩ rfl _ [] rfl (Nat.le_of_ble_eq_true rfl) d_M_readPlain_92 ?_
      refine z_aload_n C 1 rfl d_M_readPlain_95 rfl ?_
      refine z_bipush C (60 : Int32) (by decide) d_M_readPlain_96 ?_
      obtain ⟨r11, h10, h⟩ := zb1_some h
      refine z_cS C (m_M_sign l h10) mf_M_sign lk_11_227 st_M_sign ⟨rfl, rfl⟩ ⟨rm_le_M_readPlain_M_sign.1, rm_le_M_readPlain_M_sign.2⟩ ⟨Nat.zero_le _, Nat.zero_le _⟩ rfl _ [zr (some 72)] rfl (Nat.le_of_ble_eq_true rfl) d_M_readPlain_98 ?_
      obtain ⟨r13, S14, h12, h⟩ := zb2_some h
      refine z_cV C 11 (by decide) (m_M_takes0 l h12) mf_M_takes0 lk_11_188 in_M_takes0 se_M_takes0 rfl zo_72 zk_72 ⟨rfl, rfl⟩ ⟨rm_le_M_readPlain_M_takes0.1, rm_le_M_readPlain_M_takes0.2⟩ ⟨Nat.zero_le _, Nat.zero_le _⟩ rfl _ [] rfl (Nat.le_of_ble_eq_true rfl) d_M_readPlain_101 ?_
      rcases zite h with ⟨c15, h⟩ | ⟨c15, h⟩
      · refine z_if_nef C 128 c15 d_M_readPlain_104 (by decide) ?_
        refine z_aload_n C 1 rfl d_M_readPlain_107 rfl ?_
        refine z_bipush C (62 : Int32) (by decide) d_M_readPlain_108 ?_
        obtain ⟨r19, h18, h⟩ := zb1_some h
        refine z_cS C (m_M_sign l h18) mf_M_sign lk_11_227 st_M_sign ⟨rfl, rfl⟩ ⟨rm_le_M_readPlain_M_sign.1, rm_le_M_readPlain_M_sign.2⟩ ⟨Nat.zero_le _, Nat.zero_le _⟩ rfl _ [zr (some 72)] rfl (Nat.le_of_ble_eq_true rfl) d_M_readPlain_110 ?_
        obtain ⟨r21, S22, h20, h⟩ := zb2_some h
        refine z_cV C 11 (by decide) (m_M_takes0 l h20) mf_M_takes0 lk_11_188 in_M_takes0 se_M_takes0 rfl zo_72 zk_72 ⟨rfl, rfl⟩ ⟨rm_le_M_readPlain_M_takes0.1, rm_le_M_readPlain_M_takes0.2⟩ ⟨Nat.zero_le _, Nat.zero_le _⟩ rfl _ [] rfl (Nat.le_of_ble_eq_true rfl) d_M_readPlain_113 ?_
        rcases zite h with ⟨c23, h⟩ | ⟨c23, h⟩
        · refine z_if_nef C 128 c23 d_M_readPlain_116 (by decide) ?_
          refine z_aload_n C 1 rfl d_M_readPlain_119 rfl ?_
          refine z_bipush C (61 : Int32) (by decide) d_M_readPlain_120 ?_
          obtain ⟨r27, h26, h⟩ := zb1_some h
          refine z_cS C (m_M_sign l h26) mf_M_sign lk_11_227 st_M_sign ⟨rfl, rfl⟩ ⟨rm_le_M_readPlain_M_sign.1, rm_le_M_readPlain_M_sign.2⟩ ⟨Nat.zero_le _, Nat.zero_le _⟩ rfl _ [zr (some 72)] rfl (Nat.le_of_ble_eq_true rfl) d_M_readPlain_122 ?_
          obtain ⟨S29, h28, h⟩ := zb1_some h
          refine z_cV C 11 (by decide) (m_M_must l h28) mf_M_must lk_11_201 in_M_must se_M_must rfl zo_72 zk_72 ⟨rfl, rfl⟩ ⟨rm_le_M_readPlain_M_must.1, rm_le_M_readPlain_M_must.2⟩ ⟨Nat.zero_le _, Nat.zero_le _⟩ rfl _ [] rfl (Nat.le_of_ble_eq_true rfl) d_M_readPlain_125 ?_
          refine z_aload_n C 1 rfl d_M_readPlain_128 rfl ?_
          refine z_iload_n C 2 rfl d_M_readPlain_129 rfl ?_
          obtain ⟨S31, h30, h⟩ := zb1_some h
          refine z_cV C 11 (by decide) (m_M_readSum l h30) mf_M_readSum lk_11_197 in_M_readSum se_M_readSum rfl zo_72 zk_72 ⟨rfl, rfl⟩ ⟨rm_le_M_readPlain_M_readSum.1, rm_le_M_readPlain_M_readSum.2⟩ ⟨Nat.zero_le _, Nat.zero_le _⟩ rfl _ [] rfl (Nat.le_of_ble_eq_true rfl) d_M_readPlain_130 ?_
          cases h
          exact z_vret C hret ⟨Nat.zero_le _, Nat.zero_le _⟩ d_M_readPlain_133
        · refine z_if_net C 128 c23 d_M_readPlain_116 (by decide) ?_
          refine z_aload_n C 1 rfl d_M_readPlain_128 rfl ?_
          refine z_iload_n C 2 rfl d_M_readPlain_129 rfl ?_
          obtain ⟨S25, h24, h⟩ := zb1_some h
          refine z_cV C 11 (by decide) (m_M_readSum l h24) mf_M_readSum lk_11_197 in_M_readSum se_M_readSum rfl zo_72 zk_72 ⟨rfl, rfl⟩ ⟨rm_le_M_readPlain_M_readSum.1, rm_le_M_readPlain_M_readSum.2⟩ ⟨Nat.zero_le _, Nat.zero_le _⟩ rfl _ [] rfl (Nat.le_of_ble_eq_true rfl) d_M_readPlain_130 ?_
          cases h
          exact z_vret C hret ⟨Nat.zero_le _, Nat.zero_le _⟩ d_M_readPlain_133
      · refine z_if_net C 128 c15 d_M_readPlain_104 (by decide) ?_
        refine z_aload_n C 1 rfl d_M_readPlain_128 rfl ?_
        refine z_iload_n C 2 rfl d_M_readPlain_129 rfl ?_
        obtain ⟨S17, h16, h⟩ := zb1_some h
        refine z_cV C 11 (by decide) (m_M_readSum l h16) mf_M_readSum lk_11_197 in_M_readSum se_M_readSum rfl zo_72 zk_72 ⟨rfl, rfl⟩ ⟨rm_le_M_readPlain_M_readSum.1, rm_le_M_readPlain_M_readSum.2⟩ ⟨Nat.zero_le _, Nat.zero_le _⟩ rfl _ [] rfl (Nat.le_of_ble_eq_true rfl) d_M_readPlain_130 ?_
        cases h
        exact z_vret C hret ⟨Nat.zero_le _, Nat.zero_le _⟩ d_M_readPlain_133
set_option maxRecDepth 100000 in
set_option maxHeartbeats 4000000 in
theorem c_M_readPlain_2 {p : Program} {l : Launch} {e : Env} {s : State} {m : MethodId} {args : Array Value} {below : List Frame} {meth : Method} {c : Code} {G : zG} (C : zC p s m args meth c G b_M_readPlain 4 y_M_readPlain.cls) (hret : meth.sig.returnType = none) {c_M_readTest : Int32 → zSt → Option zSt} {dp : Nat} {fu : Nat} {S1 : zSt} (hc_M_readTest : ∀ (a1 : Int32) (S : zSt) (S1 : zSt), c_M_readTest a1 S = some S1 → zPM l y_M_readTest b_M_readTest 2 none (rm_g4 dp) true true [zr (some 72), zi a1] S none S1) : ∀ (n : Nat) (a1 : Int32) (a2 : Int32) (S : zSt) , f_M_readPlain_2 c_M_readTest fu n a1 a2 S = some S1 → zJ p l e (rm_g4 (dp + 1)) s m args below meth c G true 4 0 0 (zQm below G args s (rm_g4 (dp + 1)) true none S1) S 2 [(0, zr (some 72)), (1, zi a1), (2, zi a2)] [] := by
  intro n
  induction n with
  | zero =>
    intro a1 a2 S h
    cases h
  | succ n ih =>
    intro a1 a2 S h
    rw [f_M_readPlain_2] at h
    refine z_iload_n C 2 rfl d_M_readPlain_2 rfl ?_
    rcases zite h with ⟨c1, h⟩ | ⟨c1, h⟩
    · refine z_if_eqt C 16 c1 d_M_readPlain_3 (by decide) ?_
      refine zq_lsub [0, 1] [(0, zr (some 72)), (1, zi a1)] rfl ?_
      exact c_M_readPlain_16 C hret hc_M_readTest  a1 S h
    · refine z_if_eqf C 16 c1 d_M_readPlain_3 (by decide) ?_
      refine z_aload_n C 0 rfl d_M_readPlain_6 rfl ?_
      refine z_bipush C (8 : Int32) (by decide) d_M_readPlain_7 ?_
      obtain ⟨r3, S4, h2, h⟩ := zb2_some h
      refine z_cV C 11 (by decide) (m_M_takes0 l h2) mf_M_takes0 lk_11_188 in_M_takes0 se_M_takes0 rfl zo_72 zk_72 ⟨rfl, rfl⟩ ⟨rm_le_M_readPlain_M_takes0.1, rm_le_M_readPlain_M_takes0.2⟩ ⟨Nat.zero_le _, Nat.zero_le _⟩ rfl _ [] rfl (Nat.le_of_ble_eq_true rfl) d_M_readPlain_9 ?_
      refine z_istore_n C [(2, zi r3), (0, zr (some 72)), (1, zi a1)] d_M_readPlain_12 rfl (by decide) rfl ?_
      refine z_goto C 2 d_M_readPlain_13 (by decide) ?_
      refine zq_lsub [1, 2, 0] [(0, zr (some 72)), (1, zi a1), (2, zi r3)] rfl ?_
      exact ih a1 r3 S4 h
set_option maxRecDepth 100000 in
set_option maxHeartbeats 4000000 in
theorem m_M_readPlain_o (l : Launch) {c_M_readTest : Int32 → zSt → Option zSt} {dp : Nat} {fu : Nat} {a1 : Int32} {S : zSt} {S1 : zSt} (hc_M_readTest : ∀ (a1 : Int32) (S : zSt) (S1 : zSt), c_M_readTest a1 S = some S1 → zPM l y_M_readTest b_M_readTest 2 none (rm_g4 dp) true true [zr (some 72), zi a1] S none S1) (h : f_M_readPlain_o c_M_readTest fu a1 S = some S1) : zPM l y_M_readPlain b_M_readPlain 4 none (rm_g4 (dp + 1)) true true [zr (some 72), zi a1] S none S1 := by
  refine zPM_of (by decide) (Nat.le_of_ble_eq_true rfl) (fun p e s m args below meth c G C hret hname => ?_)
  unfold f_M_readPlain_o at h
  refine (?_ : zJ p l e (rm_g4 (dp + 1)) s m args below meth c G true 4 0 0 (zQm below G args s (rm_g4 (dp + 1)) true none S1) S 0 [(0, zr (some 72)), (1, zi a1)] [])
  refine z_iconst C (1 : Int32) (by decide) d_M_readPlain_0 ?_
  refine z_istore_n C [(2, zi (1 : Int32)), (0, zr (some 72)), (1, zi a1)] d_M_readPlain_1 rfl (by decide) rfl ?_
  refine zq_lsub [1, 2, 0] [(0, zr (some 72)), (1, zi a1), (2, zi (1 : Int32))] rfl ?_
  exact c_M_readPlain_2 C hret hc_M_readTest fu  a1 (1 : Int32) S h
def f_M_readBoth_5 (c_M_readPlain : Int32 → zSt → Option zSt) (fu : Nat) : Nat → Int32 → zSt → Option zSt
  | 0, _, _ => none
  | n + 1, a1, S => zb2 (f_M_takes0 (7 : Int32) S) (fun r2 S3 => if r2 = 0 then some S3 else zb1 (c_M_readPlain a1 S3) (fun S6 => f_M_readBoth_5 c_M_readPlain fu n a1 S6))
def f_M_readBoth_o (c_M_readPlain : Int32 → zSt → Option zSt) (fu : Nat) (a1 : Int32) (S : zSt) : Option zSt := zb1 (c_M_readPlain a1 S) (fun S2 => f_M_readBoth_5 c_M_readPlain fu fu a1 S2)
set_option maxRecDepth 100000 in
set_option maxHeartbeats 4000000 in
theorem c_M_readBoth_5 {p : Program} {l : Launch} {e : Env} {s : State} {m : MethodId} {args : Array Value} {below : List Frame} {meth : Method} {c : Code} {G : zG} (C : zC p s m args meth c G b_M_readBoth 2 y_M_readBoth.cls) (hret : meth.sig.returnType = none) {c_M_readPlain : Int32 → zSt → Option zSt} {dp : Nat} {fu : Nat} {S1 : zSt} (hc_M_readPlain : ∀ (a1 : Int32) (S : zSt) (S1 : zSt), c_M_readPlain a1 S = some S1 → zPM l y_M_readPlain b_M_readPlain 4 none (rm_g4 dp) true true [zr (some 72), zi a1] S none S1) : ∀ (n : Nat) (a1 : Int32) (S : zSt) , f_M_readBoth_5 c_M_readPlain fu n a1 S = some S1 → zJ p l e (rm_g4 (dp + 1)) s m args below meth c G true 2 0 0 (zQm below G args s (rm_g4 (dp + 1)) true none S1) S 5 [(0, zr (some 72)), (1, zi a1)] [] := by
  intro n
  induction n with
  | zero =>
    intro a1 S h
    cases h
  | succ n ih =>
    intro a1 S h
    rw [f_M_readBoth_5] at h
    refine z_aload_n C 0 rfl d_M_readBoth_5 rfl ?_
    refine z_bipush C (7 : Int32) (by decide) d_M_readBoth_6 ?_
    obtain ⟨r2, S3, h1, h⟩ := zb2_some h
    refine z_cV C 11 (by decide) (m_M_takes0 l h1) mf_M_takes0 lk_11_188 in_M_takes0 se_M_takes0 rfl zo_72 zk_72 ⟨rfl, rfl⟩ ⟨rm_le_M_readBoth_M_takes0.1, rm_le_M_readBoth_M_takes0.2⟩ ⟨Nat.zero_le _, Nat.zero_le _⟩ rfl _ [] rfl (Nat.le_of_ble_eq_true rfl) d_M_readBoth_8 ?_
    rcases zite h with ⟨c4, h⟩ | ⟨c4, h⟩
    · refine z_if_eqt C 22 c4 d_M_readBoth_11 (by decide) ?_
      cases h
      exact z_vret C hret ⟨Nat.zero_le _, Nat.zero_le _⟩ d_M_readBoth_22
    · refine z_if_eqf C 22 c4 d_M_readBoth_11 (by decide) ?_
      refine z_aload_n C 0 rfl d_M_readBoth_14 rfl ?_
      refine z_iload_n C 1 rfl d_M_readBoth_15 rfl ?_
      obtain ⟨S6, h5, h⟩ := zb1_some h
      refine z_cV C 11 (by decide) (hc_M_readPlain a1 S3 _ h5) mf_M_readPlain lk_11_224 in_M_readPlain se_M_readPlain rfl zo_72 zk_72 ⟨rfl, rfl⟩ ⟨rm_le_M_readBoth_M_readPlain.1, rm_le_M_readBoth_M_readPlain.2⟩ ⟨Nat.zero_le _, Nat.zero_le _⟩ rfl _ [] rfl (Nat.le_of_ble_eq_true rfl) d_M_readBoth_16 ?_
      refine z_goto C 5 d_M_readBoth_19 (by decide) ?_
      refine zq_lsub [0, 1] [(0, zr (some 72)), (1, zi a1)] rfl ?_
      exact ih a1 S6 h
set_option maxRecDepth 100000 in
set_option maxHeartbeats 4000000 in
theorem m_M_readBoth_o (l : Launch) {c_M_readPlain : Int32 → zSt → Option zSt} {dp : Nat} {fu : Nat} {a1 : Int32} {S : zSt} {S1 : zSt} (hc_M_readPlain : ∀ (a1 : Int32) (S : zSt) (S1 : zSt), c_M_readPlain a1 S = some S1 → zPM l y_M_readPlain b_M_readPlain 4 none (rm_g4 dp) true true [zr (some 72), zi a1] S none S1) (h : f_M_readBoth_o c_M_readPlain fu a1 S = some S1) : zPM l y_M_readBoth b_M_readBoth 2 none (rm_g4 (dp + 1)) true true [zr (some 72), zi a1] S none S1 := by
  refine zPM_of (by decide) (Nat.le_of_ble_eq_true rfl) (fun p e s m args below meth c G C hret hname => ?_)
  unfold f_M_readBoth_o at h
  refine (?_ : zJ p l e (rm_g4 (dp + 1)) s m args below meth c G true 2 0 0 (zQm below G args s (rm_g4 (dp + 1)) true none S1) S 0 [(0, zr (some 72)), (1, zi a1)] [])
  refine z_aload_n C 0 rfl d_M_readBoth_0 rfl ?_
  refine z_iload_n C 1 rfl d_M_readBoth_1 rfl ?_
  obtain ⟨S2, h1, h⟩ := zb1_some h
  refine z_cV C 11 (by decide) (hc_M_readPlain a1 S _ h1) mf_M_readPlain lk_11_224 in_M_readPlain se_M_readPlain rfl zo_72 zk_72 ⟨rfl, rfl⟩ ⟨rm_le_M_readBoth_M_readPlain.1, rm_le_M_readBoth_M_readPlain.2⟩ ⟨Nat.zero_le _, Nat.zero_le _⟩ rfl _ [] rfl (Nat.le_of_ble_eq_true rfl) d_M_readBoth_2 ?_
  refine zq_lsub [0, 1] [(0, zr (some 72)), (1, zi a1)] rfl ?_
  exact c_M_readBoth_5 C hret hc_M_readPlain fu  a1 S2 h
def f_M_readTest_5 (c_M_readBoth : Int32 → zSt → Option zSt) (fu : Nat) : Nat → Int32 → zSt → Option zSt
  | 0, _, _ => none
  | n + 1, a1, S => zb2 (f_M_takes0 (6 : Int32) S) (fun r2 S3 => if r2 = 0 then some S3 else zb1 (c_M_readBoth a1 S3) (fun S6 => f_M_readTest_5 c_M_readBoth fu n a1 S6))
def f_M_readTest_o (c_M_readBoth : Int32 → zSt → Option zSt) (fu : Nat) (a1 : Int32) (S : zSt) : Option zSt := zb1 (c_M_readBoth a1 S) (fun S2 => f_M_readTest_5 c_M_readBoth fu fu a1 S2)
set_option maxRecDepth 100000 in
set_option maxHeartbeats 4000000 in
theorem c_M_readTest_5 {p : Program} {l : Launch} {e : Env} {s : State} {m : MethodId} {args : Array Value} {below : List Frame} {meth : Method} {c : Code} {G : zG} (C : zC p s m args meth c G b_M_readTest 2 y_M_readTest.cls) (hret : meth.sig.returnType = none) {c_M_readBoth : Int32 → zSt → Option zSt} {dp : Nat} {fu : Nat} {S1 : zSt} (hc_M_readBoth : ∀ (a1 : Int32) (S : zSt) (S1 : zSt), c_M_readBoth a1 S = some S1 → zPM l y_M_readBoth b_M_readBoth 2 none (rm_g4 dp) true true [zr (some 72), zi a1] S none S1) : ∀ (n : Nat) (a1 : Int32) (S : zSt) , f_M_readTest_5 c_M_readBoth fu n a1 S = some S1 → zJ p l e (rm_g4 (dp + 1)) s m args below meth c G true 2 0 0 (zQm below G args s (rm_g4 (dp + 1)) true none S1) S 5 [(0, zr (some 72)), (1, zi a1)] [] := by
  intro n
  induction n with
  | zero =>
    intro a1 S h
    cases h
  | succ n ih =>
    intro a1 S h
    rw [f_M_readTest_5] at h
    refine z_aload_n C 0 rfl d_M_readTest_5 rfl ?_
    refine z_bipush C (6 : Int32) (by decide) d_M_readTest_6 ?_
    obtain ⟨r2, S3, h1, h⟩ := zb2_some h
    refine z_cV C 11 (by decide) (m_M_takes0 l h1) mf_M_takes0 lk_11_188 in_M_takes0 se_M_takes0 rfl zo_72 zk_72 ⟨rfl, rfl⟩ ⟨rm_le_M_readTest_M_takes0.1, rm_le_M_readTest_M_takes0.2⟩ ⟨Nat.zero_le _, Nat.zero_le _⟩ rfl _ [] rfl (Nat.le_of_ble_eq_true rfl) d_M_readTest_8 ?_
    rcases zite h with ⟨c4, h⟩ | ⟨c4, h⟩
    · refine z_if_eqt C 22 c4 d_M_readTest_11 (by decide) ?_
      cases h
      exact z_vret C hret ⟨Nat.zero_le _, Nat.zero_le _⟩ d_M_readTest_22
    · refine z_if_eqf C 22 c4 d_M_readTest_11 (by decide) ?_
      refine z_aload_n C 0 rfl d_M_readTest_14 rfl ?_
      refine z_iload_n C 1 rfl d_M_readTest_15 rfl ?_
      obtain ⟨S6, h5, h⟩ := zb1_some h
      refine z_cV C 11 (by decide) (hc_M_readBoth a1 S3 _ h5) mf_M_readBoth lk_11_221 in_M_readBoth se_M_readBoth rfl zo_72 zk_72 ⟨rfl, rfl⟩ ⟨rm_le_M_readTest_M_readBoth.1, rm_le_M_readTest_M_readBoth.2⟩ ⟨Nat.zero_le _, Nat.zero_le _⟩ rfl _ [] rfl (Nat.le_of_ble_eq_true rfl) d_M_readTest_16 ?_
      refine z_goto C 5 d_M_readTest_19 (by decide) ?_
      refine zq_lsub [0, 1] [(0, zr (some 72)), (1, zi a1)] rfl ?_
      exact ih a1 S6 h
set_option maxRecDepth 100000 in
set_option maxHeartbeats 4000000 in
theorem m_M_readTest_o (l : Launch) {c_M_readBoth : Int32 → zSt → Option zSt} {dp : Nat} {fu : Nat} {a1 : Int32} {S : zSt} {S1 : zSt} (hc_M_readBoth : ∀ (a1 : Int32) (S : zSt) (S1 : zSt), c_M_readBoth a1 S = some S1 → zPM l y_M_readBoth b_M_readBoth 2 none (rm_g4 dp) true true [zr (some 72), zi a1] S none S1) (h : f_M_readTest_o c_M_readBoth fu a1 S = some S1) : zPM l y_M_readTest b_M_readTest 2 none (rm_g4 (dp + 1)) true true [zr (some 72), zi a1] S none S1 := by
  refine zPM_of (by decide) (Nat.le_of_ble_eq_true rfl) (fun p e s m args below meth c G C hret hname => ?_)
  unfold f_M_readTest_o at h
  refine (?_ : zJ p l e (rm_g4 (dp + 1)) s m args below meth c G true 2 0 0 (zQm below G args s (rm_g4 (dp + 1)) true none S1) S 0 [(0, zr (some 72)), (1, zi a1)] [])
  refine z_aload_n C 0 rfl d_M_readTest_0 rfl ?_
  refine z_iload_n C 1 rfl d_M_readTest_1 rfl ?_
  obtain ⟨S2, h1, h⟩ := zb1_some h
  refine z_cV C 11 (by decide) (hc_M_readBoth a1 S _ h1) mf_M_readBoth lk_11_221 in_M_readBoth se_M_readBoth rfl zo_72 zk_72 ⟨rfl, rfl⟩ ⟨rm_le_M_readTest_M_readBoth.1, rm_le_M_readTest_M_readBoth.2⟩ ⟨Nat.zero_le _, Nat.zero_le _⟩ rfl _ [] rfl (Nat.le_of_ble_eq_true rfl) d_M_readTest_2 ?_
  refine zq_lsub [0, 1] [(0, zr (some 72)), (1, zi a1)] rfl ?_
  exact c_M_readTest_5 C hret hc_M_readBoth fu  a1 S2 h
def zgr_4 (fu : Nat) : Nat → (Int32 → zSt → Option zSt) × (Int32 → zSt → Option zSt) × (Int32 → zSt → Option zSt)
  | 0 => (fun _ _ => none, fun _ _ => none, fun _ _ => none)
  | d + 1 => (f_M_readBoth_o ((zgr_4 fu d).2.1) fu, f_M_readPlain_o ((zgr_4 fu d).2.2) fu, f_M_readTest_o ((zgr_4 fu d).1) fu)
def f_M_readBoth (fu d : Nat) : Int32 → zSt → Option zSt := (zgr_4 fu d).1
def f_M_readPlain (fu d : Nat) : Int32 → zSt → Option zSt := (zgr_4 fu d).2.1
def f_M_readTest (fu d : Nat) : Int32 → zSt → Option zSt := (zgr_4 fu d).2.2
set_option maxRecDepth 100000 in
set_option maxHeartbeats 4000000 in
theorem zgm_4 (l : Launch) (fu : Nat) : ∀ dp : Nat, (∀ (a1 : Int32) (S : zSt) (S1 : zSt), f_M_readBoth fu dp a1 S = some S1 → zPM l y_M_readBoth b_M_readBoth 2 none (rm_g4 dp) true true [zr (some 72), zi a1] S none S1) ∧ (∀ (a1 : Int32) (S : zSt) (S1 : zSt), f_M_readPlain fu dp a1 S = some S1 → zPM l y_M_readPlain b_M_readPlain 4 none (rm_g4 dp) true true [zr (some 72), zi a1] S none S1) ∧ (∀ (a1 : Int32) (S : zSt) (S1 : zSt), f_M_readTest fu dp a1 S = some S1 → zPM l y_M_readTest b_M_readTest 2 none (rm_g4 dp) true true [zr (some 72), zi a1] S none S1) := by
  intro dp
  induction dp with
  | zero => exact ⟨(fun _ _ _ h => by have h : (none : Option _) = some _ := h; cases h), (fun _ _ _ h => by have h : (none : Option _) = some _ := h; cases h), (fun _ _ _ h => by have h : (none : Option _) = some _ := h; cases h)⟩
  | succ dp ih =>
    obtain ⟨ih_M_readBoth, ih_M_readPlain, ih_M_readTest⟩ := ih
    exact ⟨fun _ _ _ h => m_M_readBoth_o l ih_M_readPlain h, fun _ _ _ h => m_M_readPlain_o l ih_M_readTest h, fun _ _ _ h => m_M_readTest_o l ih_M_readBoth h⟩
theorem m_M_readBoth (l : Launch) {fu : Nat} {a1 : Int32} {S : zSt} {S1 : zSt} (h : f_M_readBoth fu 64 a1 S = some S1) : zPM l y_M_readBoth b_M_readBoth 2 none (rm_g4 64) true true [zr (some 72), zi a1] S none S1 := (zgm_4 l fu 64).1 _ _ _ h
theorem m_M_readPlain (l : Launch) {fu : Nat} {a1 : Int32} {S : zSt} {S1 : zSt} (h : f_M_readPlain fu 64 a1 S = some S1) : zPM l y_M_readPlain b_M_readPlain 4 none (rm_g4 64) true true [zr (some 72), zi a1] S none S1 := (zgm_4 l fu 64).2.1 _ _ _ h
theorem m_M_readTest (l : Launch) {fu : Nat} {a1 : Int32} {S : zSt} {S1 : zSt} (h : f_M_readTest fu 64 a1 S = some S1) : zPM l y_M_readTest b_M_readTest 2 none (rm_g4 64) true true [zr (some 72), zi a1] S none S1 := (zgm_4 l fu 64).2.2 _ _ _ h
def f_M_readOrder_60 (fu : Nat) (S : zSt) : Option zSt := zb2 (f_M_takes0 (25 : Int32) S) (fun r2 S3 => if r2 = 0 then zb2 (f_M_takes0 (5 : Int32) S3) (fun r6 S7 => if r6 = 0 then some S7 else zb1 (f_M_readTest fu 64 (0 : Int32) S7) (fun S10 => some S10)) else zb1 (f_M_mustNumber (1 : Int32) (20 : Int32) S3) (fun S12 => zb2 (f_M_takes0 (5 : Int32) S12) (fun r14 S15 => if r14 = 0 then some S15 else zb1 (f_M_readTest fu 64 (0 : Int32) S15) (fun S18 => some S18))))
def f_M_readOrder (fu : Nat) (S : zSt) : Option zSt := zb2 (f_M_takes0 (22 : Int32) S) (fun r2 S3 => if r2 = 0 then zb2 (f_M_takes0 (23 : Int32) S3) (fun r12 S13 => if r12 = 0 then zb2 (f_M_takes0 (21 : Int32) S13) (fun r16 S17 => if r16 = 0 then zb1 (f_M_must (24 : Int32) S17) (fun S20 => f_M_readOrder_60 fu S20) else zb1 (f_M_readSum fu 64 (0 : Int32) S17) (fun S22 => f_M_readOrder_60 fu S22)) else zb1 (f_M_readSum fu 64 (0 : Int32) S13) (fun S24 => zb1 (f_M_must (10 : Int32) S24) (fun S26 => zb1 (f_M_readSum fu 64 (0 : Int32) S26) (fun S28 => f_M_readOrder_60 fu S28)))) else zb1 (f_M_readSum fu 64 (0 : Int32) S3) (fun S6 => zb1 (f_M_must (10 : Int32) S6) (fun S8 => zb1 (f_M_readSum fu 64 (0 : Int32) S8) (fun S10 => f_M_readOrder_60 fu S10))))
set_option maxRecDepth 100000 in
set_option maxHeartbeats 4000000 in
theorem c_M_readOrder_60 {p : Program} {l : Launch} {e : Env} {s : State} {m : MethodId} {args : Array Value} {below : List Frame} {meth : Method} {c : Code} {G : zG} (C : zC p s m args meth c G b_M_readOrder 1 y_M_readOrder.cls) (hret : meth.sig.returnType = none) {fu : Nat} {S1 : zSt} : ∀ (S : zSt) , f_M_readOrder_60 fu  S = some S1 → zJ p l e rm_M_readOrder s m args below meth c G true 1 0 0 (zQm below G args s rm_M_readOrder true none S1) S 60 [(0, zr (some 72))] [] := by
  intro S h
  unfold f_M_readOrder_60 at h
  refine z_aload_n C 0 rfl d_M_readOrder_60 rfl ?_
  refine z_bipush C (25 : Int32) (by decide) d_M_readOrder_61 ?_
  obtain ⟨r2, S3, h1, h⟩ := zb2_some h
  refine z_cV C 11 (by decide) (m_M_takes0 l h1) mf_M_takes0 lk_11_188 in_M_takes0 se_M_takes0 rfl zo_72 zk_72 ⟨rfl, rfl⟩ ⟨by decide, by decide⟩ ⟨Nat.zero_le _, Nat.zero_le _⟩ rfl _ [] rfl (Nat.le_of_ble_eq_true rfl) d_M_readOrder_63 ?_
  rcases zite h with ⟨c4, h⟩ | ⟨c4, h⟩
  · refine z_if_eqt C 76 c4 d_M_readOrder_66 (by decide) ?_
    refine z_aload_n C 0 rfl d_M_readOrder_76 rfl ?_
    refine z_iconst C (5 : Int32) (by decide) d_M_readOrder_77 ?_
    obtain ⟨r6, S7, h5, h⟩ := zb2_some h
    refine z_cV C 11 (by decide) (m_M_takes0 l h5) mf_M_takes0 lk_11_188 in_M_takes0 se_M_takes0 rfl zo_72 zk_72 ⟨rfl, rfl⟩ ⟨by decide, by decide⟩ ⟨Nat.zero_le _, Nat.zero_le _⟩ rfl _ [] rfl (Nat.le_of_ble_eq_true rfl) d_M_readOrder_78 ?_
    rcases zite h with ⟨c8, h⟩ | ⟨c8, h⟩
    · refine z_if_eqt C 89 c8 d_M_readOrder_81 (by decide) ?_
      cases h
      exact z_vret C hret ⟨Nat.zero_le _, Nat.zero_le _⟩ d_M_readOrder_89
    · refine z_if_eqf C 89 c8 d_M_readOrder_81 (by decide) ?_
      refine z_aload_n C 0 rfl d_M_readOrder_84 rfl ?_
      refine z_iconst C (0 : Int32) (by decide) d_M_readOrder_85 ?_
      obtain ⟨S10, h9, h⟩ := zb1_some h
      refine z_cV C 11 (by decide) (m_M_readTest l h9) mf_M_readTest lk_11_204 in_M_readTest se_M_readTest rfl zo_72 zk_72 ⟨rfl, rfl⟩ ⟨by decide, by decide⟩ ⟨Nat.zero_le _, Nat.zero_le _⟩ rfl _ [] rfl (Nat.le_of_ble_eq_true rfl) d_M_readOrder_86 ?_
      cases h
      exact z_vret C hret ⟨Nat.zero_le _, Nat.zero_le _⟩ d_M_readOrder_89
  · refine z_if_eqf C 76 c4 d_M_readOrder_66 (by decide) ?_
    refine z_aload_n C 0 rfl d_M_readOrder_69 rfl ?_
    refine z_iconst C (1 : Int32) (by decide) d_M_readOrder_70 ?_
    refine z_bipush C (20 : Int32) (by decide) d_M_readOrder_71 ?_
    obtain ⟨S12, h11, h⟩ := zb1_some h
    refine z_cV C 11 (by decide) (m_M_mustNumber l h11) mf_M_mustNumber lk_11_207 in_M_mustNumber se_M_mustNumber rfl zo_72 zk_72 ⟨rfl, rfl⟩ ⟨by decide, by decide⟩ ⟨Nat.zero_le _, Nat.zero_le _⟩ rfl _ [] rfl (Nat.le_of_ble_eq_true rfl) d_M_readOrder_73 ?_
    refine z_aload_n C 0 rfl d_M_readOrder_76 rfl ?_
    refine z_iconst C (5 : Int32) (by decide) d_M_readOrder_77 ?_
    obtain ⟨r14, S15, h13, h⟩ := zb2_some h
    refine z_cV C 11 (by decide) (m_M_takes0 l h13) mf_M_takes0 lk_11_188 in_M_takes0 se_M_takes0 rfl zo_72 zk_72 ⟨rfl, rfl⟩ ⟨by decide, by decide⟩ ⟨Nat.zero_le _, Nat.zero_le _⟩ rfl _ [] rfl (Nat.le_of_ble_eq_true rfl) d_M_readOrder_78 ?_
    rcases zite h with ⟨c16, h⟩ | ⟨c16, h⟩
    · refine z_if_eqt C 89 c16 d_M_readOrder_81 (by decide) ?_
      cases h
      exact z_vret C hret ⟨Nat.zero_le _, Nat.zero_le _⟩ d_M_readOrder_89
    · refine z_if_eqf C 89 c16 d_M_readOrder_81 (by decide) ?_
      refine z_aload_n C 0 rfl d_M_readOrder_84 rfl ?_
      refine z_iconst C (0 : Int32) (by decide) d_M_readOrder_85 ?_
      obtain ⟨S18, h17, h⟩ := zb1_some h
      refine z_cV C 11 (by decide) (m_M_readTest l h17) mf_M_readTest lk_11_204 in_M_readTest se_M_readTest rfl zo_72 zk_72 ⟨rfl, rfl⟩ ⟨by decide, by decide⟩ ⟨Nat.zero_le _, Nat.zero_le _⟩ rfl _ [] rfl (Nat.le_of_ble_eq_true rfl) d_M_readOrder_86 ?_
      cases h
      exact z_vret C hret ⟨Nat.zero_le _, Nat.zero_le _⟩ d_M_readOrder_89
set_option maxRecDepth 100000 in
set_option maxHeartbeats 4000000 in
theorem m_M_readOrder (l : Launch) {fu : Nat} {S : zSt} {S1 : zSt} (h : f_M_readOrder fu  S = some S1) : zPM l y_M_readOrder b_M_readOrder 1 none rm_M_readOrder true true [zr (some 72)] S none S1 := by
  refine zPM_of (by decide) (Nat.le_of_ble_eq_true rfl) (fun p e s m args below meth c G C hret hname => ?_)
  unfold f_M_readOrder at h
  refine (?_ : zJ p l e rm_M_readOrder s m args below meth c G true 1 0 0 (zQm below G args s rm_M_readOrder true none S1) S 0 [(0, zr (some 72))] [])
  refine z_aload_n C 0 rfl d_M_readOrder_0 rfl ?_
  refine z_bipush C (22 : Int32) (by decide) d_M_readOrder_1 ?_
  obtain ⟨r2, S3, h1, h⟩ := zb2_some h
  refine z_cV C 11 (by decide) (m_M_takes0 l h1) mf_M_takes0 lk_11_188 in_M_takes0 se_M_takes0 rfl zo_72 zk_72 ⟨rfl, rfl⟩ ⟨by decide, by decide⟩ ⟨Nat.zero_le _, Nat.zero_le _⟩ rfl _ [] rfl (Nat.le_of_ble_eq_true rfl) d_M_readOrder_3 ?_
  rcases zite h with ⟨c4, h⟩ | ⟨c4, h⟩
  · refine z_if_nef C 18 c4 d_M_readOrder_6 (by decide) ?_
    refine z_aload_n C 0 rfl d_M_readOrder_9 rfl ?_
    refine z_bipush C (23 : Int32) (by decide) d_M_readOrder_10 ?_
    obtain ⟨r12, S13, h11, h⟩ := zb2_some h
    refine z_cV C 11 (by decide) (m_M_takes0 l h11) mf_M_takes0 lk_11_188 in_M_takes0 se_M_takes0 rfl zo_72 zk_72 ⟨rfl, rfl⟩ ⟨by decide, by decide⟩ ⟨Nat.zero_le _, Nat.zero_le _⟩ rfl _ [] rfl (Nat.le_of_ble_eq_true rfl) d_M_readOrder_12 ?_
    rcases zite h with ⟨c14, h⟩ | ⟨c14, h⟩
    · refine z_if_eqt C 37 c14 d_M_readOrder_15 (by decide) ?_
      refine z_aload_n C 0 rfl d_M_readOrder_37 rfl ?_
      refine z_bipush C (21 : Int32) (by decide) d_M_readOrder_38 ?_
      obtain ⟨r16, S17, h15, h⟩ := zb2_some h
      refine z_cV C 11 (by decide) (m_M_takes0 l h15) mf_M_takes0 lk_11_188 in_M_takes0 se_M_takes0 rfl zo_72 zk_72 ⟨rfl, rfl⟩ ⟨by decide, by decide⟩ ⟨Nat.zero_le _, Nat.zero_le _⟩ rfl _ [] rfl (Nat.le_of_ble_eq_true rfl) d_M_readOrder_40 ?_
      rcases zite h with ⟨c18, h⟩ | ⟨c18, h⟩
      · refine z_if_eqt C 54 c18 d_M_readOrder_43 (by decide) ?_
        refine z_aload_n C 0 rfl d_M_readOrder_54 rfl ?_
        refine z_bipush C (24 : Int32) (by decide) d_M_readOrder_55 ?_
        obtain ⟨S20, h19, h⟩ := zb1_some h
        refine z_cV C 11 (by decide) (m_M_must l h19) mf_M_must lk_11_201 in_M_must se_M_must rfl zo_72 zk_72 ⟨rfl, rfl⟩ ⟨by decide, by decide⟩ ⟨Nat.zero_le _, Nat.zero_le _⟩ rfl _ [] rfl (Nat.le_of_ble_eq_true rfl) d_M_readOrder_57 ?_
        refine zq_lsub [0] [(0, zr (some 72))] rfl ?_
        exact c_M_readOrder_60 C hret   S20 h
      · refine z_if_eqf C 54 c18 d_M_readOrder_43 (by decide) ?_
        refine z_aload_n C 0 rfl d_M_readOrder_46 rfl ?_
        refine z_iconst C (0 : Int32) (by decide) d_M_readOrder_47 ?_
        obtain ⟨S22, h21, h⟩ := zb1_some h
        refine z_cV C 11 (by decide) (m_M_readSum l h21) mf_M_readSum lk_11_197 in_M_readSum se_M_readSum rfl zo_72 zk_72 ⟨rfl, rfl⟩ ⟨by decide, by decide⟩ ⟨Nat.zero_le _, Nat.zero_le _⟩ rfl _ [] rfl (Nat.le_of_ble_eq_true rfl) d_M_readOrder_48 ?_
        refine z_goto C 60 d_M_readOrder_51 (by decide) ?_
        refine zq_lsub [0] [(0, zr (some 72))] rfl ?_
        exact c_M_readOrder_60 C hret   S22 h
    · refine z_if_eqf C 37 c14 d_M_readOrder_15 (by decide) ?_
      refine z_aload_n C 0 rfl d_M_readOrder_18 rfl ?_
      refine z_iconst C (0 : Int32) (by decide) d_M_readOrder_19 ?_
      obtain ⟨S24, h23, h⟩ := zb1_some h
      refine z_cV C 11 (by decide) (m_M_readSum l h23) mf_M_readSum lk_11_197 in_M_readSum se_M_readSum rfl zo_72 zk_72 ⟨rfl, rfl⟩ ⟨by decide, by decide⟩ ⟨Nat.zero_le _, Nat.zero_le _⟩ rfl _ [] rfl (Nat.le_of_ble_eq_true rfl) d_M_readOrder_20 ?_
      refine z_aload_n C 0 rfl d_M_readOrder_23 rfl ?_
      refine z_bipush C (10 : Int32) (by decide) d_M_readOrder_24 ?_
      obtain ⟨S26, h25, h⟩ := zb1_some h
      refine z_cV C 11 (by decide) (m_M_must l h25) mf_M_must lk_11_201 in_M_must se_M_must rfl zo_72 zk_72 ⟨rfl, rfl⟩ ⟨by decide, by decide⟩ ⟨Nat.zero_le _, Nat.zero_le _⟩ rfl _ [] rfl (Nat.le_of_ble_eq_true rfl) d_M_readOrder_26 ?_
      refine z_aload_n C 0 rfl d_M_readOrder_29 rfl ?_
      refine z_iconst C (0 : Int32) (by decide) d_M_readOrder_30 ?_
      obtain ⟨S28, h27, h⟩ := zb1_some h
      refine z_cV C 11 (by decide) (m_M_readSum l h27) mf_M_readSum lk_11_197 in_M_readSum se_M_readSum rfl zo_72 zk_72 ⟨rfl, rfl⟩ ⟨by decide, by decide⟩ ⟨Nat.zero_le _, Nat.zero_le _⟩ rfl _ [] rfl (Nat.le_of_ble_eq_true rfl) d_M_readOrder_31 ?_
      refine z_goto C 60 d_M_readOrder_34 (by decide) ?_
      refine zq_lsub [0] [(0, zr (some 72))] rfl ?_
      exact c_M_readOrder_60 C hret   S28 h
  · refine z_if_net C 18 c4 d_M_readOrder_6 (by decide) ?_
    refine z_aload_n C 0 rfl d_M_readOrder_18 rfl ?_
    refine z_iconst C (0 : Int32) (by decide) d_M_readOrder_19 ?_
    obtain ⟨S6, h5, h⟩ := zb1_some h
    refine z_cV C 11 (by decide) (m_M_readSum l h5) mf_M_readSum lk_11_197 in_M_readSum se_M_readSum rfl zo_72 zk_72 ⟨rfl, rfl⟩ ⟨by decide, by decide⟩ ⟨Nat.zero_le _, Nat.zero_le _⟩ rfl _ [] rfl (Nat.le_of_ble_eq_true rfl) d_M_readOrder_20 ?_
    refine z_aload_n C 0 rfl d_M_readOrder_23 rfl ?_
    refine z_bipush C (10 : Int32) (by decide) d_M_readOrder_24 ?_
    obtain ⟨S8, h7, h⟩ := zb1_some h
    refine z_cV C 11 (by decide) (m_M_must l h7) mf_M_must lk_11_201 in_M_must se_M_must rfl zo_72 zk_72 ⟨rfl, rfl⟩ ⟨by decide, by decide⟩ ⟨Nat.zero_le _, Nat.zero_le _⟩ rfl _ [] rfl (Nat.le_of_ble_eq_true rfl) d_M_readOrder_26 ?_
    refine z_aload_n C 0 rfl d_M_readOrder_29 rfl ?_
    refine z_iconst C (0 : Int32) (by decide) d_M_readOrder_30 ?_
    obtain ⟨S10, h9, h⟩ := zb1_some h
    refine z_cV C 11 (by decide) (m_M_readSum l h9) mf_M_readSum lk_11_197 in_M_readSum se_M_readSum rfl zo_72 zk_72 ⟨rfl, rfl⟩ ⟨by decide, by decide⟩ ⟨Nat.zero_le _, Nat.zero_le _⟩ rfl _ [] rfl (Nat.le_of_ble_eq_true rfl) d_M_readOrder_31 ?_
    refine z_goto C 60 d_M_readOrder_34 (by decide) ?_
    refine zq_lsub [0] [(0, zr (some 72))] rfl ?_
    exact c_M_readOrder_60 C hret   S10 h
def f_M_readClause_24 (fu : Nat) (S : zSt) : Option zSt := zb1 (f_M_readSum fu 64 (0 : Int32) S) (fun S2 => zb2 (f_M_takes0 (5 : Int32) S2) (fun r4 S5 => if r4 = 0 then some S5 else zb1 (f_M_readTest fu 64 (0 : Int32) S5) (fun S8 => some S8)))
def f_M_readClause (fu : Nat) (S : zSt) : Option zSt := zb2 (f_M_takes0 (1 : Int32) S) (fun r2 S3 => if r2 = 0 then zb2 (f_M_takes0 (2 : Int32) S3) (fun r6 S7 => if r6 = 0 then zb2 (f_M_takes0 (3 : Int32) S7) (fun r10 S11 => if r10 = 0 then zb1 (f_M_must (4 : Int32) S11) (fun S14 => zb2 (f_M_takes0 (5 : Int32) S14) (fun r16 S17 => if r16 = 0 then some S17 else zb1 (f_M_readTest fu 64 (0 : Int32) S17) (fun S20 => some S20))) else f_M_readClause_24 fu S11) else f_M_readClause_24 fu S7) else f_M_readClause_24 fu S3)
set_option maxRecDepth 100000 in
set_option maxHeartbeats 4000000 in
theorem c_M_readClause_24 {p : Program} {l : Launch} {e : Env} {s : State} {m : MethodId} {args : Array Value} {below : List Frame} {meth : Method} {c : Code} {G : zG} (C : zC p s m args meth c G b_M_readClause 1 y_M_readClause.cls) (hret : meth.sig.returnType = none) {fu : Nat} {S1 : zSt} : ∀ (S : zSt) , f_M_readClause_24 fu  S = some S1 → zJ p l e rm_M_readClause s m args below meth c G true 1 0 0 (zQm below G args s rm_M_readClause true none S1) S 24 [(0, zr (some 72))] [] := by
  intro S h
  unfold f_M_readClause_24 at h
  refine z_aload_n C 0 rfl d_M_readClause_24 rfl ?_
  refine z_iconst C (0 : Int32) (by decide) d_M_readClause_25 ?_
  obtain ⟨S2, h1, h⟩ := zb1_some h
  refine z_cV C 11 (by decide) (m_M_readSum l h1) mf_M_readSum lk_11_197 in_M_readSum se_M_readSum rfl zo_72 zk_72 ⟨rfl, rfl⟩ ⟨by decide, by decide⟩ ⟨Nat.zero_le _, Nat.zero_le _⟩ rfl _ [] rfl (Nat.le_of_ble_eq_true rfl) d_M_readClause_26 ?_
  refine z_goto C 37 d_M_readClause_29 (by decide) ?_
  refine z_aload_n C 0 rfl d_M_readClause_37 rfl ?_
  refine z_iconst C (5 : Int32) (by decide) d_M_readClause_38 ?_
  obtain ⟨r4, S5, h3, h⟩ := zb2_some h
  refine z_cV C 11 (by decide) (m_M_takes0 l h3) mf_M_takes0 lk_11_188 in_M_takes0 se_M_takes0 rfl zo_72 zk_72 ⟨rfl, rfl⟩ ⟨by decide, by decide⟩ ⟨Nat.zero_le _, Nat.zero_le _⟩ rfl _ [] rfl (Nat.le_of_ble_eq_true rfl) d_M_readClause_39 ?_
  rcases zite h with ⟨c6, h⟩ | ⟨c6, h⟩
  · refine z_if_eqt C 50 c6 d_M_readClause_42 (by decide) ?_
    cases h
    exact z_vret C hret ⟨Nat.zero_le _, Nat.zero_le _⟩ d_M_readClause_50
  · refine z_if_eqf C 50 c6 d_M_readClause_42 (by decide) ?_
    refine z_aload_n C 0 rfl d_M_readClause_45 rfl ?_
    refine z_iconst C (0 : Int32) (by decide) d_M_readClause_46 ?_
    obtain ⟨S8, h7, h⟩ := zb1_some h
    refine z_cV C 11 (by decide) (m_M_readTest l h7) mf_M_readTest lk_11_204 in_M_readTest se_M_readTest rfl zo_72 zk_72 ⟨rfl, rfl⟩ ⟨by decide, by decide⟩ ⟨Nat.zero_le _, Nat.zero_le _⟩ rfl _ [] rfl (Nat.le_of_ble_eq_true rfl) d_M_readClause_47 ?_
    cases h
    exact z_vret C hret ⟨Nat.zero_le _, Nat.zero_le _⟩ d_M_readClause_50
set_option maxRecDepth 100000 in
set_option maxHeartbeats 4000000 in
theorem m_M_readClause (l : Launch) {fu : Nat} {S : zSt} {S1 : zSt} (h : f_M_readClause fu  S = some S1) : zPM l y_M_readClause b_M_readClause 1 none rm_M_readClause true true [zr (some 72)] S none S1 := by
  refine zPM_of (by decide) (Nat.le_of_ble_eq_true rfl) (fun p e s m args below meth c G C hret hname => ?_)
  unfold f_M_readClause at h
  refine (?_ : zJ p l e rm_M_readClause s m args below meth c G true 1 0 0 (zQm below G args s rm_M_readClause true none S1) S 0 [(0, zr (some 72))] [])
  refine z_aload_n C 0 rfl d_M_readClause_0 rfl ?_
  refine z_iconst C (1 : Int32) (by decide) d_M_readClause_1 ?_
  obtain ⟨r2, S3, h1, h⟩ := zb2_some h
  refine z_cV C 11 (by decide) (m_M_takes0 l h1) mf_M_takes0 lk_11_188 in_M_takes0 se_M_takes0 rfl zo_72 zk_72 ⟨rfl, rfl⟩ ⟨by decide, by decide⟩ ⟨Nat.zero_le _, Nat.zero_le _⟩ rfl _ [] rfl (Nat.le_of_ble_eq_true rfl) d_M_readClause_2 ?_
  rcases zite h with ⟨c4, h⟩ | ⟨c4, h⟩
  · refine z_if_nef C 24 c4 d_M_readClause_5 (by decide) ?_
    refine z_aload_n C 0 rfl d_M_readClause_8 rfl ?_
    refine z_iconst C (2 : Int32) (by decide) d_M_readClause_9 ?_
    obtain ⟨r6, S7, h5, h⟩ := zb2_some h
    refine z_cV C 11 (by decide) (m_M_takes0 l h5) mf_M_takes0 lk_11_188 in_M_takes0 se_M_takes0 rfl zo_72 zk_72 ⟨rfl, rfl⟩ ⟨by decide, by decide⟩ ⟨Nat.zero_le _, Nat.zero_le _⟩ rfl _ [] rfl (Nat.le_of_ble_eq_true rfl) d_M_readClause_10 ?_
    rcases zite h with ⟨c8, h⟩ | ⟨c8, h⟩
    · refine z_if_nef C 24 c8 d_M_readClause_13 (by decide) ?_
      refine z_aload_n C 0 rfl d_M_readClause_16 rfl ?_
      refine z_iconst C (3 : Int32) (by decide) d_M_readClause_17 ?_
      obtain ⟨r10, S11, h9, h⟩ := zb2_some h
      refine z_cV C 11 (by decide) (m_M_takes0 l h9) mf_M_takes0 lk_11_188 in_M_takes0 se_M_takes0 rfl zo_72 zk_72 ⟨rfl, rfl⟩ ⟨by decide, by decide⟩ ⟨Nat.zero_le _, Nat.zero_le _⟩ rfl _ [] rfl (Nat.le_of_ble_eq_true rfl) d_M_readClause_18 ?_
      rcases zite h with ⟨c12, h⟩ | ⟨c12, h⟩
      · refine z_if_eqt C 32 c12 d_M_readClause_21 (by decide) ?_
        refine z_aload_n C 0 rfl d_M_readClause_32 rfl ?_
        refine z_iconst C (4 : Int32) (by decide) d_M_readClause_33 ?_
        obtain ⟨S14, h13, h⟩ := zb1_some h
        refine z_cV C 11 (by decide) (m_M_must l h13) mf_M_must lk_11_201 in_M_must se_M_must rfl zo_72 zk_72 ⟨rfl, rfl⟩ ⟨by decide, by decide⟩ ⟨Nat.zero_le _, Nat.zero_le _⟩ rfl _ [] rfl (Nat.le_of_ble_eq_true rfl) d_M_readClause_34 ?_
        refine z_aload_n C 0 rfl d_M_readClause_37 rfl ?_
        refine z_iconst C (5 : Int32) (by decide) d_M_readClause_38 ?_
        obtain ⟨r16, S17, h15, h⟩ := zb2_some h
        refine z_cV C 11 (by decide) (m_M_takes0 l h15) mf_M_takes0 lk_11_188 in_M_takes0 se_M_takes0 rfl zo_72 zk_72 ⟨rfl, rfl⟩ ⟨by decide, by decide⟩ ⟨Nat.zero_le _, Nat.zero_le _⟩ rfl _ [] rfl (Nat.le_of_ble_eq_true rfl) d_M_readClause_39 ?_
        rcases zite h with ⟨c18, h⟩ | ⟨c18, h⟩
        · refine z_if_eqt C 50 c18 d_M_readClause_42 (by decide) ?_
          cases h
          exact z_vret C hret ⟨Nat.zero_le _, Nat.zero_le _⟩ d_M_readClause_50
        · refine z_if_eqf C 50 c18 d_M_readClause_42 (by decide) ?_
          refine z_aload_n C 0 rfl d_M_readClause_45 rfl ?_
          refine z_iconst C (0 : Int32) (by decide) d_M_readClause_46 ?_
          obtain ⟨S20, h19, h⟩ := zb1_some h
          refine z_cV C 11 (by decide) (m_M_readTest l h19) mf_M_readTest lk_11_204 in_M_readTest se_M_readTest rfl zo_72 zk_72 ⟨rfl, rfl⟩ ⟨by decide, by decide⟩ ⟨Nat.zero_le _, Nat.zero_le _⟩ rfl _ [] rfl (Nat.le_of_ble_eq_true rfl) d_M_readClause_47 ?_
          cases h
          exact z_vret C hret ⟨Nat.zero_le _, Nat.zero_le _⟩ d_M_readClause_50
      · refine z_if_eqf C 32 c12 d_M_readClause_21 (by decide) ?_
        refine zq_lsub [0] [(0, zr (some 72))] rfl ?_
        exact c_M_readClause_24 C hret   S11 h
    · refine z_if_net C 24 c8 d_M_readClause_13 (by decide) ?_
      refine zq_lsub [0] [(0, zr (some 72))] rfl ?_
      exact c_M_readClause_24 C hret   S7 h
  · refine z_if_net C 24 c4 d_M_readClause_5 (by decide) ?_
    refine zq_lsub [0] [(0, zr (some 72))] rfl ?_
    exact c_M_readClause_24 C hret   S3 h
def f_M_readOne (fu : Nat) (S : zSt) : Option zSt := if (zI S 72 10) = 0 then zb1 (f_M_readClause fu S) (fun S3 => some S3) else zb1 (f_M_readOrder fu S) (fun S5 => some S5)
set_option maxRecDepth 100000 in
set_option maxHeartbeats 4000000 in
theorem m_M_readOne (l : Launch) {fu : Nat} {S : zSt} {S1 : zSt} (h : f_M_readOne fu  S = some S1) : zPM l y_M_readOne b_M_readOne 1 none rm_M_readOne true true [zr (some 72)] S none S1 := by
  refine zPM_of (by decide) (Nat.le_of_ble_eq_true rfl) (fun p e s m args below meth c G C hret hname => ?_)
  unfold f_M_readOne at h
  refine (?_ : zJ p l e rm_M_readOne s m args below meth c G true 1 0 0 (zQm below G args s rm_M_readOne true none S1) S 0 [(0, zr (some 72))] [])
  refine z_aload_n C 0 rfl d_M_readOne_0 rfl ?_
  refine z_getI C 11 (by decide) 10 (by decide) rfl zo_72 zk_72 zfl_11_211 d_M_readOne_1 ?_
  rcases zite h with ⟨c1, h⟩ | ⟨c1, h⟩
  · refine z_if_eqt C 14 c1 d_M_readOne_4 (by decide) ?_
    refine z_aload_n C 0 rfl d_M_readOne_14 rfl ?_
    obtain ⟨S3, h2, h⟩ := zb1_some h
    refine z_cV C 11 (by decide) (m_M_readClause l h2) mf_M_readClause lk_11_218 in_M_readClause se_M_readClause rfl zo_72 zk_72 ⟨rfl, rfl⟩ ⟨by decide, by decide⟩ ⟨Nat.zero_le _, Nat.zero_le _⟩ rfl _ [] rfl (Nat.le_of_ble_eq_true rfl) d_M_readOne_15 ?_
    cases h
    exact z_vret C hret ⟨Nat.zero_le _, Nat.zero_le _⟩ d_M_readOne_18
  · refine z_if_eqf C 14 c1 d_M_readOne_4 (by decide) ?_
    refine z_aload_n C 0 rfl d_M_readOne_7 rfl ?_
    obtain ⟨S5, h4, h⟩ := zb1_some h
    refine z_cV C 11 (by decide) (m_M_readOrder l h4) mf_M_readOrder lk_11_215 in_M_readOrder se_M_readOrder rfl zo_72 zk_72 ⟨rfl, rfl⟩ ⟨by decide, by decide⟩ ⟨Nat.zero_le _, Nat.zero_le _⟩ rfl _ [] rfl (Nat.le_of_ble_eq_true rfl) d_M_readOne_8 ?_
    refine z_goto C 18 d_M_readOne_11 (by decide) ?_
    cases h
    exact z_vret C hret ⟨Nat.zero_le _, Nat.zero_le _⟩ d_M_readOne_18
def f_M_reads_73 (fu : Nat) (S : zSt) : Option (Int32 × zSt) := zb1 (f_M_fine S) (fun r2 => if r2 = 0 then zb1 (f_M_fine (zwI S 72 14 (zI S 72 21))) (fun r5 => zgd (r5 = 0 ∨ r5 = 1) (some (r5, zwI S 72 14 (zI S 72 21)))) else if (zI S 72 18) ≤ (zI S 72 19) then zb1 (f_M_fine (zwI S 72 14 (zI S 72 21))) (fun r9 => zgd (r9 = 0 ∨ r9 = 1) (some (r9, zwI S 72 14 (zI S 72 21)))) else zb1 (f_M_faults S) (fun S12 => zb1 (f_M_fine (zwI S12 72 14 (zI S12 72 21))) (fun r14 => zgd (r14 = 0 ∨ r14 = 1) (some (r14, zwI S12 72 14 (zI S12 72 21))))))
def f_M_reads_34 (fu : Nat) : Nat → Int32 → zSt → Option (Int32 × zSt)
  | 0, _, _ => none
  | n + 1, a1, S => zb1 (f_M_sign (59 : Int32)) (fun r2 => zb2 (f_M_takes0 r2 S) (fun r4 S5 => if r4 = 0 then f_M_reads_73 fu S5 else if a1 = (12 : Int32) then zb1 (f_M_faults S5) (fun S14 => zb1 (f_M_fine S14) (fun r16 => if r16 = 0 then f_M_reads_34 fu n (a1 + (1 : Int32)) S14 else zb1 (f_M_readOne fu S14) (fun S19 => f_M_reads_34 fu n (a1 + (1 : Int32)) S19))) else zb1 (f_M_fine S5) (fun r9 => if r9 = 0 then f_M_reads_34 fu n (a1 + (1 : Int32)) S5 else zb1 (f_M_readOne fu S5) (fun S12 => f_M_reads_34 fu n (a1 + (1 : Int32)) S12))))
def f_M_reads (fu : Nat) (S : zSt) : Option (Int32 × zSt) := zb1 (f_M_splits fu (zI S 72 13) S) (fun S2 => zb1 (f_M_readOne fu (zwI (zwI (zwI (zwI S2 72 13 (0 : Int32)) 72 19 (0 : Int32)) 72 20 (0 : Int32)) 72 21 (-1 : Int32))) (fun S4 => f_M_reads_34 fu fu (1 : Int32) S4))
set_option maxRecDepth 100000 in
set_option maxHeartbeats 4000000 in
theorem c_M_reads_73 {p : Program} {l : Launch} {e : Env} {s : State} {m : MethodId} {args : Array Value} {below : List Frame} {meth : Method} {c : Code} {G : zG} (C : zC p s m args meth c G b_M_reads 2 y_M_reads.cls) (hret : meth.sig.returnType = (some .boolean)) {fu : Nat} {r : Int32} {S1 : zSt} : ∀ (S : zSt) , f_M_reads_73 fu  S = some (r, S1) → zJ p l e rm_M_reads s m args below meth c G true 2 0 0 (zQm below G args s rm_M_reads true (some (zi r)) S1) S 73 [(0, zr (some 72))] [] := by
  intro S h
  unfold f_M_reads_73 at h
  refine z_aload_n C 0 rfl d_M_reads_73 rfl ?_
  obtain ⟨r2, h1, h⟩ := zb1_some h
  refine z_cV C 11 (by decide) (m_M_fine l h1) mf_M_fine lk_11_181 in_M_fine se_M_fine rfl zo_72 zk_72 ⟨rfl, rfl⟩ ⟨by decide, by decide⟩ ⟨Nat.zero_le _, Nat.zero_le _⟩ rfl _ [] rfl (Nat.le_of_ble_eq_true rfl) d_M_reads_74 ?_
  rcases zite h with ⟨c3, h⟩ | ⟨c3, h⟩
  · refine z_if_eqt C 95 c3 d_M_reads_77 (by decide) ?_
    refine z_aload_n C 0 rfl d_M_reads_95 rfl ?_
    refine z_aload_n C 0 rfl d_M_reads_96 rfl ?_
    refine z_getI C 11 (by decide) 21 (by decide) rfl zo_72 zk_72 zfl_11_178 d_M_reads_97 ?_
    refine z_putI C 11 (by decide) 14 (by decide) rfl (Or.inl rfl) zo_72 zk_72 zfl_11_47 (Or.inl rfl) d_M_reads_100 ?_
    refine z_aload_n C 0 rfl d_M_reads_103 rfl ?_
    obtain ⟨r5, h4, h⟩ := zb1_some h
    refine z_cV C 11 (by decide) (m_M_fine l h4) mf_M_fine lk_11_181 in_M_fine se_M_fine rfl zo_72 zk_72 ⟨rfl, rfl⟩ ⟨by decide, by decide⟩ ⟨Nat.zero_le _, Nat.zero_le _⟩ rfl _ [] rfl (Nat.le_of_ble_eq_true rfl) d_M_reads_104 ?_
    obtain ⟨g6, h⟩ := zgd_some h
    cases h
    exact z_iret C .boolean hret (by rcases g6 with e | e <;> rw [e] <;> rfl) ⟨Nat.zero_le _, Nat.zero_le _⟩ d_M_reads_107
  · refine z_if_eqf C 95 c3 d_M_reads_77 (by decide) ?_
    refine z_aload_n C 0 rfl d_M_reads_80 rfl ?_
    refine z_getI C 11 (by decide) 19 (by decide) rfl zo_72 zk_72 zfl_11_185 d_M_reads_81 ?_
    refine z_aload_n C 0 rfl d_M_reads_84 rfl ?_
    refine z_getI C 11 (by decide) 18 (by decide) rfl zo_72 zk_72 zfl_11_165 d_M_reads_85 ?_
    rcases zite h with ⟨c7, h⟩ | ⟨c7, h⟩
    · refine z_icmp_get C 95 c7 d_M_reads_88 (by decide) ?_
      refine z_aload_n C 0 rfl d_M_reads_95 rfl ?_
      refine z_aload_n C 0 rfl d_M_reads_96 rfl ?_
      refine z_getI C 11 (by decide) 21 (by decide) rfl zo_72 zk_72 zfl_11_178 d_M_reads_97 ?_
      refine z_putI C 11 (by decide) 14 (by decide) rfl (Or.inl rfl) zo_72 zk_72 zfl_11_47 (Or.inl rfl) d_M_reads_100 ?_
      refine z_aload_n C 0 rfl d_M_reads_103 rfl ?_
      obtain ⟨r9, h8, h⟩ := zb1_some h
      refine z_cV C 11 (by decide) (m_M_fine l h8) mf_M_fine lk_11_181 in_M_fine se_M_fine rfl zo_72 zk_72 ⟨rfl, rfl⟩ ⟨by decide, by decide⟩ ⟨Nat.zero_le _, Nat.zero_le _⟩ rfl _ [] rfl (Nat.le_of_ble_eq_true rfl) d_M_reads_104 ?_
      obtain ⟨g10, h⟩ := zgd_some h
      cases h
      exact z_iret C .boolean hret (by rcases g10 with e | e <;> rw [e] <;> rfl) ⟨Nat.zero_le _, Nat.zero_le _⟩ d_M_reads_107
    · refine z_icmp_gef C 95 c7 d_M_reads_88 (by decide) ?_
      refine z_aload_n C 0 rfl d_M_reads_91 rfl ?_
      obtain ⟨S12, h11, h⟩ := zb1_some h
      refine z_cV C 11 (by decide) (m_M_faults l h11) mf_M_faults lk_11_191 in_M_faults se_M_faults rfl zo_72 zk_72 ⟨rfl, rfl⟩ ⟨by decide, by decide⟩ ⟨Nat.zero_le _, Nat.zero_le _⟩ rfl _ [] rfl (Nat.le_of_ble_eq_true rfl) d_M_reads_92 ?_
      refine z_aload_n C 0 rfl d_M_reads_95 rfl ?_
      refine z_aload_n C 0 rfl d_M_reads_96 rfl ?_
      refine z_getI C 11 (by decide) 21 (by decide) rfl zo_72 zk_72 zfl_11_178 d_M_reads_97 ?_
      refine z_putI C 11 (by decide) 14 (by decide) rfl (Or.inl rfl) zo_72 zk_72 zfl_11_47 (Or.inl rfl) d_M_reads_100 ?_
      refine z_aload_n C 0 rfl d_M_reads_103 rfl ?_
      obtain ⟨r14, h13, h⟩ := zb1_some h
      refine z_cV C 11 (by decide) (m_M_fine l h13) mf_M_fine lk_11_181 in_M_fine se_M_fine rfl zo_72 zk_72 ⟨rfl, rfl⟩ ⟨by decide, by decide⟩ ⟨Nat.zero_le _, Nat.zero_le _⟩ rfl _ [] rfl (Nat.le_of_ble_eq_true rfl) d_M_reads_104 ?_
      obtain ⟨g15, h⟩ := zgd_some h
      cases h
      exact z_iret C .boolean hret (by rcases g15 with e | e <;> rw [e] <;> rfl) ⟨Nat.zero_le _, Nat.zero_le _⟩ d_M_reads_107
set_option maxRecDepth 100000 in
set_option maxHeartbeats 4000000 in
theorem c_M_reads_34 {p : Program} {l : Launch} {e : Env} {s : State} {m : MethodId} {args : Array Value} {below : List Frame} {meth : Method} {c : Code} {G : zG} (C : zC p s m args meth c G b_M_reads 2 y_M_reads.cls) (hret : meth.sig.returnType = (some .boolean)) {fu : Nat} {r : Int32} {S1 : zSt} : ∀ (n : Nat) (a1 : Int32) (S : zSt) , f_M_reads_34 fu n a1 S = some (r, S1) → zJ p l e rm_M_reads s m args below meth c G true 2 0 0 (zQm below G args s rm_M_reads true (some (zi r)) S1) S 34 [(0, zr (some 72)), (1, zi a1)] [] := by
  intro n
  induction n with
  | zero =>
    intro a1 S h
    cases h
  | succ n ih =>
    intro a1 S h
    rw [f_M_reads_34] at h
    refine z_aload_n C 0 rfl d_M_reads_34 rfl ?_
    refine z_bipush C (59 : Int32) (by decide) d_M_reads_35 ?_
    obtain ⟨r2, h1, h⟩ := zb1_some h
    refine z_cS C (m_M_sign l h1) mf_M_sign lk_11_227 st_M_sign ⟨rfl, rfl⟩ ⟨by decide, by decide⟩ ⟨Nat.zero_le _, Nat.zero_le _⟩ rfl _ [zr (some 72)] rfl (Nat.le_of_ble_eq_true rfl) d_M_reads_37 ?_
    obtain ⟨r4, S5, h3, h⟩ := zb2_some h
    refine z_cV C 11 (by decide) (m_M_takes0 l h3) mf_M_takes0 lk_11_188 in_M_takes0 se_M_takes0 rfl zo_72 zk_72 ⟨rfl, rfl⟩ ⟨by decide, by decide⟩ ⟨Nat.zero_le _, Nat.zero_le _⟩ rfl _ [] rfl (Nat.le_of_ble_eq_true rfl) d_M_reads_40 ?_
    rcases zite h with ⟨c6, h⟩ | ⟨c6, h⟩
    · refine z_if_eqt C 73 c6 d_M_reads_43 (by decide) ?_
      refine zq_lsub [0] [(0, zr (some 72))] rfl ?_
      exact c_M_reads_73 C hret   S5 h
    · refine z_if_eqf C 73 c6 d_M_reads_43 (by decide) ?_
      refine z_iload_n C 1 rfl d_M_reads_46 rfl ?_
      refine z_bipush C (12 : Int32) (by decide) d_M_reads_47 ?_
      rcases zite h with ⟨c7, h⟩ | ⟨c7, h⟩
      · refine z_icmp_nef C 56 c7 d_M_reads_49 (by decide) ?_
        refine z_aload_n C 0 rfl d_M_reads_52 rfl ?_
        obtain ⟨S14, h13, h⟩ := zb1_some h
        refine z_cV C 11 (by decide) (m_M_faults l h13) mf_M_faults lk_11_191 in_M_faults se_M_faults rfl zo_72 zk_72 ⟨rfl, rfl⟩ ⟨by decide, by decide⟩ ⟨Nat.zero_le _, Nat.zero_le _⟩ rfl _ [] rfl (Nat.le_of_ble_eq_true rfl) d_M_reads_53 ?_
        refine z_aload_n C 0 rfl d_M_reads_56 rfl ?_
        obtain ⟨r16, h15, h⟩ := zb1_some h
        refine z_cV C 11 (by decide) (m_M_fine l h15) mf_M_fine lk_11_181 in_M_fine se_M_fine rfl zo_72 zk_72 ⟨rfl, rfl⟩ ⟨by decide, by decide⟩ ⟨Nat.zero_le _, Nat.zero_le _⟩ rfl _ [] rfl (Nat.le_of_ble_eq_true rfl) d_M_reads_57 ?_
        rcases zite h with ⟨c17, h⟩ | ⟨c17, h⟩
        · refine z_if_eqt C 67 c17 d_M_reads_60 (by decide) ?_
          refine z_iinc C 1 (a1 + (1 : Int32)) [(1, zi (a1 + (1 : Int32))), (0, zr (some 72))] rfl d_M_reads_67 (by first | rfl | decide) (by decide) rfl ?_
          refine z_goto C 34 d_M_reads_70 (by decide) ?_
          refine zq_lsub [1, 0] [(0, zr (some 72)), (1, zi (a1 + (1 : Int32)))] rfl ?_
          exact ih (a1 + (1 : Int32)) S14 h
        · refine z_if_eqf C 67 c17 d_M_reads_60 (by decide) ?_
          refine z_aload_n C 0 rfl d_M_reads_63 rfl ?_
          obtain ⟨S19, h18, h⟩ := zb1_some h
          refine z_cV C 11 (by decide) (m_M_readOne l h18) mf_M_readOne lk_11_249 in_M_readOne se_M_readOne rfl zo_72 zk_72 ⟨rfl, rfl⟩ ⟨by decide, by decide⟩ ⟨Nat.zero_le _, Nat.zero_le _⟩ rfl _ [] rfl (Nat.le_of_ble_eq_true rfl) d_M_reads_64 ?_
          refine z_iinc C 1 (a1 + (1 : Int32)) [(1, zi (a1 + (1 : Int32))), (0, zr (some 72))] rfl d_M_reads_67 (by first | rfl | decide) (by decide) rfl ?_
          refine z_goto C 34 d_M_reads_70 (by decide) ?_
          refine zq_lsub [1, 0] [(0, zr (some 72)), (1, zi (a1 + (1 : Int32)))] rfl ?_
          exact ih (a1 + (1 : Int32)) S19 h
      · refine z_icmp_net C 56 c7 d_M_reads_49 (by decide) ?_
        refine z_aload_n C 0 rfl d_M_reads_56 rfl ?_
        obtain ⟨r9, h8, h⟩ := zb1_some h
        refine z_cV C 11 (by decide) (m_M_fine l h8) mf_M_fine lk_11_181 in_M_fine se_M_fine rfl zo_72 zk_72 ⟨rfl, rfl⟩ ⟨by decide, by decide⟩ ⟨Nat.zero_le _, Nat.zero_le _⟩ rfl _ [] rfl (Nat.le_of_ble_eq_true rfl) d_M_reads_57 ?_
        rcases zite h with ⟨c10, h⟩ | ⟨c10, h⟩
        · refine z_if_eqt C 67 c10 d_M_reads_60 (by decide) ?_
          refine z_iinc C 1 (a1 + (1 : Int32)) [(1, zi (a1 + (1 : Int32))), (0, zr (some 72))] rfl d_M_reads_67 (by first | rfl | decide) (by decide) rfl ?_
          refine z_goto C 34 d_M_reads_70 (by decide) ?_
          refine zq_lsub [1, 0] [(0, zr (some 72)), (1, zi (a1 + (1 : Int32)))] rfl ?_
          exact ih (a1 + (1 : Int32)) S5 h
        · refine z_if_eqf C 67 c10 d_M_reads_60 (by decide) ?_
          refine z_aload_n C 0 rfl d_M_reads_63 rfl ?_
          obtain ⟨S12, h11, h⟩ := zb1_some h
          refine z_cV C 11 (by decide) (m_M_readOne l h11) mf_M_readOne lk_11_249 in_M_readOne se_M_readOne rfl zo_72 zk_72 ⟨rfl, rfl⟩ ⟨by decide, by decide⟩ ⟨Nat.zero_le _, Nat.zero_le _⟩ rfl _ [] rfl (Nat.le_of_ble_eq_true rfl) d_M_reads_64 ?_
          refine z_iinc C 1 (a1 + (1 : Int32)) [(1, zi (a1 + (1 : Int32))), (0, zr (some 72))] rfl d_M_reads_67 (by first | rfl | decide) (by decide) rfl ?_
          refine z_goto C 34 d_M_reads_70 (by decide) ?_
          refine zq_lsub [1, 0] [(0, zr (some 72)), (1, zi (a1 + (1 : Int32)))] rfl ?_
          exact ih (a1 + (1 : Int32)) S12 h
set_option maxRecDepth 100000 in
set_option maxHeartbeats 4000000 in
theorem m_M_reads (l : Launch) {fu : Nat} {S : zSt} {r : Int32} {S1 : zSt} (h : f_M_reads fu  S = some (r, S1)) : zPM l y_M_reads b_M_reads 2 (some .boolean) rm_M_reads true true [zr (some 72)] S (some (zi r)) S1 := by
  refine zPM_of (by decide) (Nat.le_of_ble_eq_true rfl) (fun p e s m args below meth c G C hret hname => ?_)
  unfold f_M_reads at h
  refine (?_ : zJ p l e rm_M_reads s m args below meth c G true 2 0 0 (zQm below G args s rm_M_reads true (some (zi r)) S1) S 0 [(0, zr (some 72))] [])
  refine z_aload_n C 0 rfl d_M_reads_0 rfl ?_
  refine z_aload_n C 0 rfl d_M_reads_1 rfl ?_
  refine z_getI C 11 (by decide) 13 (by decide) rfl zo_72 zk_72 zfl_11_159 d_M_reads_2 ?_
  obtain ⟨S2, h1, h⟩ := zb1_some h
  refine z_cV C 11 (by decide) (m_M_splits l h1) mf_M_splits lk_11_246 in_M_splits se_M_splits rfl zo_72 zk_72 ⟨rfl, rfl⟩ ⟨by decide, by decide⟩ ⟨Nat.zero_le _, Nat.zero_le _⟩ rfl _ [] rfl (Nat.le_of_ble_eq_true rfl) d_M_reads_5 ?_
  refine z_aload_n C 0 rfl d_M_reads_8 rfl ?_
  refine z_iconst C (0 : Int32) (by decide) d_M_reads_9 ?_
  refine z_putI C 11 (by decide) 13 (by decide) rfl (Or.inl rfl) zo_72 zk_72 zfl_11_159 (Or.inl rfl) d_M_reads_10 ?_
  refine z_aload_n C 0 rfl d_M_reads_13 rfl ?_
  refine z_iconst C (0 : Int32) (by decide) d_M_reads_14 ?_
  refine z_putI C 11 (by decide) 19 (by decide) rfl (Or.inl rfl) zo_72 zk_72 zfl_11_185 (Or.inl rfl) d_M_reads_15 ?_
  refine z_aload_n C 0 rfl d_M_reads_18 rfl ?_
  refine z_iconst C (0 : Int32) (by decide) d_M_reads_19 ?_
  refine z_putI C 11 (by decide) 20 (by decide) rfl (Or.inl rfl) zo_72 zk_72 zfl_11_194 (Or.inl rfl) d_M_reads_20 ?_
  refine z_aload_n C 0 rfl d_M_reads_23 rfl ?_
  refine z_iconst C (-1 : Int32) (by decide) d_M_reads_24 ?_
  refine z_putI C 11 (by decide) 21 (by decide) rfl (Or.inl rfl) zo_72 zk_72 zfl_11_178 (Or.inl rfl) d_M_reads_25 ?_
  refine z_aload_n C 0 rfl d_M_reads_28 rfl ?_
  obtain ⟨S4, h3, h⟩ := zb1_some h
  refine z_cV C 11 (by decide) (m_M_readOne l h3) mf_M_readOne lk_11_249 in_M_readOne se_M_readOne rfl zo_72 zk_72 ⟨rfl, rfl⟩ ⟨by decide, by decide⟩ ⟨Nat.zero_le _, Nat.zero_le _⟩ rfl _ [] rfl (Nat.le_of_ble_eq_true rfl) d_M_reads_29 ?_
  refine z_iconst C (1 : Int32) (by decide) d_M_reads_32 ?_
  refine z_istore_n C [(1, zi (1 : Int32)), (0, zr (some 72))] d_M_reads_33 rfl (by decide) rfl ?_
  refine zq_lsub [1, 0] [(0, zr (some 72)), (1, zi (1 : Int32))] rfl ?_
  exact c_M_reads_34 C hret fu  (1 : Int32) S4 h
def f_M_readsAs_17 (fu : Nat) (a1 : Int32) (k0 : Int32) (S : zSt) : Option (Int32 × zSt) := if a1 = 0 then zb2 (f_M_reads fu (zwI (zwI S 72 8 k0) 72 9 (15 : Int32))) (fun r3 S4 => zgd (r3 = 0 ∨ r3 = 1) (some (r3, S4))) else zb2 (f_M_reads fu (zwI (zwI S 72 8 k0) 72 9 (20 : Int32))) (fun r7 S8 => zgd (r7 = 0 ∨ r7 = 1) (some (r7, S8)))
def f_M_readsAs (fu : Nat) (a1 : Int32) (S : zSt) : Option (Int32 × zSt) := zgd (a1 = 0 ∨ a1 = 1) (if a1 = 0 then f_M_readsAs_17 fu a1 (9 : Int32) (zwI S 72 10 a1) else f_M_readsAs_17 fu a1 (14 : Int32) (zwI S 72 10 a1))
set_option maxRecDepth 100000 in
set_option maxHeartbeats 4000000 in
theorem c_M_readsAs_17 {p : Program} {l : Launch} {e : Env} {s : State} {m : MethodId} {args : Array Value} {below : List Frame} {meth : Method} {c : Code} {G : zG} (C : zC p s m args meth c G b_M_readsAs 2 y_M_readsAs.cls) (hret : meth.sig.returnType = (some .boolean)) {fu : Nat} {r : Int32} {S1 : zSt} : ∀ (a1 : Int32) (k0 : Int32) (S : zSt) , f_M_readsAs_17 fu a1 k0 S = some (r, S1) → zJ p l e rm_M_readsAs s m args below meth c G true 2 0 0 (zQm below G args s rm_M_readsAs true (some (zi r)) S1) S 17 [(0, zr (some 72)), (1, zi a1)] [zi k0, zr (some 72)] := by
  intro a1 k0 S h
  unfold f_M_readsAs_17 at h
  refine z_putI C 11 (by decide) 8 (by decide) rfl (Or.inl rfl) zo_72 zk_72 zfl_11_237 (Or.inl rfl) d_M_readsAs_17 ?_
  refine z_aload_n C 0 rfl d_M_readsAs_20 rfl ?_
  refine z_iload_n C 1 rfl d_M_readsAs_21 rfl ?_
  rcases zite h with ⟨c1, h⟩ | ⟨c1, h⟩
  · refine z_if_eqt C 30 c1 d_M_readsAs_22 (by decide) ?_
    refine z_bipush C (15 : Int32) (by decide) d_M_readsAs_30 ?_
    refine z_putI C 11 (by decide) 9 (by decide) rfl (Or.inl rfl) zo_72 zk_72 zfl_11_240 (Or.inl rfl) d_M_readsAs_32 ?_
    refine z_aload_n C 0 rfl d_M_readsAs_35 rfl ?_
    obtain ⟨r3, S4, h2, h⟩ := zb2_some h
    refine z_cV C 11 (by decide) (m_M_reads l h2) mf_M_reads lk_11_252 in_M_reads se_M_reads rfl zo_72 zk_72 ⟨rfl, rfl⟩ ⟨by decide, by decide⟩ ⟨Nat.zero_le _, Nat.zero_le _⟩ rfl _ [] rfl (Nat.le_of_ble_eq_true rfl) d_M_readsAs_36 ?_
    obtain ⟨g5, h⟩ := zgd_some h
    cases h
    exact z_iret C .boolean hret (by rcases g5 with e | e <;> rw [e] <;> rfl) ⟨Nat.zero_le _, Nat.zero_le _⟩ d_M_readsAs_39
  · refine z_if_eqf C 30 c1 d_M_readsAs_22 (by decide) ?_
    refine z_bipush C (20 : Int32) (by decide) d_M_readsAs_25 ?_
    refine z_goto C 32 d_M_readsAs_27 (by decide) ?_
    refine z_putI C 11 (by decide) 9 (by decide) rfl (Or.inl rfl) zo_72 zk_72 zfl_11_240 (Or.inl rfl) d_M_readsAs_32 ?_
    refine z_aload_n C 0 rfl d_M_readsAs_35 rfl ?_
    obtain ⟨r7, S8, h6, h⟩ := zb2_some h
    refine z_cV C 11 (by decide) (m_M_reads l h6) mf_M_reads lk_11_252 in_M_reads se_M_reads rfl zo_72 zk_72 ⟨rfl, rfl⟩ ⟨by decide, by decide⟩ ⟨Nat.zero_le _, Nat.zero_le _⟩ rfl _ [] rfl (Nat.le_of_ble_eq_true rfl) d_M_readsAs_36 ?_
    obtain ⟨g9, h⟩ := zgd_some h
    cases h
    exact z_iret C .boolean hret (by rcases g9 with e | e <;> rw [e] <;> rfl) ⟨Nat.zero_le _, Nat.zero_le _⟩ d_M_readsAs_39
set_option maxRecDepth 100000 in
set_option maxHeartbeats 4000000 in
theorem m_M_readsAs (l : Launch) {fu : Nat} {a1 : Int32} {S : zSt} {r : Int32} {S1 : zSt} (h : f_M_readsAs fu a1 S = some (r, S1)) : zPM l y_M_readsAs b_M_readsAs 2 (some .boolean) rm_M_readsAs true true [zr (some 72), zi a1] S (some (zi r)) S1 := by
  refine zPM_of (by decide) (Nat.le_of_ble_eq_true rfl) (fun p e s m args below meth c G C hret hname => ?_)
  unfold f_M_readsAs at h
  refine (?_ : zJ p l e rm_M_readsAs s m args below meth c G true 2 0 0 (zQm below G args s rm_M_readsAs true (some (zi r)) S1) S 0 [(0, zr (some 72)), (1, zi a1)] [])
  refine z_aload_n C 0 rfl d_M_readsAs_0 rfl ?_
  refine z_iload_n C 1 rfl d_M_readsAs_1 rfl ?_
  obtain ⟨g1, h⟩ := zgd_some h
  refine z_putI C 11 (by decide) 10 (by decide) rfl (Or.inr g1) zo_72 zk_72 zfl_11_211 (Or.inl rfl) d_M_readsAs_2 ?_
  refine z_aload_n C 0 rfl d_M_readsAs_5 rfl ?_
  refine z_iload_n C 1 rfl d_M_readsAs_6 rfl ?_
  rcases zite h with ⟨c2, h⟩ | ⟨c2, h⟩
  · refine z_if_eqt C 15 c2 d_M_readsAs_7 (by decide) ?_
    refine z_bipush C (9 : Int32) (by decide) d_M_readsAs_15 ?_
    refine zq_lsub [0, 1] [(0, zr (some 72)), (1, zi a1)] rfl ?_
    exact c_M_readsAs_17 C hret  a1 (9 : Int32) (zwI S 72 10 a1) h
  · refine z_if_eqf C 15 c2 d_M_readsAs_7 (by decide) ?_
    refine z_bipush C (14 : Int32) (by decide) d_M_readsAs_10 ?_
    refine z_goto C 17 d_M_readsAs_12 (by decide) ?_
    refine zq_lsub [0, 1] [(0, zr (some 72)), (1, zi a1)] rfl ?_
    exact c_M_readsAs_17 C hret  a1 (14 : Int32) (zwI S 72 10 a1) h
def f_M_lays_16 (fu : Nat) : Nat → Int32 → Int32 → zSt → Option zSt
  | 0, _, _, _ => none
  | n + 1, a1, a2, S => if (zI S 72 18) ≤ a2 then some S else zgd (0 ≤ a2 ∧ a2.toNatClampNeg < 401) (zgd (0 ≤ (((207 : Int32) + ((400 : Int32) * a1)) + a2) ∧ (((207 : Int32) + ((400 : Int32) * a1)) + a2).toNatClampNeg < 5807) (zgd (0 ≤ a2 ∧ a2.toNatClampNeg < 401) (zgd (0 ≤ (((3007 : Int32) + ((400 : Int32) * a1)) + a2) ∧ (((3007 : Int32) + ((400 : Int32) * a1)) + a2).toNatClampNeg < 5807) (f_M_lays_16 fu n a1 (a2 + (1 : Int32)) (zwI (zwI S 74 (((207 : Int32) + ((400 : Int32) * a1)) + a2).toNatClampNeg (zI S 81 a2.toNatClampNeg)) 74 (((3007 : Int32) + ((400 : Int32) * a1)) + a2).toNatClampNeg (zI (zwI S 74 (((207 : Int32) + ((400 : Int32) * a1)) + a2).toNatClampNeg (zI S 81 a2.toNatClampNeg)) 82 a2.toNatClampNeg))))))
def f_M_lays (fu : Nat) (a1 : Int32) (S : zSt) : Option zSt := zgd (0 ≤ ((200 : Int32) + a1) ∧ ((200 : Int32) + a1).toNatClampNeg < 5807) (f_M_lays_16 fu fu a1 (0 : Int32) (zwI S 74 ((200 : Int32) + a1).toNatClampNeg (zI S 72 18)))
set_option maxRecDepth 100000 in
set_option maxHeartbeats 4000000 in
theorem c_M_lays_16 {p : Program} {l : Launch} {e : Env} {s : State} {m : MethodId} {args : Array Value} {below : List Frame} {meth : Method} {c : Code} {G : zG} (C : zC p s m args meth c G b_M_lays 3 y_M_lays.cls) (hret : meth.sig.returnType = none) {fu : Nat} {S1 : zSt} : ∀ (n : Nat) (a1 : Int32) (a2 : Int32) (S : zSt) , f_M_lays_16 fu n a1 a2 S = some S1 → zJ p l e rm_M_lays s m args below meth c G true 3 0 0 (zQm below G args s rm_M_lays true none S1) S 16 [(0, zr (some 72)), (1, zi a1), (2, zi a2)] [] := by
  intro n
  induction n with
  | zero =>
    intro a1 a2 S h
    cases h
  | succ n ih =>
    intro a1 a2 S h
    rw [f_M_lays_16] at h
    refine z_iload_n C 2 rfl d_M_lays_16 rfl ?_
    refine z_aload_n C 0 rfl d_M_lays_17 rfl ?_
    refine z_getI C 11 (by decide) 18 (by decide) rfl zo_72 zk_72 zfl_11_165 d_M_lays_18 ?_
    rcases zite h with ⟨c1, h⟩ | ⟨c1, h⟩
    · refine z_icmp_get C 74 c1 d_M_lays_21 (by decide) ?_
      cases h
      exact z_vret C hret ⟨Nat.zero_le _, Nat.zero_le _⟩ d_M_lays_74
    · refine z_icmp_gef C 74 c1 d_M_lays_21 (by decide) ?_
      refine z_aload_n C 0 rfl d_M_lays_24 rfl ?_
      refine z_getF2 C 11 (by decide) 2 (by decide) rfl 2 5807 rfl (74) rfl zp_72 zk_72 zfl_11_24 d_M_lays_25 ?_
      refine z_sipush C (207 : Int32) (by decide) d_M_lays_28 ?_
      refine z_sipush C (400 : Int32) (by decide) d_M_lays_31 ?_
      refine z_iload_n C 1 rfl d_M_lays_34 rfl ?_
      refine z_imul C d_M_lays_35 ?_
      refine z_iadd C d_M_lays_36 ?_
      refine z_iload_n C 2 rfl d_M_lays_37 rfl ?_
      refine z_iadd C d_M_lays_38 ?_
      refine z_aload_n C 0 rfl d_M_lays_39 rfl ?_
      refine z_getF2 C 11 (by decide) 15 (by decide) rfl 9 401 rfl (81) rfl zp_72 zk_72 zfl_11_50 d_M_lays_40 ?_
      refine z_iload_n C 2 rfl d_M_lays_43 rfl ?_
      refine z_fact (fun hSR => ?_)
      obtain ⟨g2, h⟩ := zgd_some h
      refine z_ialoadS C zo_81 zk_81 (za_81 hSR) g2 d_M_lays_44 ?_
      refine z_fact (fun hSR => ?_)
      obtain ⟨g3, h⟩ := zgd_some h
      refine z_iastoreS C zo_74 zk_74 (za_74 hSR) g3 d_M_lays_45 ?_
      refine z_aload_n C 0 rfl d_M_lays_46 rfl ?_
      refine z_getF2 C 11 (by decide) 2 (by decide) rfl 2 5807 rfl (74) rfl zp_72 zk_72 zfl_11_24 d_M_lays_47 ?_
      refine z_sipush C (3007 : Int32) (by decide) d_M_lays_50 ?_
      refine z_sipush C (400 : Int32) (by decide) d_M_lays_53 ?_
      refine z_iload_n C 1 rfl d_M_lays_56 rfl ?_
      refine z_imul C d_M_lays_57 ?_
      refine z_iadd C d_M_lays_58 ?_
      refine z_iload_n C 2 rfl d_M_lays_59 rfl ?_
      refine z_iadd C d_M_lays_60 ?_
      refine z_aload_n C 0 rfl d_M_lays_61 rfl ?_
      refine z_getF2 C 11 (by decide) 16 (by decide) rfl 10 401 rfl (82) rfl zp_72 zk_72 zfl_11_53 d_M_lays_62 ?_
      refine z_iload_n C 2 rfl d_M_lays_65 rfl ?_
      refine z_fact (fun hSR => ?_)
      obtain ⟨g4, h⟩ := zgd_some h
      refine z_ialoadS C zo_82 zk_82 (za_82 hSR) g4 d_M_lays_66 ?_
      refine z_fact (fun hSR => ?_)
      obtain ⟨g5, h⟩ := zgd_some h
      refine z_iastoreS C zo_74 zk_74 (za_74 hSR) g5 d_M_lays_67 ?_
      refine z_iinc C 2 (a2 + (1 : Int32)) [(2, zi (a2 + (1 : Int32))), (0, zr (some 72)), (1, zi a1)] rfl d_M_lays_68 (by first | rfl | decide) (by decide) rfl ?_
      refine z_goto C 16 d_M_lays_71 (by decide) ?_
      refine zq_lsub [1, 2, 0] [(0, zr (some 72)), (1, zi a1), (2, zi (a2 + (1 : Int32)))] rfl ?_
      exact ih a1 (a2 + (1 : Int32)) (zwI (zwI S 74 (((207 : Int32) + ((400 : Int32) * a1)) + a2).toNatClampNeg (zI S 81 a2.toNatClampNeg)) 74 (((3007 : Int32) + ((400 : Int32) * a1)) + a2).toNatClampNeg (zI (zwI S 74 (((207 : Int32) + ((400 : Int32) * a1)) + a2).toNatClampNeg (zI S 81 a2.toNatClampNeg)) 82 a2.toNatClampNeg)) h
set_option maxRecDepth 100000 in
set_option maxHeartbeats 4000000 in
theorem m_M_lays (l : Launch) {fu : Nat} {a1 : Int32} {S : zSt} {S1 : zSt} (h : f_M_lays fu a1 S = some S1) : zPM l y_M_lays b_M_lays 3 none rm_M_lays true true [zr (some 72), zi a1] S none S1 := by
  refine zPM_of (by decide) (Nat.le_of_ble_eq_true rfl) (fun p e s m args below meth c G C hret hname => ?_)
  unfold f_M_lays at h
  refine (?_ : zJ p l e rm_M_lays s m args below meth c G true 3 0 0 (zQm below G args s rm_M_lays true none S1) S 0 [(0, zr (some 72)), (1, zi a1)] [])
  refine z_aload_n C 0 rfl d_M_lays_0 rfl ?_
  refine z_getF2 C 11 (by decide) 2 (by decide) rfl 2 5807 rfl (74) rfl zp_72 zk_72 zfl_11_24 d_M_lays_1 ?_
  refine z_sipush C (200 : Int32) (by decide) d_M_lays_4 ?_
  refine z_iload_n C 1 rfl d_M_lays_7 rfl ?_
  refine z_iadd C d_M_lays_8 ?_
  refine z_aload_n C 0 rfl d_M_lays_9 rfl ?_
  refine z_getI C 11 (by decide) 18 (by decide) rfl zo_72 zk_72 zfl_11_165 d_M_lays_10 ?_
  refine z_fact (fun hSR => ?_)
  obtain ⟨g1, h⟩ := zgd_some h
  refine z_iastoreS C zo_74 zk_74 (za_74 hSR) g1 d_M_lays_13 ?_
  refine z_iconst C (0 : Int32) (by decide) d_M_lays_14 ?_
  refine z_istore_n C [(2, zi (0 : Int32)), (0, zr (some 72)), (1, zi a1)] d_M_lays_15 rfl (by decide) rfl ?_
  refine zq_lsub [1, 2, 0] [(0, zr (some 72)), (1, zi a1), (2, zi (0 : Int32))] rfl ?_
  exact c_M_lays_16 C hret fu  a1 (0 : Int32) (zwI S 74 ((200 : Int32) + a1).toNatClampNeg (zI S 72 18)) h
def f_M_law (fu : Nat) (S : zSt) : Option (Int32 × zSt) := if (zI S 74 (198 : Int32).toNatClampNeg) = (6 : Int32) then zb2 (f_M_refuses (-5 : Int32) (zwI S 72 13 (0 : Int32))) (fun r15 S16 => some (r15, S16)) else zb2 (f_M_readsAs fu (0 : Int32) S) (fun r3 S4 => if r3 = 0 then zb2 (f_M_refuses (-6 : Int32) S4) (fun r12 S13 => some (r12, S13)) else zb1 (f_M_lays fu (zI S4 74 (198 : Int32).toNatClampNeg) S4) (fun S7 => zb2 (f_M_good ((zI (zwI S7 74 (198 : Int32).toNatClampNeg ((zI S7 74 (198 : Int32).toNatClampNeg) + (1 : Int32))) 74 (198 : Int32).toNatClampNeg) - (1 : Int32)) (zwI S7 74 (198 : Int32).toNatClampNeg ((zI S7 74 (198 : Int32).toNatClampNeg) + (1 : Int32)))) (fun r9 S10 => some (r9, S10))))
set_option maxRecDepth 100000 in
set_option maxHeartbeats 4000000 in
theorem m_M_law (l : Launch) {fu : Nat} {S : zSt} {r : Int32} {S1 : zSt} (h : f_M_law fu  S = some (r, S1)) : zPM l y_M_law b_M_law 1 (some .int) rm_M_law true true [zr (some 72)] S (some (zi r)) S1 := by
  refine zPM_of (by decide) (Nat.le_of_ble_eq_true rfl) (fun p e s m args below meth c G C hret hname => ?_)
  unfold f_M_law at h
  refine (?_ : zJ p l e rm_M_law s m args below meth c G true 1 0 0 (zQm below G args s rm_M_law true (some (zi r)) S1) S 0 [(0, zr (some 72))] [])
  refine z_aload_n C 0 rfl d_M_law_0 rfl ?_
  refine z_getF2 C 11 (by decide) 2 (by decide) rfl 2 5807 rfl (74) rfl zp_72 zk_72 zfl_11_24 d_M_law_1 ?_
  refine z_sipush C (198 : Int32) (by decide) d_M_law_4 ?_
  refine z_fact (fun hSR => ?_)
  refine z_ialoadS C zo_74 zk_74 (za_74 hSR) (by decide) d_M_law_7 ?_
  refine z_bipush C (6 : Int32) (by decide) d_M_law_8 ?_
  rcases zite h with ⟨c1, h⟩ | ⟨c1, h⟩
  · refine z_icmp_nef C 25 c1 d_M_law_10 (by decide) ?_
    refine z_aload_n C 0 rfl d_M_law_13 rfl ?_
    refine z_iconst C (0 : Int32) (by decide) d_M_law_14 ?_
    refine z_putI C 11 (by decide) 13 (by decide) rfl (Or.inl rfl) zo_72 zk_72 zfl_11_159 (Or.inl rfl) d_M_law_15 ?_
    refine z_aload_n C 0 rfl d_M_law_18 rfl ?_
    refine z_bipush C (-5 : Int32) (by decide) d_M_law_19 ?_
    obtain ⟨r15, S16, h14, h⟩ := zb2_some h
    refine z_cV C 11 (by decide) (m_M_refuses l h14) mf_M_refuses lk_11_112 in_M_refuses se_M_refuses rfl zo_72 zk_72 ⟨rfl, rfl⟩ ⟨by decide, by decide⟩ ⟨Nat.zero_le _, Nat.zero_le _⟩ rfl _ [] rfl (Nat.le_of_ble_eq_true rfl) d_M_law_21 ?_
    cases h
    exact z_iret C .int hret rfl ⟨Nat.zero_le _, Nat.zero_le _⟩ d_M_law_24
  · refine z_icmp_net C 25 c1 d_M_law_10 (by decide) ?_
    refine z_aload_n C 0 rfl d_M_law_25 rfl ?_
    refine z_iconst C (0 : Int32) (by decide) d_M_law_26 ?_
    obtain ⟨r3, S4, h2, h⟩ := zb2_some h
    refine z_cV C 11 (by decide) (m_M_readsAs l h2) mf_M_readsAs lk_11_255 in_M_readsAs se_M_readsAs rfl zo_72 zk_72 ⟨rfl, rfl⟩ ⟨by decide, by decide⟩ ⟨Nat.zero_le _, Nat.zero_le _⟩ rfl _ [] rfl (Nat.le_of_ble_eq_true rfl) d_M_law_27 ?_
    rcases zite h with ⟨c5, h⟩ | ⟨c5, h⟩
    · refine z_if_nef C 40 c5 d_M_law_30 (by decide) ?_
      refine z_aload_n C 0 rfl d_M_law_33 rfl ?_
      refine z_bipush C (-6 : Int32) (by decide) d_M_law_34 ?_
      obtain ⟨r12, S13, h11, h⟩ := zb2_some h
      refine z_cV C 11 (by decide) (m_M_refuses l h11) mf_M_refuses lk_11_112 in_M_refuses se_M_refuses rfl zo_72 zk_72 ⟨rfl, rfl⟩ ⟨by decide, by decide⟩ ⟨Nat.zero_le _, Nat.zero_le _⟩ rfl _ [] rfl (Nat.le_of_ble_eq_true rfl) d_M_law_36 ?_
      cases h
      exact z_iret C .int hret rfl ⟨Nat.zero_le _, Nat.zero_le _⟩ d_M_law_39
    · refine z_if_net C 40 c5 d_M_law_30 (by decide) ?_
      refine z_aload_n C 0 rfl d_M_law_40 rfl ?_
      refine z_aload_n C 0 rfl d_M_law_41 rfl ?_
      refine z_getF2 C 11 (by decide) 2 (by decide) rfl 2 5807 rfl (74) rfl zp_72 zk_72 zfl_11_24 d_M_law_42 ?_
      refine z_sipush C (198 : Int32) (by decide) d_M_law_45 ?_
      refine z_fact (fun hSR => ?_)
      refine z_ialoadS C zo_74 zk_74 (za_74 hSR) (by decide) d_M_law_48 ?_
      obtain ⟨S7, h6, h⟩ := zb1_some h
      refine z_cV C 11 (by decide) (m_M_lays l h6) mf_M_lays lk_11_259 in_M_lays se_M_lays rfl zo_72 zk_72 ⟨rfl, rfl⟩ ⟨by decide, by decide⟩ ⟨Nat.zero_le _, Nat.zero_le _⟩ rfl _ [] rfl (Nat.le_of_ble_eq_true rfl) d_M_law_49 ?_
      refine z_aload_n C 0 rfl d_M_law_52 rfl ?_
      refine z_getF2 C 11 (by decide) 2 (by decide) rfl 2 5807 rfl (74) rfl zp_72 zk_72 zfl_11_24 d_M_law_53 ?_
      refine z_sipush C (198 : Int32) (by decide) d_M_law_56 ?_
      refine z_dup2 C rfl rfl d_M_law_59 ?_
      refine z_fact (fun hSR => ?_)
      refine z_ialoadS C zo_74 zk_74 (za_74 hSR) (by decide) d_M_law_60 ?_
      refine z_iconst C (1 : Int32) (by decide) d_M_law_61 ?_
      refine z_iadd C d_M_law_62 ?_
      refine z_fact (fun hSR => ?_)
      refine z_iastoreS C zo_74 zk_74 (za_74 hSR) (by decide) d_M_law_63 ?_
      refine z_aload_n C 0 rfl d_M_law_64 rfl ?_
      refine z_aload_n C 0 rfl d_M_law_65 rfl ?_
      refine z_getF2 C 11 (by decide) 2 (by decide) rfl 2 5807 rfl (74) rfl zp_72 zk_72 zfl_11_24 d_M_law_66 ?_
      refine z_sipush C (198 : Int32) (by decide) d_M_law_69 ?_
      refine z_fact (fun hSR => ?_)
      refine z_ialoadS C zo_74 zk_74 (za_74 hSR) (by decide) d_M_law_72 ?_
      refine z_iconst C (1 : Int32) (by decide) d_M_law_73 ?_
      refine z_isub C d_M_law_74 ?_
      obtain ⟨r9, S10, h8, h⟩ := zb2_some h
      refine z_cV C 11 (by decide) (m_M_good l h8) mf_M_good lk_11_14 in_M_good se_M_good rfl zo_72 zk_72 ⟨rfl, rfl⟩ ⟨by decide, by decide⟩ ⟨Nat.zero_le _, Nat.zero_le _⟩ rfl _ [] rfl (Nat.le_of_ble_eq_true rfl) d_M_law_75 ?_
      cases h
      exact z_iret C .int hret rfl ⟨Nat.zero_le _, Nat.zero_le _⟩ d_M_law_78
def f_M_fault (S : zSt) : Option Int32 := some (zI S 72 14)
set_option maxRecDepth 100000 in
set_option maxHeartbeats 4000000 in
theorem m_M_fault (l : Launch) {S : zSt} {r : Int32} (h : f_M_fault  S = some r) : zPM l y_M_fault b_M_fault 1 (some .int) rm_M_fault true true [zr (some 72)] S (some (zi r)) S := by
  refine zPM_of (by decide) (Nat.le_of_ble_eq_true rfl) (fun p e s m args below meth c G C hret hname => ?_)
  unfold f_M_fault at h
  refine (?_ : zJ p l e rm_M_fault s m args below meth c G true 1 0 0 (zQm below G args s rm_M_fault true (some (zi r)) S) S 0 [(0, zr (some 72))] [])
  refine z_aload_n C 0 rfl d_M_fault_0 rfl ?_
  refine z_getI C 11 (by decide) 14 (by decide) rfl zo_72 zk_72 zfl_11_47 d_M_fault_1 ?_
  cases h
  exact z_iret C .int hret rfl ⟨Nat.zero_le _, Nat.zero_le _⟩ d_M_fault_4
def f_M_isLaw (a1 : Int32) (S : zSt) : Option Int32 := zb1 (f_M_lies a1 (-1 : Int32) ((zI S 74 (198 : Int32).toNatClampNeg) - (1 : Int32))) (fun r2 => zgd (r2 = 0 ∨ r2 = 1) (some r2))
set_option maxRecDepth 100000 in
set_option maxHeartbeats 4000000 in
theorem m_M_isLaw (l : Launch) {a1 : Int32} {S : zSt} {r : Int32} (h : f_M_isLaw a1 S = some r) : zPM l y_M_isLaw b_M_isLaw 2 (some .boolean) rm_M_isLaw true true [zr (some 72), zi a1] S (some (zi r)) S := by
  refine zPM_of (by decide) (Nat.le_of_ble_eq_true rfl) (fun p e s m args below meth c G C hret hname => ?_)
  unfold f_M_isLaw at h
  refine (?_ : zJ p l e rm_M_isLaw s m args below meth c G true 2 0 0 (zQm below G args s rm_M_isLaw true (some (zi r)) S) S 0 [(0, zr (some 72)), (1, zi a1)] [])
  refine z_iload_n C 1 rfl d_M_isLaw_0 rfl ?_
  refine z_iconst C (-1 : Int32) (by decide) d_M_isLaw_1 ?_
  refine z_aload_n C 0 rfl d_M_isLaw_2 rfl ?_
  refine z_getF2 C 11 (by decide) 2 (by decide) rfl 2 5807 rfl (74) rfl zp_72 zk_72 zfl_11_24 d_M_isLaw_3 ?_
  refine z_sipush C (198 : Int32) (by decide) d_M_isLaw_6 ?_
  refine z_fact (fun hSR => ?_)
  refine z_ialoadS C zo_74 zk_74 (za_74 hSR) (by decide) d_M_isLaw_9 ?_
  refine z_iconst C (1 : Int32) (by decide) d_M_isLaw_10 ?_
  refine z_isub C d_M_isLaw_11 ?_
  obtain ⟨r2, h1, h⟩ := zb1_some h
  refine z_cS C (m_M_lies l h1) mf_M_lies lk_11_108 st_M_lies ⟨rfl, rfl⟩ ⟨by decide, by decide⟩ ⟨Nat.zero_le _, Nat.zero_le _⟩ rfl _ [] rfl (Nat.le_of_ble_eq_true rfl) d_M_isLaw_12 ?_
  obtain ⟨g3, h⟩ := zgd_some h
  cases h
  exact z_iret C .boolean hret (by rcases g3 with e | e <;> rw [e] <;> rfl) ⟨Nat.zero_le _, Nat.zero_le _⟩ d_M_isLaw_15
def f_M_force (a1 : Int32) (S : zSt) : Option (Int32 × zSt) := zb1 (f_M_isLaw a1 S) (fun r2 => if r2 = 0 then zb2 (f_M_refuses (-2 : Int32) S) (fun r8 S9 => some (r8, S9)) else zb2 (f_M_good (zI S 74 (199 : Int32).toNatClampNeg) (zwI S 74 (199 : Int32).toNatClampNeg a1)) (fun r5 S6 => some (r5, S6)))
set_option maxRecDepth 100000 in
set_option maxHeartbeats 4000000 in
theorem m_M_force (l : Launch) {a1 : Int32} {S : zSt} {r : Int32} {S1 : zSt} (h : f_M_force a1 S = some (r, S1)) : zPM l y_M_force b_M_force 3 (some .int) rm_M_force true true [zr (some 72), zi a1] S (some (zi r)) S1 := by
  refine zPM_of (by decide) (Nat.le_of_ble_eq_true rfl) (fun p e s m args below meth c G C hret hname => ?_)
  unfold f_M_force at h
  refine (?_ : zJ p l e rm_M_force s m args below meth c G true 3 0 0 (zQm below G args s rm_M_force true (some (zi r)) S1) S 0 [(0, zr (some 72)), (1, zi a1)] [])
  refine z_aload_n C 0 rfl d_M_force_0 rfl ?_
  refine z_iload_n C 1 rfl d_M_force_1 rfl ?_
  obtain ⟨r2, h1, h⟩ := zb1_some h
  refine z_cV C 11 (by decide) (m_M_isLaw l h1) mf_M_isLaw lk_11_262 in_M_isLaw se_M_isLaw rfl zo_72 zk_72 ⟨rfl, rfl⟩ ⟨by decide, by decide⟩ ⟨Nat.zero_le _, Nat.zero_le _⟩ rfl _ [] rfl (Nat.le_of_ble_eq_true rfl) d_M_force_2 ?_
  rcases zite h with ⟨c3, h⟩ | ⟨c3, h⟩
  · refine z_if_nef C 15 c3 d_M_force_5 (by decide) ?_
    refine z_aload_n C 0 rfl d_M_force_8 rfl ?_
    refine z_bipush C (-2 : Int32) (by decide) d_M_force_9 ?_
    obtain ⟨r8, S9, h7, h⟩ := zb2_some h
    refine z_cV C 11 (by decide) (m_M_refuses l h7) mf_M_refuses lk_11_112 in_M_refuses se_M_refuses rfl zo_72 zk_72 ⟨rfl, rfl⟩ ⟨by decide, by decide⟩ ⟨Nat.zero_le _, Nat.zero_le _⟩ rfl _ [] rfl (Nat.le_of_ble_eq_true rfl) d_M_force_11 ?_
    cases h
    exact z_iret C .int hret rfl ⟨Nat.zero_le _, Nat.zero_le _⟩ d_M_force_14
  · refine z_if_net C 15 c3 d_M_force_5 (by decide) ?_
    refine z_aload_n C 0 rfl d_M_force_15 rfl ?_
    refine z_getF2 C 11 (by decide) 2 (by decide) rfl 2 5807 rfl (74) rfl zp_72 zk_72 zfl_11_24 d_M_force_16 ?_
    refine z_sipush C (199 : Int32) (by decide) d_M_force_19 ?_
    refine z_fact (fun hSR => ?_)
    refine z_ialoadS C zo_74 zk_74 (za_74 hSR) (by decide) d_M_force_22 ?_
    refine z_istore_n C [(2, zi (zI S 74 (199 : Int32).toNatClampNeg)), (0, zr (some 72)), (1, zi a1)] d_M_force_23 rfl (by decide) rfl ?_
    refine z_aload_n C 1 rfl d_M_force_24 rfl ?_
    refine z_getF2 C 11 (by decide) 2 (by decide) rfl 2 5807 rfl (74) rfl zp_72 zk_72 zfl_11_24 d_M_force_25 ?_
    refine z_sipush C (199 : Int32) (by decide) d_M_force_28 ?_
    refine z_iload_n C 2 rfl d_M_force_31 rfl ?_
    refine z_fact (fun hSR => ?_)
    refine z_iastoreS C zo_74 zk_74 (za_74 hSR) (by decide) d_M_force_32 ?_
    refine z_aload_n C 1 rfl d_M_force_33 rfl ?_
    refine z_iload_n C 0 rfl d_M_force_34 rfl ?_
    obtain ⟨r5, S6, h4, h⟩ := zb2_some h
    refine z_cV C 11 (by decide) (m_M_good l h4) mf_M_good lk_11_14 in_M_good se_M_good rfl zo_72 zk_72 ⟨rfl, rfl⟩ ⟨by decide, by decide⟩ ⟨Nat.zero_le _, Nat.zero_le _⟩ rfl _ [] rfl (Nat.le_of_ble_eq_true rfl) d_M_force_35 ?_
    cases h
    exact z_iret C .int hret rfl ⟨Nat.zero_le _, Nat.zero_le _⟩ d_M_force_38

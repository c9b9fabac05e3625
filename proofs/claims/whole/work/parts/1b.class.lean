/-! printed by dec4.py: 1b.class -/
abbrev rm_E_row : Room := { frames := 4, cells := 0, slots := 0, locals := 137 }
abbrev rm_E_bubbles : Room := { frames := 1, cells := 0, slots := 0, locals := 64 }
abbrev rm_Ar_fillI : Room := { frames := 1, cells := 0, slots := 0, locals := 64 }
abbrev rm_Tx_clear : Room := { frames := 2, cells := 0, slots := 0, locals := 87 }
abbrev rm_Ta_kindAt : Room := { frames := 1, cells := 0, slots := 0, locals := 64 }
abbrev rm_Ta_numberAtHand : Room := { frames := 1, cells := 0, slots := 0, locals := 64 }
abbrev rm_Ta_next : Room := { frames := 2, cells := 0, slots := 0, locals := 86 }
abbrev rm_Ta_begin : Room := { frames := 3, cells := 0, slots := 0, locals := 108 }
abbrev rm_Ta_isWord : Room := { frames := 8, cells := 0, slots := 0, locals := 400 }
abbrev rm_Ta_takeWord : Room := { frames := 9, cells := 0, slots := 0, locals := 422 }
abbrev rm_Re_takeOrder : Room := { frames := 10, cells := 0, slots := 0, locals := 444 }
abbrev rm_Re_takeLaw : Room := { frames := 10, cells := 0, slots := 0, locals := 444 }
abbrev rm_Tx_begin : Room := { frames := 1, cells := 0, slots := 0, locals := 64 }
abbrev rm_Re_sumsOfOrder : Room := { frames := 1, cells := 0, slots := 0, locals := 64 }
abbrev rm_Re_sumsOfLaw : Room := { frames := 1, cells := 0, slots := 0, locals := 64 }
abbrev rm_Tx_start : Room := { frames := 1, cells := 0, slots := 0, locals := 64 }
abbrev rm_Ta_isSign : Room := { frames := 2, cells := 0, slots := 0, locals := 85 }
abbrev rm_Ta_takeSign : Room := { frames := 3, cells := 0, slots := 0, locals := 108 }
abbrev rm_Tx_emit : Room := { frames := 1, cells := 0, slots := 0, locals := 64 }
abbrev rm_Tx_land : Room := { frames := 1, cells := 0, slots := 0, locals := 64 }
abbrev rm_Ta_isNumber : Room := { frames := 1, cells := 0, slots := 0, locals := 64 }
abbrev rm_Re_readWhich : Room := { frames := 3, cells := 0, slots := 0, locals := 108 }
abbrev rm_Re_orderWord : Room := { frames := 9, cells := 0, slots := 0, locals := 422 }
abbrev rm_Re_lawWord : Room := { frames := 9, cells := 0, slots := 0, locals := 422 }
def rm_g0 (d : Nat) : Room := { frames := 10 + d, cells := 0, slots := 0, locals := 444 + d * 24 }
abbrev rm_Tx_repeat : Room := { frames := 1, cells := 0, slots := 0, locals := 64 }
abbrev rm_Re_readTimes : Room := { frames := 3, cells := 0, slots := 0, locals := 108 }
abbrev rm_Re_readClause : Room := { frames := 75, cells := 0, slots := 0, locals := 2003 }
abbrev rm_Re_faultIn : Room := { frames := 76, cells := 0, slots := 0, locals := 2027 }
abbrev rm_Ps_addLaw : Room := { frames := 1, cells := 0, slots := 0, locals := 64 }
theorem rm_le_Re_readComparison_Re_readSum {dp : Nat} : (rm_g0 dp).frames + 1 ≤ (rm_g0 (dp + 1)).frames ∧ 8 + (4 + 11) + (rm_g0 dp).locals ≤ (rm_g0 (dp + 1)).locals := by
  unfold rm_g0
  constructor <;> simp only [] <;> omega
theorem rm_le_Re_readComparison_Ta_isSign {dp : Nat} : rm_Ta_isSign.frames + 1 ≤ (rm_g0 (dp + 1)).frames ∧ 8 + (2 + 11) + rm_Ta_isSign.locals ≤ (rm_g0 (dp + 1)).locals := by
  unfold rm_g0
  constructor <;> simp only [] <;> omega
theorem rm_le_Re_readComparison_Ta_next {dp : Nat} : rm_Ta_next.frames + 1 ≤ (rm_g0 (dp + 1)).frames ∧ 8 + (3 + 11) + rm_Ta_next.locals ≤ (rm_g0 (dp + 1)).locals := by
  unfold rm_g0
  constructor <;> simp only [] <;> omega
theorem rm_le_Re_readComparison_Tx_emit {dp : Nat} : rm_Tx_emit.frames + 1 ≤ (rm_g0 (dp + 1)).frames ∧ 8 + (3 + 11) + rm_Tx_emit.locals ≤ (rm_g0 (dp + 1)).locals := by
  unfold rm_g0
  constructor <;> simp only [] <;> omega
theorem rm_le_Re_readPlain_Ta_takeWord {dp : Nat} : rm_Ta_takeWord.frames + 1 ≤ (rm_g0 (dp + 1)).frames ∧ 8 + (3 + 11) + rm_Ta_takeWord.locals ≤ (rm_g0 (dp + 1)).locals := by
  unfold rm_g0
  constructor <;> simp only [] <;> omega
theorem rm_le_Re_readPlain_Ta_isSign {dp : Nat} : rm_Ta_isSign.frames + 1 ≤ (rm_g0 (dp + 1)).frames ∧ 8 + (2 + 11) + rm_Ta_isSign.locals ≤ (rm_g0 (dp + 1)).locals := by
  unfold rm_g0
  constructor <;> simp only [] <;> omega
theorem rm_le_Re_readPlain_Re_readBracketed {dp : Nat} : (rm_g0 dp).frames + 1 ≤ (rm_g0 (dp + 1)).frames ∧ 8 + (5 + 11) + (rm_g0 dp).locals ≤ (rm_g0 (dp + 1)).locals := by
  unfold rm_g0
  constructor <;> simp only [] <;> omega
theorem rm_le_Re_readPlain_Re_readComparison {dp : Nat} : (rm_g0 dp).frames + 1 ≤ (rm_g0 (dp + 1)).frames ∧ 8 + (3 + 11) + (rm_g0 dp).locals ≤ (rm_g0 (dp + 1)).locals := by
  unfold rm_g0
  constructor <;> simp only [] <;> omega
theorem rm_le_Re_readPlain_Tx_emit {dp : Nat} : rm_Tx_emit.frames + 1 ≤ (rm_g0 (dp + 1)).frames ∧ 8 + (3 + 11) + rm_Tx_emit.locals ≤ (rm_g0 (dp + 1)).locals := by
  unfold rm_g0
  constructor <;> simp only [] <;> omega
theorem rm_le_Re_readBoth_Re_readPlain {dp : Nat} : (rm_g0 dp).frames + 1 ≤ (rm_g0 (dp + 1)).frames ∧ 8 + (4 + 11) + (rm_g0 dp).locals ≤ (rm_g0 (dp + 1)).locals := by
  unfold rm_g0
  constructor <;> simp only [] <;> omega
theorem rm_le_Re_readBoth_Ta_takeWord {dp : Nat} : rm_Ta_takeWord.frames + 1 ≤ (rm_g0 (dp + 1)).frames ∧ 8 + (3 + 11) + rm_Ta_takeWord.locals ≤ (rm_g0 (dp + 1)).locals := by
  unfold rm_g0
  constructor <;> simp only [] <;> omega
theorem rm_le_Re_readBoth_Tx_emit {dp : Nat} : rm_Tx_emit.frames + 1 ≤ (rm_g0 (dp + 1)).frames ∧ 8 + (3 + 11) + rm_Tx_emit.locals ≤ (rm_g0 (dp + 1)).locals := by
  unfold rm_g0
  constructor <;> simp only [] <;> omega
theorem rm_le_Re_readBoth_Tx_land {dp : Nat} : rm_Tx_land.frames + 1 ≤ (rm_g0 (dp + 1)).frames ∧ 8 + (3 + 11) + rm_Tx_land.locals ≤ (rm_g0 (dp + 1)).locals := by
  unfold rm_g0
  constructor <;> simp only [] <;> omega
theorem rm_le_Re_readTest_Re_readBoth {dp : Nat} : (rm_g0 dp).frames + 1 ≤ (rm_g0 (dp + 1)).frames ∧ 8 + (4 + 11) + (rm_g0 dp).locals ≤ (rm_g0 (dp + 1)).locals := by
  unfold rm_g0
  constructor <;> simp only [] <;> omega
theorem rm_le_Re_readTest_Ta_takeWord {dp : Nat} : rm_Ta_takeWord.frames + 1 ≤ (rm_g0 (dp + 1)).frames ∧ 8 + (3 + 11) + rm_Ta_takeWord.locals ≤ (rm_g0 (dp + 1)).locals := by
  unfold rm_g0
  constructor <;> simp only [] <;> omega
theorem rm_le_Re_readTest_Tx_emit {dp : Nat} : rm_Tx_emit.frames + 1 ≤ (rm_g0 (dp + 1)).frames ∧ 8 + (3 + 11) + rm_Tx_emit.locals ≤ (rm_g0 (dp + 1)).locals := by
  unfold rm_g0
  constructor <;> simp only [] <;> omega
theorem rm_le_Re_readTest_Tx_land {dp : Nat} : rm_Tx_land.frames + 1 ≤ (rm_g0 (dp + 1)).frames ∧ 8 + (3 + 11) + rm_Tx_land.locals ≤ (rm_g0 (dp + 1)).locals := by
  unfold rm_g0
  constructor <;> simp only [] <;> omega
theorem rm_le_Re_readBracketed_Ta_takeSign {dp : Nat} : rm_Ta_takeSign.frames + 1 ≤ (rm_g0 (dp + 1)).frames ∧ 8 + (3 + 11) + rm_Ta_takeSign.locals ≤ (rm_g0 (dp + 1)).locals := by
  unfold rm_g0
  constructor <;> simp only [] <;> omega
theorem rm_le_Re_readBracketed_Re_readTest {dp : Nat} : (rm_g0 dp).frames + 1 ≤ (rm_g0 (dp + 1)).frames ∧ 8 + (4 + 11) + (rm_g0 dp).locals ≤ (rm_g0 (dp + 1)).locals := by
  unfold rm_g0
  constructor <;> simp only [] <;> omega
theorem rm_le_Re_readBracketed_Re_readSum {dp : Nat} : (rm_g0 dp).frames + 1 ≤ (rm_g0 (dp + 1)).frames ∧ 8 + (4 + 11) + (rm_g0 dp).locals ≤ (rm_g0 (dp + 1)).locals := by
  unfold rm_g0
  constructor <;> simp only [] <;> omega
theorem rm_le_Re_readPart_Ta_isSign {dp : Nat} : rm_Ta_isSign.frames + 1 ≤ (rm_g0 (dp + 1)).frames ∧ 8 + (2 + 11) + rm_Ta_isSign.locals ≤ (rm_g0 (dp + 1)).locals := by
  unfold rm_g0
  constructor <;> simp only [] <;> omega
theorem rm_le_Re_readPart_Re_readBracketed {dp : Nat} : (rm_g0 dp).frames + 1 ≤ (rm_g0 (dp + 1)).frames ∧ 8 + (5 + 11) + (rm_g0 dp).locals ≤ (rm_g0 (dp + 1)).locals := by
  unfold rm_g0
  constructor <;> simp only [] <;> omega
theorem rm_le_Re_readPart_Ta_isNumber {dp : Nat} : rm_Ta_isNumber.frames + 1 ≤ (rm_g0 (dp + 1)).frames ∧ 8 + (1 + 11) + rm_Ta_isNumber.locals ≤ (rm_g0 (dp + 1)).locals := by
  unfold rm_g0
  constructor <;> simp only [] <;> omega
theorem rm_le_Re_readPart_Tx_emit {dp : Nat} : rm_Tx_emit.frames + 1 ≤ (rm_g0 (dp + 1)).frames ∧ 8 + (3 + 11) + rm_Tx_emit.locals ≤ (rm_g0 (dp + 1)).locals := by
  unfold rm_g0
  constructor <;> simp only [] <;> omega
theorem rm_le_Re_readPart_Ta_next {dp : Nat} : rm_Ta_next.frames + 1 ≤ (rm_g0 (dp + 1)).frames ∧ 8 + (3 + 11) + rm_Ta_next.locals ≤ (rm_g0 (dp + 1)).locals := by
  unfold rm_g0
  constructor <;> simp only [] <;> omega
theorem rm_le_Re_readPart_Ta_takeWord {dp : Nat} : rm_Ta_takeWord.frames + 1 ≤ (rm_g0 (dp + 1)).frames ∧ 8 + (3 + 11) + rm_Ta_takeWord.locals ≤ (rm_g0 (dp + 1)).locals := by
  unfold rm_g0
  constructor <;> simp only [] <;> omega
theorem rm_le_Re_readPart_Re_readWhich {dp : Nat} : rm_Re_readWhich.frames + 1 ≤ (rm_g0 (dp + 1)).frames ∧ 8 + (3 + 11) + rm_Re_readWhich.locals ≤ (rm_g0 (dp + 1)).locals := by
  unfold rm_g0
  constructor <;> simp only [] <;> omega
theorem rm_le_Re_readPart_Re_orderWord {dp : Nat} : rm_Re_orderWord.frames + 1 ≤ (rm_g0 (dp + 1)).frames ∧ 8 + (1 + 11) + rm_Re_orderWord.locals ≤ (rm_g0 (dp + 1)).locals := by
  unfold rm_g0
  constructor <;> simp only [] <;> omega
theorem rm_le_Re_readPart_Re_lawWord {dp : Nat} : rm_Re_lawWord.frames + 1 ≤ (rm_g0 (dp + 1)).frames ∧ 8 + (1 + 11) + rm_Re_lawWord.locals ≤ (rm_g0 (dp + 1)).locals := by
  unfold rm_g0
  constructor <;> simp only [] <;> omega
theorem rm_le_Re_readTerm_Re_readPart {dp : Nat} : (rm_g0 dp).frames + 1 ≤ (rm_g0 (dp + 1)).frames ∧ 8 + (3 + 11) + (rm_g0 dp).locals ≤ (rm_g0 (dp + 1)).locals := by
  unfold rm_g0
  constructor <;> simp only [] <;> omega
theorem rm_le_Re_readTerm_Ta_isSign {dp : Nat} : rm_Ta_isSign.frames + 1 ≤ (rm_g0 (dp + 1)).frames ∧ 8 + (2 + 11) + rm_Ta_isSign.locals ≤ (rm_g0 (dp + 1)).locals := by
  unfold rm_g0
  constructor <;> simp only [] <;> omega
theorem rm_le_Re_readTerm_Ta_next {dp : Nat} : rm_Ta_next.frames + 1 ≤ (rm_g0 (dp + 1)).frames ∧ 8 + (3 + 11) + rm_Ta_next.locals ≤ (rm_g0 (dp + 1)).locals := by
  unfold rm_g0
  constructor <;> simp only [] <;> omega
theorem rm_le_Re_readTerm_Tx_emit {dp : Nat} : rm_Tx_emit.frames + 1 ≤ (rm_g0 (dp + 1)).frames ∧ 8 + (3 + 11) + rm_Tx_emit.locals ≤ (rm_g0 (dp + 1)).locals := by
  unfold rm_g0
  constructor <;> simp only [] <;> omega
theorem rm_le_Re_readSum_Re_readTerm {dp : Nat} : (rm_g0 dp).frames + 1 ≤ (rm_g0 (dp + 1)).frames ∧ 8 + (4 + 11) + (rm_g0 dp).locals ≤ (rm_g0 (dp + 1)).locals := by
  unfold rm_g0
  constructor <;> simp only [] <;> omega
theorem rm_le_Re_readSum_Ta_isSign {dp : Nat} : rm_Ta_isSign.frames + 1 ≤ (rm_g0 (dp + 1)).frames ∧ 8 + (2 + 11) + rm_Ta_isSign.locals ≤ (rm_g0 (dp + 1)).locals := by
  unfold rm_g0
  constructor <;> simp only [] <;> omega
theorem rm_le_Re_readSum_Ta_next {dp : Nat} : rm_Ta_next.frames + 1 ≤ (rm_g0 (dp + 1)).frames ∧ 8 + (3 + 11) + rm_Ta_next.locals ≤ (rm_g0 (dp + 1)).locals := by
  unfold rm_g0
  constructor <;> simp only [] <;> omega
theorem rm_le_Re_readSum_Tx_emit {dp : Nat} : rm_Tx_emit.frames + 1 ≤ (rm_g0 (dp + 1)).frames ∧ 8 + (3 + 11) + rm_Tx_emit.locals ≤ (rm_g0 (dp + 1)).locals := by
  unfold rm_g0
  constructor <;> simp only [] <;> omega
def y_E_row : MethodName := ⟨zNm 0, "row", "()I"⟩
abbrev b_E_row : ByteArray := prog_1_method_9_code
theorem d_E_row_0 : decode b_E_row 0 = .ok (.aload_n 0, 1) := by decide +kernel
theorem d_E_row_1 : decode b_E_row 1 = .ok (.getfield 39, 3) := by decide +kernel
theorem d_E_row_4 : decode b_E_row 4 = .ok (.getfield 170, 3) := by decide +kernel
theorem d_E_row_7 : decode b_E_row 7 = .ok (.istore_n 1, 1) := by decide +kernel
theorem d_E_row_8 : decode b_E_row 8 = .ok (.iload_n 1, 1) := by decide +kernel
theorem d_E_row_9 : decode b_E_row 9 = .ok (.ifCond .ne 10, 3) := by decide +kernel
theorem d_E_row_12 : decode b_E_row 12 = .ok (.aload_n 0, 1) := by decide +kernel
theorem d_E_row_13 : decode b_E_row 13 = .ok (.bipush (-6), 2) := by decide +kernel
theorem d_E_row_15 : decode b_E_row 15 = .ok (.invokevirtual 109, 3) := by decide +kernel
theorem d_E_row_18 : decode b_E_row 18 = .ok (.ireturn, 1) := by decide +kernel
theorem d_E_row_19 : decode b_E_row 19 = .ok (.iconst 0, 1) := by decide +kernel
theorem d_E_row_20 : decode b_E_row 20 = .ok (.istore_n 2, 1) := by decide +kernel
theorem d_E_row_21 : decode b_E_row 21 = .ok (.iconst 0, 1) := by decide +kernel
theorem d_E_row_22 : decode b_E_row 22 = .ok (.istore_n 3, 1) := by decide +kernel
theorem d_E_row_23 : decode b_E_row 23 = .ok (.iconst 0, 1) := by decide +kernel
theorem d_E_row_24 : decode b_E_row 24 = .ok (.istore 4, 2) := by decide +kernel
theorem d_E_row_26 : decode b_E_row 26 = .ok (.iload 4, 2) := by decide +kernel
theorem d_E_row_28 : decode b_E_row 28 = .ok (.iload_n 1, 1) := by decide +kernel
theorem d_E_row_29 : decode b_E_row 29 = .ok (.if_icmp .ge 27, 3) := by decide +kernel
theorem d_E_row_32 : decode b_E_row 32 = .ok (.aload_n 0, 1) := by decide +kernel
theorem d_E_row_33 : decode b_E_row 33 = .ok (.iload 4, 2) := by decide +kernel
theorem d_E_row_35 : decode b_E_row 35 = .ok (.invokevirtual 177, 3) := by decide +kernel
theorem d_E_row_38 : decode b_E_row 38 = .ok (.ifCond .eq 9, 3) := by decide +kernel
theorem d_E_row_41 : decode b_E_row 41 = .ok (.iinc 2 1, 3) := by decide +kernel
theorem d_E_row_44 : decode b_E_row 44 = .ok (.goto 6, 3) := by decide +kernel
theorem d_E_row_47 : decode b_E_row 47 = .ok (.iinc 3 1, 3) := by decide +kernel
theorem d_E_row_50 : decode b_E_row 50 = .ok (.iinc 4 3, 3) := by decide +kernel
theorem d_E_row_53 : decode b_E_row 53 = .ok (.goto (-27), 3) := by decide +kernel
theorem d_E_row_56 : decode b_E_row 56 = .ok (.aload_n 0, 1) := by decide +kernel
theorem d_E_row_57 : decode b_E_row 57 = .ok (.getfield 39, 3) := by decide +kernel
theorem d_E_row_60 : decode b_E_row 60 = .ok (.iconst 0, 1) := by decide +kernel
theorem d_E_row_61 : decode b_E_row 61 = .ok (.putfield 170, 3) := by decide +kernel
theorem d_E_row_64 : decode b_E_row 64 = .ok (.aload_n 0, 1) := by decide +kernel
theorem d_E_row_65 : decode b_E_row 65 = .ok (.iload_n 3, 1) := by decide +kernel
theorem d_E_row_66 : decode b_E_row 66 = .ok (.putfield 96, 3) := by decide +kernel
theorem d_E_row_69 : decode b_E_row 69 = .ok (.aload_n 0, 1) := by decide +kernel
theorem d_E_row_70 : decode b_E_row 70 = .ok (.getfield 29, 3) := by decide +kernel
theorem d_E_row_73 : decode b_E_row 73 = .ok (.invokevirtual 116, 3) := by decide +kernel
theorem d_E_row_76 : decode b_E_row 76 = .ok (.aload_n 0, 1) := by decide +kernel
theorem d_E_row_77 : decode b_E_row 77 = .ok (.iload_n 2, 1) := by decide +kernel
theorem d_E_row_78 : decode b_E_row 78 = .ok (.invokevirtual 123, 3) := by decide +kernel
theorem d_E_row_81 : decode b_E_row 81 = .ok (.ireturn, 1) := by decide +kernel
theorem mf_E_row : zMF y_E_row b_E_row 5 (some .int) 0 := ⟨zGW_in 637 (by decide +kernel) (by decide +kernel), zGW_in 124 (by decide +kernel) (by decide +kernel), by decide +kernel⟩
theorem in_E_row : Cond.instanceMethod y_E_row ∈ zGW := zGW_in 635 (by decide +kernel) (by decide +kernel)
theorem se_E_row : Cond.selects y_E_row.cls y_E_row y_E_row ∈ zGW := zGW_in 636 (by decide +kernel) (by decide +kernel)
def y_E_bubbles : MethodName := ⟨zNm 0, "bubbles", "()I"⟩
abbrev b_E_bubbles : ByteArray := prog_1_method_10_code
theorem d_E_bubbles_0 : decode b_E_bubbles 0 = .ok (.aload_n 0, 1) := by decide +kernel
theorem d_E_bubbles_1 : decode b_E_bubbles 1 = .ok (.getfield 96, 3) := by decide +kernel
theorem d_E_bubbles_4 : decode b_E_bubbles 4 = .ok (.ireturn, 1) := by decide +kernel
theorem mf_E_bubbles : zMF y_E_bubbles b_E_bubbles 1 (some .int) 0 := ⟨zGW_in 649 (by decide +kernel) (by decide +kernel), zGW_in 124 (by decide +kernel) (by decide +kernel), by decide +kernel⟩
theorem in_E_bubbles : Cond.instanceMethod y_E_bubbles ∈ zGW := zGW_in 647 (by decide +kernel) (by decide +kernel)
theorem se_E_bubbles : Cond.selects y_E_bubbles.cls y_E_bubbles y_E_bubbles ∈ zGW := zGW_in 648 (by decide +kernel) (by decide +kernel)
def y_Ar_fillI : MethodName := ⟨"java/util/Arrays", "fill", "([II)V"⟩
abbrev b_Ar_fillI : ByteArray := prog_19_method_103_code
theorem d_Ar_fillI_0 : decode b_Ar_fillI 0 = .ok (.iconst 0, 1) := by decide +kernel
theorem d_Ar_fillI_1 : decode b_Ar_fillI 1 = .ok (.istore_n 2, 1) := by decide +kernel
theorem d_Ar_fillI_2 : decode b_Ar_fillI 2 = .ok (.aload_n 0, 1) := by decide +kernel
theorem d_Ar_fillI_3 : decode b_Ar_fillI 3 = .ok (.arraylength, 1) := by decide +kernel
theorem d_Ar_fillI_4 : decode b_Ar_fillI 4 = .ok (.istore_n 3, 1) := by decide +kernel
theorem d_Ar_fillI_5 : decode b_Ar_fillI 5 = .ok (.iload_n 2, 1) := by decide +kernel
theorem d_Ar_fillI_6 : decode b_Ar_fillI 6 = .ok (.iload_n 3, 1) := by decide +kernel
theorem d_Ar_fillI_7 : decode b_Ar_fillI 7 = .ok (.if_icmp .ge 13, 3) := by decide +kernel
theorem d_Ar_fillI_10 : decode b_Ar_fillI 10 = .ok (.aload_n 0, 1) := by decide +kernel
theorem d_Ar_fillI_11 : decode b_Ar_fillI 11 = .ok (.iload_n 2, 1) := by decide +kernel
theorem d_Ar_fillI_12 : decode b_Ar_fillI 12 = .ok (.iload_n 1, 1) := by decide +kernel
theorem d_Ar_fillI_13 : decode b_Ar_fillI 13 = .ok (.iastore, 1) := by decide +kernel
theorem d_Ar_fillI_14 : decode b_Ar_fillI 14 = .ok (.iinc 2 1, 3) := by decide +kernel
theorem d_Ar_fillI_17 : decode b_Ar_fillI 17 = .ok (.goto (-12), 3) := by decide +kernel
theorem d_Ar_fillI_20 : decode b_Ar_fillI 20 = .ok (.return_, 1) := by decide +kernel
theorem mf_Ar_fillI : zMF y_Ar_fillI b_Ar_fillI 4 none 2 := ⟨zGW_in 664 (by decide +kernel) (by decide +kernel), zGW_in 136 (by decide +kernel) (by decide +kernel), by decide +kernel⟩
theorem st_Ar_fillI : Cond.static y_Ar_fillI ∈ zGW := zGW_in 663 (by decide +kernel) (by decide +kernel)
def y_Tx_clear : MethodName := ⟨zNm 10, "clear", "()V"⟩
abbrev b_Tx_clear : ByteArray := prog_11_method_3_code
theorem d_Tx_clear_0 : decode b_Tx_clear 0 = .ok (.aload_n 0, 1) := by decide +kernel
theorem d_Tx_clear_1 : decode b_Tx_clear 1 = .ok (.iconst 0, 1) := by decide +kernel
theorem d_Tx_clear_2 : decode b_Tx_clear 2 = .ok (.putfield 9, 3) := by decide +kernel
theorem d_Tx_clear_5 : decode b_Tx_clear 5 = .ok (.aload_n 0, 1) := by decide +kernel
theorem d_Tx_clear_6 : decode b_Tx_clear 6 = .ok (.iconst 0, 1) := by decide +kernel
theorem d_Tx_clear_7 : decode b_Tx_clear 7 = .ok (.putfield 15, 3) := by decide +kernel
theorem d_Tx_clear_10 : decode b_Tx_clear 10 = .ok (.aload_n 0, 1) := by decide +kernel
theorem d_Tx_clear_11 : decode b_Tx_clear 11 = .ok (.iconst 0, 1) := by decide +kernel
theorem d_Tx_clear_12 : decode b_Tx_clear 12 = .ok (.putfield 18, 3) := by decide +kernel
theorem d_Tx_clear_15 : decode b_Tx_clear 15 = .ok (.aload_n 0, 1) := by decide +kernel
theorem d_Tx_clear_16 : decode b_Tx_clear 16 = .ok (.getfield 29, 3) := by decide +kernel
theorem d_Tx_clear_19 : decode b_Tx_clear 19 = .ok (.iconst (-1), 1) := by decide +kernel
theorem d_Tx_clear_20 : decode b_Tx_clear 20 = .ok (.invokestatic 44, 3) := by decide +kernel
theorem d_Tx_clear_23 : decode b_Tx_clear 23 = .ok (.return_, 1) := by decide +kernel
theorem mf_Tx_clear : zMF y_Tx_clear b_Tx_clear 1 none 0 := ⟨zGW_in 661 (by decide +kernel) (by decide +kernel), zGW_in 129 (by decide +kernel) (by decide +kernel), by decide +kernel⟩
theorem in_Tx_clear : Cond.instanceMethod y_Tx_clear ∈ zGW := zGW_in 659 (by decide +kernel) (by decide +kernel)
theorem se_Tx_clear : Cond.selects y_Tx_clear.cls y_Tx_clear y_Tx_clear ∈ zGW := zGW_in 660 (by decide +kernel) (by decide +kernel)
def y_Ta_kindAt : MethodName := ⟨zNm 9, "kindAt", "(I)I"⟩
abbrev b_Ta_kindAt : ByteArray := prog_10_method_6_code
theorem d_Ta_kindAt_0 : decode b_Ta_kindAt 0 = .ok (.iload_n 1, 1) := by decide +kernel
theorem d_Ta_kindAt_1 : decode b_Ta_kindAt 1 = .ok (.ifCond .lt 20, 3) := by decide +kernel
theorem d_Ta_kindAt_4 : decode b_Ta_kindAt 4 = .ok (.iload_n 1, 1) := by decide +kernel
theorem d_Ta_kindAt_5 : decode b_Ta_kindAt 5 = .ok (.aload_n 0, 1) := by decide +kernel
theorem d_Ta_kindAt_6 : decode b_Ta_kindAt 6 = .ok (.getfield 15, 3) := by decide +kernel
theorem d_Ta_kindAt_9 : decode b_Ta_kindAt 9 = .ok (.if_icmp .ge 12, 3) := by decide +kernel
theorem d_Ta_kindAt_12 : decode b_Ta_kindAt 12 = .ok (.iload_n 1, 1) := by decide +kernel
theorem d_Ta_kindAt_13 : decode b_Ta_kindAt 13 = .ok (.aload_n 0, 1) := by decide +kernel
theorem d_Ta_kindAt_14 : decode b_Ta_kindAt 14 = .ok (.getfield 9, 3) := by decide +kernel
theorem d_Ta_kindAt_17 : decode b_Ta_kindAt 17 = .ok (.arraylength, 1) := by decide +kernel
theorem d_Ta_kindAt_18 : decode b_Ta_kindAt 18 = .ok (.if_icmp .lt 5, 3) := by decide +kernel
theorem d_Ta_kindAt_21 : decode b_Ta_kindAt 21 = .ok (.iconst 0, 1) := by decide +kernel
theorem d_Ta_kindAt_22 : decode b_Ta_kindAt 22 = .ok (.ireturn, 1) := by decide +kernel
theorem d_Ta_kindAt_23 : decode b_Ta_kindAt 23 = .ok (.aload_n 0, 1) := by decide +kernel
theorem d_Ta_kindAt_24 : decode b_Ta_kindAt 24 = .ok (.getfield 9, 3) := by decide +kernel
theorem d_Ta_kindAt_27 : decode b_Ta_kindAt 27 = .ok (.iload_n 1, 1) := by decide +kernel
theorem d_Ta_kindAt_28 : decode b_Ta_kindAt 28 = .ok (.baload, 1) := by decide +kernel
theorem d_Ta_kindAt_29 : decode b_Ta_kindAt 29 = .ok (.istore_n 2, 1) := by decide +kernel
theorem d_Ta_kindAt_30 : decode b_Ta_kindAt 30 = .ok (.iload_n 2, 1) := by decide +kernel
theorem d_Ta_kindAt_31 : decode b_Ta_kindAt 31 = .ok (.bipush 97, 2) := by decide +kernel
theorem d_Ta_kindAt_33 : decode b_Ta_kindAt 33 = .ok (.if_icmp .lt 11, 3) := by decide +kernel
theorem d_Ta_kindAt_36 : decode b_Ta_kindAt 36 = .ok (.iload_n 2, 1) := by decide +kernel
theorem d_Ta_kindAt_37 : decode b_Ta_kindAt 37 = .ok (.bipush 122, 2) := by decide +kernel
theorem d_Ta_kindAt_39 : decode b_Ta_kindAt 39 = .ok (.if_icmp .gt 5, 3) := by decide +kernel
theorem d_Ta_kindAt_42 : decode b_Ta_kindAt 42 = .ok (.iconst 1, 1) := by decide +kernel
theorem d_Ta_kindAt_43 : decode b_Ta_kindAt 43 = .ok (.ireturn, 1) := by decide +kernel
theorem d_Ta_kindAt_44 : decode b_Ta_kindAt 44 = .ok (.iload_n 2, 1) := by decide +kernel
theorem d_Ta_kindAt_45 : decode b_Ta_kindAt 45 = .ok (.bipush 48, 2) := by decide +kernel
theorem d_Ta_kindAt_47 : decode b_Ta_kindAt 47 = .ok (.if_icmp .lt 11, 3) := by decide +kernel
theorem d_Ta_kindAt_50 : decode b_Ta_kindAt 50 = .ok (.iload_n 2, 1) := by decide +kernel
theorem d_Ta_kindAt_51 : decode b_Ta_kindAt 51 = .ok (.bipush 57, 2) := by decide +kernel
theorem d_Ta_kindAt_53 : decode b_Ta_kindAt 53 = .ok (.if_icmp .gt 5, 3) := by decide +kernel
theorem d_Ta_kindAt_56 : decode b_Ta_kindAt 56 = .ok (.iconst 2, 1) := by decide +kernel
theorem d_Ta_kindAt_57 : decode b_Ta_kindAt 57 = .ok (.ireturn, 1) := by decide +kernel
theorem d_Ta_kindAt_58 : decode b_Ta_kindAt 58 = .ok (.iload_n 2, 1) := by decide +kernel
theorem d_Ta_kindAt_59 : decode b_Ta_kindAt 59 = .ok (.bipush 32, 2) := by decide +kernel
theorem d_Ta_kindAt_61 : decode b_Ta_kindAt 61 = .ok (.if_icmp .ne 7, 3) := by decide +kernel
theorem d_Ta_kindAt_64 : decode b_Ta_kindAt 64 = .ok (.iconst 4, 1) := by decide +kernel
theorem d_Ta_kindAt_65 : decode b_Ta_kindAt 65 = .ok (.goto 4, 3) := by decide +kernel
theorem d_Ta_kindAt_68 : decode b_Ta_kindAt 68 = .ok (.iconst 3, 1) := by decide +kernel
theorem d_Ta_kindAt_69 : decode b_Ta_kindAt 69 = .ok (.ireturn, 1) := by decide +kernel
theorem mf_Ta_kindAt : zMF y_Ta_kindAt b_Ta_kindAt 3 (some .int) 1 := ⟨zGW_in 676 (by decide +kernel) (by decide +kernel), zGW_in 127 (by decide +kernel) (by decide +kernel), by decide +kernel⟩
theorem in_Ta_kindAt : Cond.instanceMethod y_Ta_kindAt ∈ zGW := zGW_in 675 (by decide +kernel) (by decide +kernel)
theorem se_Ta_kindAt : Cond.selects y_Ta_kindAt.cls y_Ta_kindAt y_Ta_kindAt ∈ zGW := zGW_in 6 (by decide +kernel) (by decide +kernel)
def y_Ta_numberAtHand : MethodName := ⟨zNm 9, "numberAtHand", "()I"⟩
abbrev b_Ta_numberAtHand : ByteArray := prog_10_method_7_code
theorem d_Ta_numberAtHand_0 : decode b_Ta_numberAtHand 0 = .ok (.iconst 0, 1) := by decide +kernel
theorem d_Ta_numberAtHand_1 : decode b_Ta_numberAtHand 1 = .ok (.istore_n 1, 1) := by decide +kernel
theorem d_Ta_numberAtHand_2 : decode b_Ta_numberAtHand 2 = .ok (.aload_n 0, 1) := by decide +kernel
theorem d_Ta_numberAtHand_3 : decode b_Ta_numberAtHand 3 = .ok (.getfield 19, 3) := by decide +kernel
theorem d_Ta_numberAtHand_6 : decode b_Ta_numberAtHand 6 = .ok (.istore_n 2, 1) := by decide +kernel
theorem d_Ta_numberAtHand_7 : decode b_Ta_numberAtHand 7 = .ok (.iload_n 2, 1) := by decide +kernel
theorem d_Ta_numberAtHand_8 : decode b_Ta_numberAtHand 8 = .ok (.ifCond .lt 52, 3) := by decide +kernel
theorem d_Ta_numberAtHand_11 : decode b_Ta_numberAtHand 11 = .ok (.iload_n 2, 1) := by decide +kernel
theorem d_Ta_numberAtHand_12 : decode b_Ta_numberAtHand 12 = .ok (.aload_n 0, 1) := by decide +kernel
theorem d_Ta_numberAtHand_13 : decode b_Ta_numberAtHand 13 = .ok (.getfield 22, 3) := by decide +kernel
theorem d_Ta_numberAtHand_16 : decode b_Ta_numberAtHand 16 = .ok (.if_icmp .ge 44, 3) := by decide +kernel
theorem d_Ta_numberAtHand_19 : decode b_Ta_numberAtHand 19 = .ok (.iload_n 2, 1) := by decide +kernel
theorem d_Ta_numberAtHand_20 : decode b_Ta_numberAtHand 20 = .ok (.aload_n 0, 1) := by decide +kernel
theorem d_Ta_numberAtHand_21 : decode b_Ta_numberAtHand 21 = .ok (.getfield 9, 3) := by decide +kernel
theorem d_Ta_numberAtHand_24 : decode b_Ta_numberAtHand 24 = .ok (.arraylength, 1) := by decide +kernel
theorem d_Ta_numberAtHand_25 : decode b_Ta_numberAtHand 25 = .ok (.if_icmp .ge 35, 3) := by decide +kernel
theorem d_Ta_numberAtHand_28 : decode b_Ta_numberAtHand 28 = .ok (.iload_n 1, 1) := by decide +kernel
theorem d_Ta_numberAtHand_29 : decode b_Ta_numberAtHand 29 = .ok (.bipush 10, 2) := by decide +kernel
theorem d_Ta_numberAtHand_31 : decode b_Ta_numberAtHand 31 = .ok (.imul, 1) := by decide +kernel
theorem d_Ta_numberAtHand_32 : decode b_Ta_numberAtHand 32 = .ok (.aload_n 0, 1) := by decide +kernel
theorem d_Ta_numberAtHand_33 : decode b_Ta_numberAtHand 33 = .ok (.getfield 9, 3) := by decide +kernel
theorem d_Ta_numberAtHand_36 : decode b_Ta_numberAtHand 36 = .ok (.iload_n 2, 1) := by decide +kernel
theorem d_Ta_numberAtHand_37 : decode b_Ta_numberAtHand 37 = .ok (.baload, 1) := by decide +kernel
theorem d_Ta_numberAtHand_38 : decode b_Ta_numberAtHand 38 = .ok (.iadd, 1) := by decide +kernel
theorem d_Ta_numberAtHand_39 : decode b_Ta_numberAtHand 39 = .ok (.bipush 48, 2) := by decide +kernel
theorem d_Ta_numberAtHand_41 : decode b_Ta_numberAtHand 41 = .ok (.isub, 1) := by decide +kernel
theorem d_Ta_numberAtHand_42 : decode b_Ta_numberAtHand 42 = .ok (.istore_n 1, 1) := by decide +kernel
theorem d_Ta_numberAtHand_43 : decode b_Ta_numberAtHand 43 = .ok (.iload_n 1, 1) := by decide +kernel
theorem d_Ta_numberAtHand_44 : decode b_Ta_numberAtHand 44 = .ok (.sipush 1000, 3) := by decide +kernel
theorem d_Ta_numberAtHand_47 : decode b_Ta_numberAtHand 47 = .ok (.if_icmp .le 7, 3) := by decide +kernel
theorem d_Ta_numberAtHand_50 : decode b_Ta_numberAtHand 50 = .ok (.sipush 1001, 3) := by decide +kernel
theorem d_Ta_numberAtHand_53 : decode b_Ta_numberAtHand 53 = .ok (.ireturn, 1) := by decide +kernel
theorem d_Ta_numberAtHand_54 : decode b_Ta_numberAtHand 54 = .ok (.iinc 2 1, 3) := by decide +kernel
theorem d_Ta_numberAtHand_57 : decode b_Ta_numberAtHand 57 = .ok (.goto (-50), 3) := by decide +kernel
theorem d_Ta_numberAtHand_60 : decode b_Ta_numberAtHand 60 = .ok (.iload_n 1, 1) := by decide +kernel
theorem d_Ta_numberAtHand_61 : decode b_Ta_numberAtHand 61 = .ok (.ireturn, 1) := by decide +kernel
theorem mf_Ta_numberAtHand : zMF y_Ta_numberAtHand b_Ta_numberAtHand 3 (some .int) 0 := ⟨zGW_in 680 (by decide +kernel) (by decide +kernel), zGW_in 127 (by decide +kernel) (by decide +kernel), by decide +kernel⟩
theorem in_Ta_numberAtHand : Cond.instanceMethod y_Ta_numberAtHand ∈ zGW := zGW_in 679 (by decide +kernel) (by decide +kernel)
theorem se_Ta_numberAtHand : Cond.selects y_Ta_numberAtHand.cls y_Ta_numberAtHand y_Ta_numberAtHand ∈ zGW := zGW_in 7 (by decide +kernel) (by decide +kernel)
def y_Ta_next : MethodName := ⟨zNm 9, "next", "()V"⟩
abbrev b_Ta_next : ByteArray := prog_10_method_5_code
theorem d_Ta_next_0 : decode b_Ta_next 0 = .ok (.aload_n 0, 1) := by decide +kernel
theorem d_Ta_next_1 : decode b_Ta_next 1 = .ok (.getfield 22, 3) := by decide +kernel
theorem d_Ta_next_4 : decode b_Ta_next 4 = .ok (.istore_n 1, 1) := by decide +kernel
theorem d_Ta_next_5 : decode b_Ta_next 5 = .ok (.iload_n 1, 1) := by decide +kernel
theorem d_Ta_next_6 : decode b_Ta_next 6 = .ok (.aload_n 0, 1) := by decide +kernel
theorem d_Ta_next_7 : decode b_Ta_next 7 = .ok (.getfield 15, 3) := by decide +kernel
theorem d_Ta_next_10 : decode b_Ta_next 10 = .ok (.if_icmp .ge 18, 3) := by decide +kernel
theorem d_Ta_next_13 : decode b_Ta_next 13 = .ok (.aload_n 0, 1) := by decide +kernel
theorem d_Ta_next_14 : decode b_Ta_next 14 = .ok (.iload_n 1, 1) := by decide +kernel
theorem d_Ta_next_15 : decode b_Ta_next 15 = .ok (.invokevirtual 34, 3) := by decide +kernel
theorem d_Ta_next_18 : decode b_Ta_next 18 = .ok (.iconst 4, 1) := by decide +kernel
theorem d_Ta_next_19 : decode b_Ta_next 19 = .ok (.if_icmp .ne 9, 3) := by decide +kernel
theorem d_Ta_next_22 : decode b_Ta_next 22 = .ok (.iinc 1 1, 3) := by decide +kernel
theorem d_Ta_next_25 : decode b_Ta_next 25 = .ok (.goto (-20), 3) := by decide +kernel
theorem d_Ta_next_28 : decode b_Ta_next 28 = .ok (.aload_n 0, 1) := by decide +kernel
theorem d_Ta_next_29 : decode b_Ta_next 29 = .ok (.iload_n 1, 1) := by decide +kernel
theorem d_Ta_next_30 : decode b_Ta_next 30 = .ok (.putfield 19, 3) := by decide +kernel
theorem d_Ta_next_33 : decode b_Ta_next 33 = .ok (.aload_n 0, 1) := by decide +kernel
theorem d_Ta_next_34 : decode b_Ta_next 34 = .ok (.aload_n 0, 1) := by decide +kernel
theorem d_Ta_next_35 : decode b_Ta_next 35 = .ok (.iload_n 1, 1) := by decide +kernel
theorem d_Ta_next_36 : decode b_Ta_next 36 = .ok (.invokevirtual 34, 3) := by decide +kernel
theorem d_Ta_next_39 : decode b_Ta_next 39 = .ok (.putfield 25, 3) := by decide +kernel
theorem d_Ta_next_42 : decode b_Ta_next 42 = .ok (.aload_n 0, 1) := by decide +kernel
theorem d_Ta_next_43 : decode b_Ta_next 43 = .ok (.getfield 25, 3) := by decide +kernel
theorem d_Ta_next_46 : decode b_Ta_next 46 = .ok (.iconst 3, 1) := by decide +kernel
theorem d_Ta_next_47 : decode b_Ta_next 47 = .ok (.if_icmp .ne 9, 3) := by decide +kernel
theorem d_Ta_next_50 : decode b_Ta_next 50 = .ok (.iload_n 1, 1) := by decide +kernel
theorem d_Ta_next_51 : decode b_Ta_next 51 = .ok (.iconst 1, 1) := by decide +kernel
theorem d_Ta_next_52 : decode b_Ta_next 52 = .ok (.iadd, 1) := by decide +kernel
theorem d_Ta_next_53 : decode b_Ta_next 53 = .ok (.goto 7, 3) := by decide +kernel
theorem d_Ta_next_56 : decode b_Ta_next 56 = .ok (.aload_n 0, 1) := by decide +kernel
theorem d_Ta_next_57 : decode b_Ta_next 57 = .ok (.getfield 15, 3) := by decide +kernel
theorem d_Ta_next_60 : decode b_Ta_next 60 = .ok (.istore_n 2, 1) := by decide +kernel
theorem d_Ta_next_61 : decode b_Ta_next 61 = .ok (.iload_n 1, 1) := by decide +kernel
theorem d_Ta_next_62 : decode b_Ta_next 62 = .ok (.iload_n 2, 1) := by decide +kernel
theorem d_Ta_next_63 : decode b_Ta_next 63 = .ok (.if_icmp .ge 21, 3) := by decide +kernel
theorem d_Ta_next_66 : decode b_Ta_next 66 = .ok (.aload_n 0, 1) := by decide +kernel
theorem d_Ta_next_67 : decode b_Ta_next 67 = .ok (.iload_n 1, 1) := by decide +kernel
theorem d_Ta_next_68 : decode b_Ta_next 68 = .ok (.invokevirtual 34, 3) := by decide +kernel
theorem d_Ta_next_71 : decode b_Ta_next 71 = .ok (.aload_n 0, 1) := by decide +kernel
theorem d_Ta_next_72 : decode b_Ta_next 72 = .ok (.getfield 25, 3) := by decide +kernel
theorem d_Ta_next_75 : decode b_Ta_next 75 = .ok (.if_icmp .ne 9, 3) := by decide +kernel
theorem d_Ta_next_78 : decode b_Ta_next 78 = .ok (.iinc 1 1, 3) := by decide +kernel
theorem d_Ta_next_81 : decode b_Ta_next 81 = .ok (.goto (-20), 3) := by decide +kernel
theorem d_Ta_next_84 : decode b_Ta_next 84 = .ok (.aload_n 0, 1) := by decide +kernel
theorem d_Ta_next_85 : decode b_Ta_next 85 = .ok (.iload_n 1, 1) := by decide +kernel
theorem d_Ta_next_86 : decode b_Ta_next 86 = .ok (.putfield 22, 3) := by decide +kernel
theorem d_Ta_next_89 : decode b_Ta_next 89 = .ok (.aload_n 0, 1) := by decide +kernel
theorem d_Ta_next_90 : decode b_Ta_next 90 = .ok (.aload_n 0, 1) := by decide +kernel
theorem d_Ta_next_91 : decode b_Ta_next 91 = .ok (.getfield 25, 3) := by decide +kernel
theorem d_Ta_next_94 : decode b_Ta_next 94 = .ok (.iconst 2, 1) := by decide +kernel
theorem d_Ta_next_95 : decode b_Ta_next 95 = .ok (.if_icmp .ne 10, 3) := by decide +kernel
theorem d_Ta_next_98 : decode b_Ta_next 98 = .ok (.aload_n 0, 1) := by decide +kernel
theorem d_Ta_next_99 : decode b_Ta_next 99 = .ok (.invokevirtual 38, 3) := by decide +kernel
theorem d_Ta_next_102 : decode b_Ta_next 102 = .ok (.goto 4, 3) := by decide +kernel
theorem d_Ta_next_105 : decode b_Ta_next 105 = .ok (.iconst 0, 1) := by decide +kernel
theorem d_Ta_next_106 : decode b_Ta_next 106 = .ok (.putfield 28, 3) := by decide +kernel
theorem d_Ta_next_109 : decode b_Ta_next 109 = .ok (.return_, 1) := by decide +kernel
theorem mf_Ta_next : zMF y_Ta_next b_Ta_next 3 none 0 := ⟨zGW_in 672 (by decide +kernel) (by decide +kernel), zGW_in 127 (by decide +kernel) (by decide +kernel), by decide +kernel⟩
theorem in_Ta_next : Cond.instanceMethod y_Ta_next ∈ zGW := zGW_in 670 (by decide +kernel) (by decide +kernel)
theorem se_Ta_next : Cond.selects y_Ta_next.cls y_Ta_next y_Ta_next ∈ zGW := zGW_in 671 (by decide +kernel) (by decide +kernel)
def y_Ta_begin : MethodName := ⟨zNm 9, "begin", "()V"⟩
abbrev b_Ta_begin : ByteArray := prog_10_method_4_code
theorem d_Ta_begin_0 : decode b_Ta_begin 0 = .ok (.aload_n 0, 1) := by decide +kernel
theorem d_Ta_begin_1 : decode b_Ta_begin 1 = .ok (.iconst 0, 1) := by decide +kernel
theorem d_Ta_begin_2 : decode b_Ta_begin 2 = .ok (.putfield 22, 3) := by decide +kernel
theorem d_Ta_begin_5 : decode b_Ta_begin 5 = .ok (.aload_n 0, 1) := by decide +kernel
theorem d_Ta_begin_6 : decode b_Ta_begin 6 = .ok (.invokevirtual 31, 3) := by decide +kernel
theorem d_Ta_begin_9 : decode b_Ta_begin 9 = .ok (.return_, 1) := by decide +kernel
theorem mf_Ta_begin : zMF y_Ta_begin b_Ta_begin 1 none 0 := ⟨zGW_in 668 (by decide +kernel) (by decide +kernel), zGW_in 127 (by decide +kernel) (by decide +kernel), by decide +kernel⟩
theorem in_Ta_begin : Cond.instanceMethod y_Ta_begin ∈ zGW := zGW_in 666 (by decide +kernel) (by decide +kernel)
theorem se_Ta_begin : Cond.selects y_Ta_begin.cls y_Ta_begin y_Ta_begin ∈ zGW := zGW_in 667 (by decide +kernel) (by decide +kernel)
def y_Ta_isWord : MethodName := ⟨zNm 9, "isWord", "(Ljava/lang/String;)Z"⟩
abbrev b_Ta_isWord : ByteArray := prog_10_method_9_code
theorem d_Ta_isWord_0 : decode b_Ta_isWord 0 = .ok (.aload_n 0, 1) := by decide +kernel
theorem d_Ta_isWord_1 : decode b_Ta_isWord 1 = .ok (.getfield 25, 3) := by decide +kernel
theorem d_Ta_isWord_4 : decode b_Ta_isWord 4 = .ok (.iconst 1, 1) := by decide +kernel
theorem d_Ta_isWord_5 : decode b_Ta_isWord 5 = .ok (.if_icmp .ne 19, 3) := by decide +kernel
theorem d_Ta_isWord_8 : decode b_Ta_isWord 8 = .ok (.aload_n 0, 1) := by decide +kernel
theorem d_Ta_isWord_9 : decode b_Ta_isWord 9 = .ok (.getfield 22, 3) := by decide +kernel
theorem d_Ta_isWord_12 : decode b_Ta_isWord 12 = .ok (.aload_n 0, 1) := by decide +kernel
theorem d_Ta_isWord_13 : decode b_Ta_isWord 13 = .ok (.getfield 19, 3) := by decide +kernel
theorem d_Ta_isWord_16 : decode b_Ta_isWord 16 = .ok (.isub, 1) := by decide +kernel
theorem d_Ta_isWord_17 : decode b_Ta_isWord 17 = .ok (.aload_n 1, 1) := by decide +kernel
theorem d_Ta_isWord_18 : decode b_Ta_isWord 18 = .ok (.invokevirtual 42, 3) := by decide +kernel
theorem d_Ta_isWord_21 : decode b_Ta_isWord 21 = .ok (.if_icmp .eq 5, 3) := by decide +kernel
theorem d_Ta_isWord_24 : decode b_Ta_isWord 24 = .ok (.iconst 0, 1) := by decide +kernel
theorem d_Ta_isWord_25 : decode b_Ta_isWord 25 = .ok (.ireturn, 1) := by decide +kernel
theorem d_Ta_isWord_26 : decode b_Ta_isWord 26 = .ok (.iconst 0, 1) := by decide +kernel
theorem d_Ta_isWord_27 : decode b_Ta_isWord 27 = .ok (.istore_n 2, 1) := by decide +kernel
theorem d_Ta_isWord_28 : decode b_Ta_isWord 28 = .ok (.iload_n 2, 1) := by decide +kernel
theorem d_Ta_isWord_29 : decode b_Ta_isWord 29 = .ok (.aload_n 1, 1) := by decide +kernel
theorem d_Ta_isWord_30 : decode b_Ta_isWord 30 = .ok (.invokevirtual 42, 3) := by decide +kernel
theorem d_Ta_isWord_33 : decode b_Ta_isWord 33 = .ok (.if_icmp .ge 29, 3) := by decide +kernel
theorem d_Ta_isWord_36 : decode b_Ta_isWord 36 = .ok (.aload_n 0, 1) := by decide +kernel
theorem d_Ta_isWord_37 : decode b_Ta_isWord 37 = .ok (.aload_n 0, 1) := by decide +kernel
theorem d_Ta_isWord_38 : decode b_Ta_isWord 38 = .ok (.getfield 19, 3) := by decide +kernel
theorem d_Ta_isWord_41 : decode b_Ta_isWord 41 = .ok (.iload_n 2, 1) := by decide +kernel
theorem d_Ta_isWord_42 : decode b_Ta_isWord 42 = .ok (.iadd, 1) := by decide +kernel
theorem d_Ta_isWord_43 : decode b_Ta_isWord 43 = .ok (.invokevirtual 46, 3) := by decide +kernel
theorem d_Ta_isWord_46 : decode b_Ta_isWord 46 = .ok (.aload_n 1, 1) := by decide +kernel
theorem d_Ta_isWord_47 : decode b_Ta_isWord 47 = .ok (.iload_n 2, 1) := by decide +kernel
theorem d_Ta_isWord_48 : decode b_Ta_isWord 48 = .ok (.invokevirtual 49, 3) := by decide +kernel
theorem d_Ta_isWord_51 : decode b_Ta_isWord 51 = .ok (.if_icmp .eq 5, 3) := by decide +kernel
theorem d_Ta_isWord_54 : decode b_Ta_isWord 54 = .ok (.iconst 0, 1) := by decide +kernel
theorem d_Ta_isWord_55 : decode b_Ta_isWord 55 = .ok (.ireturn, 1) := by decide +kernel
theorem d_Ta_isWord_56 : decode b_Ta_isWord 56 = .ok (.iinc 2 1, 3) := by decide +kernel
theorem d_Ta_isWord_59 : decode b_Ta_isWord 59 = .ok (.goto (-31), 3) := by decide +kernel
theorem d_Ta_isWord_62 : decode b_Ta_isWord 62 = .ok (.iconst 1, 1) := by decide +kernel
theorem d_Ta_isWord_63 : decode b_Ta_isWord 63 = .ok (.ireturn, 1) := by decide +kernel
theorem mf_Ta_isWord : zMF y_Ta_isWord b_Ta_isWord 3 (some .boolean) 1 := ⟨zGW_in 696 (by decide +kernel) (by decide +kernel), zGW_in 127 (by decide +kernel) (by decide +kernel), by decide +kernel⟩
theorem in_Ta_isWord : Cond.instanceMethod y_Ta_isWord ∈ zGW := zGW_in 694 (by decide +kernel) (by decide +kernel)
theorem se_Ta_isWord : Cond.selects y_Ta_isWord.cls y_Ta_isWord y_Ta_isWord ∈ zGW := zGW_in 695 (by decide +kernel) (by decide +kernel)
def y_Ta_takeWord : MethodName := ⟨zNm 9, "takeWord", "(Ljava/lang/String;)Z"⟩
abbrev b_Ta_takeWord : ByteArray := prog_10_method_10_code
theorem d_Ta_takeWord_0 : decode b_Ta_takeWord 0 = .ok (.aload_n 0, 1) := by decide +kernel
theorem d_Ta_takeWord_1 : decode b_Ta_takeWord 1 = .ok (.aload_n 1, 1) := by decide +kernel
theorem d_Ta_takeWord_2 : decode b_Ta_takeWord 2 = .ok (.invokevirtual 53, 3) := by decide +kernel
theorem d_Ta_takeWord_5 : decode b_Ta_takeWord 5 = .ok (.istore_n 2, 1) := by decide +kernel
theorem d_Ta_takeWord_6 : decode b_Ta_takeWord 6 = .ok (.iload_n 2, 1) := by decide +kernel
theorem d_Ta_takeWord_7 : decode b_Ta_takeWord 7 = .ok (.ifCond .eq 7, 3) := by decide +kernel
theorem d_Ta_takeWord_10 : decode b_Ta_takeWord 10 = .ok (.aload_n 0, 1) := by decide +kernel
theorem d_Ta_takeWord_11 : decode b_Ta_takeWord 11 = .ok (.invokevirtual 31, 3) := by decide +kernel
theorem d_Ta_takeWord_14 : decode b_Ta_takeWord 14 = .ok (.iload_n 2, 1) := by decide +kernel
theorem d_Ta_takeWord_15 : decode b_Ta_takeWord 15 = .ok (.ireturn, 1) := by decide +kernel
theorem mf_Ta_takeWord : zMF y_Ta_takeWord b_Ta_takeWord 3 (some .boolean) 1 := ⟨zGW_in 692 (by decide +kernel) (by decide +kernel), zGW_in 127 (by decide +kernel) (by decide +kernel), by decide +kernel⟩
theorem in_Ta_takeWord : Cond.instanceMethod y_Ta_takeWord ∈ zGW := zGW_in 690 (by decide +kernel) (by decide +kernel)
theorem se_Ta_takeWord : Cond.selects y_Ta_takeWord.cls y_Ta_takeWord y_Ta_takeWord ∈ zGW := zGW_in 691 (by decide +kernel) (by decide +kernel)
def y_Re_takeOrder : MethodName := ⟨zNm 6, "takeOrder", "(LEelClerk$Tape;)I"⟩
abbrev b_Re_takeOrder : ByteArray := prog_7_method_6_code
theorem d_Re_takeOrder_0 : decode b_Re_takeOrder 0 = .ok (.aload_n 0, 1) := by decide +kernel
theorem d_Re_takeOrder_1 : decode b_Re_takeOrder 1 = .ok (.ldc 103, 2) := by decide +kernel
theorem d_Re_takeOrder_3 : decode b_Re_takeOrder 3 = .ok (.invokevirtual 71, 3) := by decide +kernel
theorem d_Re_takeOrder_6 : decode b_Re_takeOrder 6 = .ok (.ifCond .eq 5, 3) := by decide +kernel
theorem d_Re_takeOrder_9 : decode b_Re_takeOrder 9 = .ok (.iconst 0, 1) := by decide +kernel
theorem d_Re_takeOrder_10 : decode b_Re_takeOrder 10 = .ok (.ireturn, 1) := by decide +kernel
theorem d_Re_takeOrder_11 : decode b_Re_takeOrder 11 = .ok (.aload_n 0, 1) := by decide +kernel
theorem d_Re_takeOrder_12 : decode b_Re_takeOrder 12 = .ok (.ldc 105, 2) := by decide +kernel
theorem d_Re_takeOrder_14 : decode b_Re_takeOrder 14 = .ok (.invokevirtual 71, 3) := by decide +kernel
theorem d_Re_takeOrder_17 : decode b_Re_takeOrder 17 = .ok (.ifCond .eq 5, 3) := by decide +kernel
theorem d_Re_takeOrder_20 : decode b_Re_takeOrder 20 = .ok (.iconst 1, 1) := by decide +kernel
theorem d_Re_takeOrder_21 : decode b_Re_takeOrder 21 = .ok (.ireturn, 1) := by decide +kernel
theorem d_Re_takeOrder_22 : decode b_Re_takeOrder 22 = .ok (.aload_n 0, 1) := by decide +kernel
theorem d_Re_takeOrder_23 : decode b_Re_takeOrder 23 = .ok (.ldc 107, 2) := by decide +kernel
theorem d_Re_takeOrder_25 : decode b_Re_takeOrder 25 = .ok (.invokevirtual 71, 3) := by decide +kernel
theorem d_Re_takeOrder_28 : decode b_Re_takeOrder 28 = .ok (.ifCond .eq 5, 3) := by decide +kernel
theorem d_Re_takeOrder_31 : decode b_Re_takeOrder 31 = .ok (.iconst 2, 1) := by decide +kernel
theorem d_Re_takeOrder_32 : decode b_Re_takeOrder 32 = .ok (.ireturn, 1) := by decide +kernel
theorem d_Re_takeOrder_33 : decode b_Re_takeOrder 33 = .ok (.aload_n 0, 1) := by decide +kernel
theorem d_Re_takeOrder_34 : decode b_Re_takeOrder 34 = .ok (.ldc 109, 2) := by decide +kernel
theorem d_Re_takeOrder_36 : decode b_Re_takeOrder 36 = .ok (.invokevirtual 71, 3) := by decide +kernel
theorem d_Re_takeOrder_39 : decode b_Re_takeOrder 39 = .ok (.ifCond .eq 7, 3) := by decide +kernel
theorem d_Re_takeOrder_42 : decode b_Re_takeOrder 42 = .ok (.iconst 3, 1) := by decide +kernel
theorem d_Re_takeOrder_43 : decode b_Re_takeOrder 43 = .ok (.goto 4, 3) := by decide +kernel
theorem d_Re_takeOrder_46 : decode b_Re_takeOrder 46 = .ok (.iconst (-1), 1) := by decide +kernel
theorem d_Re_takeOrder_47 : decode b_Re_takeOrder 47 = .ok (.ireturn, 1) := by decide +kernel
theorem mf_Re_takeOrder : zMF y_Re_takeOrder b_Re_takeOrder 1 (some .int) 1 := ⟨zGW_in 687 (by decide +kernel) (by decide +kernel), zGW_in 128 (by decide +kernel) (by decide +kernel), by decide +kernel⟩
theorem st_Re_takeOrder : Cond.static y_Re_takeOrder ∈ zGW := zGW_in 686 (by decide +kernel) (by decide +kernel)
def y_Re_takeLaw : MethodName := ⟨zNm 6, "takeLaw", "(LEelClerk$Tape;)I"⟩
abbrev b_Re_takeLaw : ByteArray := prog_7_method_4_code
theorem d_Re_takeLaw_0 : decode b_Re_takeLaw 0 = .ok (.aload_n 0, 1) := by decide +kernel
theorem d_Re_takeLaw_1 : decode b_Re_takeLaw 1 = .ok (.ldc 95, 2) := by decide +kernel
theorem d_Re_takeLaw_3 : decode b_Re_takeLaw 3 = .ok (.invokevirtual 71, 3) := by decide +kernel
theorem d_Re_takeLaw_6 : decode b_Re_takeLaw 6 = .ok (.ifCond .eq 5, 3) := by decide +kernel
theorem d_Re_takeLaw_9 : decode b_Re_takeLaw 9 = .ok (.iconst 0, 1) := by decide +kernel
theorem d_Re_takeLaw_10 : decode b_Re_takeLaw 10 = .ok (.ireturn, 1) := by decide +kernel
theorem d_Re_takeLaw_11 : decode b_Re_takeLaw 11 = .ok (.aload_n 0, 1) := by decide +kernel
theorem d_Re_takeLaw_12 : decode b_Re_takeLaw 12 = .ok (.ldc 97, 2) := by decide +kernel
theorem d_Re_takeLaw_14 : decode b_Re_takeLaw 14 = .ok (.invokevirtual 71, 3) := by decide +kernel
theorem d_Re_takeLaw_17 : decode b_Re_takeLaw 17 = .ok (.ifCond .eq 5, 3) := by decide +kernel
theorem d_Re_takeLaw_20 : decode b_Re_takeLaw 20 = .ok (.iconst 1, 1) := by decide +kernel
theorem d_Re_takeLaw_21 : decode b_Re_takeLaw 21 = .ok (.ireturn, 1) := by decide +kernel
theorem d_Re_takeLaw_22 : decode b_Re_takeLaw 22 = .ok (.aload_n 0, 1) := by decide +kernel
theorem d_Re_takeLaw_23 : decode b_Re_takeLaw 23 = .ok (.ldc 99, 2) := by decide +kernel
theorem d_Re_takeLaw_25 : decode b_Re_takeLaw 25 = .ok (.invokevirtual 71, 3) := by decide +kernel
theorem d_Re_takeLaw_28 : decode b_Re_takeLaw 28 = .ok (.ifCond .eq 5, 3) := by decide +kernel
theorem d_Re_takeLaw_31 : decode b_Re_takeLaw 31 = .ok (.iconst 2, 1) := by decide +kernel
theorem d_Re_takeLaw_32 : decode b_Re_takeLaw 32 = .ok (.ireturn, 1) := by decide +kernel
theorem d_Re_takeLaw_33 : decode b_Re_takeLaw 33 = .ok (.aload_n 0, 1) := by decide +kernel
theorem d_Re_takeLaw_34 : decode b_Re_takeLaw 34 = .ok (.ldc 101, 2) := by decide +kernel
theorem d_Re_takeLaw_36 : decode b_Re_takeLaw 36 = .ok (.invokevirtual 71, 3) := by decide +kernel
theorem d_Re_takeLaw_39 : decode b_Re_takeLaw 39 = .ok (.ifCond .eq 7, 3) := by decide +kernel
theorem d_Re_takeLaw_42 : decode b_Re_takeLaw 42 = .ok (.iconst 3, 1) := by decide +kernel
theorem d_Re_takeLaw_43 : decode b_Re_takeLaw 43 = .ok (.goto 4, 3) := by decide +kernel
theorem d_Re_takeLaw_46 : decode b_Re_takeLaw 46 = .ok (.iconst (-1), 1) := by decide +kernel
theorem d_Re_takeLaw_47 : decode b_Re_takeLaw 47 = .ok (.ireturn, 1) := by decide +kernel
theorem mf_Re_takeLaw : zMF y_Re_takeLaw b_Re_takeLaw 1 (some .int) 1 := ⟨zGW_in 751 (by decide +kernel) (by decide +kernel), zGW_in 128 (by decide +kernel) (by decide +kernel), by decide +kernel⟩
theorem st_Re_takeLaw : Cond.static y_Re_takeLaw ∈ zGW := zGW_in 750 (by decide +kernel) (by decide +kernel)
def y_Tx_begin : MethodName := ⟨zNm 10, "begin", "(I)V"⟩
abbrev b_Tx_begin : ByteArray := prog_11_method_4_code
theorem d_Tx_begin_0 : decode b_Tx_begin 0 = .ok (.aload_n 0, 1) := by decide +kernel
theorem d_Tx_begin_1 : decode b_Tx_begin 1 = .ok (.getfield 15, 3) := by decide +kernel
theorem d_Tx_begin_4 : decode b_Tx_begin 4 = .ok (.ifCond .lt 42, 3) := by decide +kernel
theorem d_Tx_begin_7 : decode b_Tx_begin 7 = .ok (.aload_n 0, 1) := by decide +kernel
theorem d_Tx_begin_8 : decode b_Tx_begin 8 = .ok (.getfield 15, 3) := by decide +kernel
theorem d_Tx_begin_11 : decode b_Tx_begin 11 = .ok (.bipush 12, 2) := by decide +kernel
theorem d_Tx_begin_13 : decode b_Tx_begin 13 = .ok (.if_icmp .ge 33, 3) := by decide +kernel
theorem d_Tx_begin_16 : decode b_Tx_begin 16 = .ok (.aload_n 0, 1) := by decide +kernel
theorem d_Tx_begin_17 : decode b_Tx_begin 17 = .ok (.getfield 22, 3) := by decide +kernel
theorem d_Tx_begin_20 : decode b_Tx_begin 20 = .ok (.aload_n 0, 1) := by decide +kernel
theorem d_Tx_begin_21 : decode b_Tx_begin 21 = .ok (.getfield 15, 3) := by decide +kernel
theorem d_Tx_begin_24 : decode b_Tx_begin 24 = .ok (.iload_n 1, 1) := by decide +kernel
theorem d_Tx_begin_25 : decode b_Tx_begin 25 = .ok (.iastore, 1) := by decide +kernel
theorem d_Tx_begin_26 : decode b_Tx_begin 26 = .ok (.aload_n 0, 1) := by decide +kernel
theorem d_Tx_begin_27 : decode b_Tx_begin 27 = .ok (.getfield 26, 3) := by decide +kernel
theorem d_Tx_begin_30 : decode b_Tx_begin 30 = .ok (.aload_n 0, 1) := by decide +kernel
theorem d_Tx_begin_31 : decode b_Tx_begin 31 = .ok (.getfield 15, 3) := by decide +kernel
theorem d_Tx_begin_34 : decode b_Tx_begin 34 = .ok (.iconst 1, 1) := by decide +kernel
theorem d_Tx_begin_35 : decode b_Tx_begin 35 = .ok (.iastore, 1) := by decide +kernel
theorem d_Tx_begin_36 : decode b_Tx_begin 36 = .ok (.aload_n 0, 1) := by decide +kernel
theorem d_Tx_begin_37 : decode b_Tx_begin 37 = .ok (.dup, 1) := by decide +kernel
theorem d_Tx_begin_38 : decode b_Tx_begin 38 = .ok (.getfield 15, 3) := by decide +kernel
theorem d_Tx_begin_41 : decode b_Tx_begin 41 = .ok (.iconst 1, 1) := by decide +kernel
theorem d_Tx_begin_42 : decode b_Tx_begin 42 = .ok (.iadd, 1) := by decide +kernel
theorem d_Tx_begin_43 : decode b_Tx_begin 43 = .ok (.putfield 15, 3) := by decide +kernel
theorem d_Tx_begin_46 : decode b_Tx_begin 46 = .ok (.return_, 1) := by decide +kernel
theorem mf_Tx_begin : zMF y_Tx_begin b_Tx_begin 2 none 1 := ⟨zGW_in 759 (by decide +kernel) (by decide +kernel), zGW_in 129 (by decide +kernel) (by decide +kernel), by decide +kernel⟩
theorem in_Tx_begin : Cond.instanceMethod y_Tx_begin ∈ zGW := zGW_in 757 (by decide +kernel) (by decide +kernel)
theorem se_Tx_begin : Cond.selects y_Tx_begin.cls y_Tx_begin y_Tx_begin ∈ zGW := zGW_in 758 (by decide +kernel) (by decide +kernel)
def y_Re_sumsOfOrder : MethodName := ⟨zNm 6, "sumsOfOrder", "(I)I"⟩
abbrev b_Re_sumsOfOrder : ByteArray := prog_7_method_7_code
theorem d_Re_sumsOfOrder_0 : decode b_Re_sumsOfOrder 0 = .ok (.iload_n 0, 1) := by decide +kernel
theorem d_Re_sumsOfOrder_1 : decode b_Re_sumsOfOrder 1 = .ok (.iconst 3, 1) := by decide +kernel
theorem d_Re_sumsOfOrder_2 : decode b_Re_sumsOfOrder 2 = .ok (.if_icmp .ne 5, 3) := by decide +kernel
theorem d_Re_sumsOfOrder_5 : decode b_Re_sumsOfOrder 5 = .ok (.iconst 0, 1) := by decide +kernel
theorem d_Re_sumsOfOrder_6 : decode b_Re_sumsOfOrder 6 = .ok (.ireturn, 1) := by decide +kernel
theorem d_Re_sumsOfOrder_7 : decode b_Re_sumsOfOrder 7 = .ok (.iload_n 0, 1) := by decide +kernel
theorem d_Re_sumsOfOrder_8 : decode b_Re_sumsOfOrder 8 = .ok (.ifCond .ne 7, 3) := by decide +kernel
theorem d_Re_sumsOfOrder_11 : decode b_Re_sumsOfOrder 11 = .ok (.iconst 1, 1) := by decide +kernel
theorem d_Re_sumsOfOrder_12 : decode b_Re_sumsOfOrder 12 = .ok (.goto 4, 3) := by decide +kernel
theorem d_Re_sumsOfOrder_15 : decode b_Re_sumsOfOrder 15 = .ok (.iconst 2, 1) := by decide +kernel
theorem d_Re_sumsOfOrder_16 : decode b_Re_sumsOfOrder 16 = .ok (.ireturn, 1) := by decide +kernel
theorem mf_Re_sumsOfOrder : zMF y_Re_sumsOfOrder b_Re_sumsOfOrder 1 (some .int) 1 := ⟨zGW_in 762 (by decide +kernel) (by decide +kernel), zGW_in 128 (by decide +kernel) (by decide +kernel), by decide +kernel⟩
theorem st_Re_sumsOfOrder : Cond.static y_Re_sumsOfOrder ∈ zGW := zGW_in 761 (by decide +kernel) (by decide +kernel)
def y_Re_sumsOfLaw : MethodName := ⟨zNm 6, "sumsOfLaw", "(I)I"⟩
abbrev b_Re_sumsOfLaw : ByteArray := prog_7_method_5_code
theorem d_Re_sumsOfLaw_0 : decode b_Re_sumsOfLaw 0 = .ok (.iload_n 0, 1) := by decide +kernel
theorem d_Re_sumsOfLaw_1 : decode b_Re_sumsOfLaw 1 = .ok (.iconst 3, 1) := by decide +kernel
theorem d_Re_sumsOfLaw_2 : decode b_Re_sumsOfLaw 2 = .ok (.if_icmp .ne 7, 3) := by decide +kernel
theorem d_Re_sumsOfLaw_5 : decode b_Re_sumsOfLaw 5 = .ok (.iconst 0, 1) := by decide +kernel
theorem d_Re_sumsOfLaw_6 : decode b_Re_sumsOfLaw 6 = .ok (.goto 4, 3) := by decide +kernel
theorem d_Re_sumsOfLaw_9 : decode b_Re_sumsOfLaw 9 = .ok (.iconst 1, 1) := by decide +kernel
theorem d_Re_sumsOfLaw_10 : decode b_Re_sumsOfLaw 10 = .ok (.ireturn, 1) := by decide +kernel
theorem mf_Re_sumsOfLaw : zMF y_Re_sumsOfLaw b_Re_sumsOfLaw 1 (some .int) 1 := ⟨zGW_in 765 (by decide +kernel) (by decide +kernel), zGW_in 128 (by decide +kernel) (by decide +kernel), by decide +kernel⟩
theorem st_Re_sumsOfLaw : Cond.static y_Re_sumsOfLaw ∈ zGW := zGW_in 764 (by decide +kernel) (by decide +kernel)
def y_Tx_start : MethodName := ⟨zNm 10, "start", "(I)V"⟩
abbrev b_Tx_start : ByteArray := prog_11_method_6_code
theorem d_Tx_start_0 : decode b_Tx_start 0 = .ok (.aload_n 0, 1) := by decide +kernel
theorem d_Tx_start_1 : decode b_Tx_start 1 = .ok (.getfield 15, 3) := by decide +kernel
theorem d_Tx_start_4 : decode b_Tx_start 4 = .ok (.iconst 1, 1) := by decide +kernel
theorem d_Tx_start_5 : decode b_Tx_start 5 = .ok (.isub, 1) := by decide +kernel
theorem d_Tx_start_6 : decode b_Tx_start 6 = .ok (.iconst 3, 1) := by decide +kernel
theorem d_Tx_start_7 : decode b_Tx_start 7 = .ok (.imul, 1) := by decide +kernel
theorem d_Tx_start_8 : decode b_Tx_start 8 = .ok (.iload_n 1, 1) := by decide +kernel
theorem d_Tx_start_9 : decode b_Tx_start 9 = .ok (.iadd, 1) := by decide +kernel
theorem d_Tx_start_10 : decode b_Tx_start 10 = .ok (.istore_n 2, 1) := by decide +kernel
theorem d_Tx_start_11 : decode b_Tx_start 11 = .ok (.iload_n 2, 1) := by decide +kernel
theorem d_Tx_start_12 : decode b_Tx_start 12 = .ok (.ifCond .lt 22, 3) := by decide +kernel
theorem d_Tx_start_15 : decode b_Tx_start 15 = .ok (.iload_n 2, 1) := by decide +kernel
theorem d_Tx_start_16 : decode b_Tx_start 16 = .ok (.aload_n 0, 1) := by decide +kernel
theorem d_Tx_start_17 : decode b_Tx_start 17 = .ok (.getfield 29, 3) := by decide +kernel
theorem d_Tx_start_20 : decode b_Tx_start 20 = .ok (.arraylength, 1) := by decide +kernel
theorem d_Tx_start_21 : decode b_Tx_start 21 = .ok (.if_icmp .ge 13, 3) := by decide +kernel
theorem d_Tx_start_24 : decode b_Tx_start 24 = .ok (.aload_n 0, 1) := by decide +kernel
theorem d_Tx_start_25 : decode b_Tx_start 25 = .ok (.getfield 29, 3) := by decide +kernel
theorem d_Tx_start_28 : decode b_Tx_start 28 = .ok (.iload_n 2, 1) := by decide +kernel
theorem d_Tx_start_29 : decode b_Tx_start 29 = .ok (.aload_n 0, 1) := by decide +kernel
theorem d_Tx_start_30 : decode b_Tx_start 30 = .ok (.getfield 9, 3) := by decide +kernel
theorem d_Tx_start_33 : decode b_Tx_start 33 = .ok (.iastore, 1) := by decide +kernel
theorem d_Tx_start_34 : decode b_Tx_start 34 = .ok (.return_, 1) := by decide +kernel
theorem mf_Tx_start : zMF y_Tx_start b_Tx_start 3 none 1 := ⟨zGW_in 770 (by decide +kernel) (by decide +kernel), zGW_in 129 (by decide +kernel) (by decide +kernel), by decide +kernel⟩
theorem in_Tx_start : Cond.instanceMethod y_Tx_start ∈ zGW := zGW_in 768 (by decide +kernel) (by decide +kernel)
theorem se_Tx_start : Cond.selects y_Tx_start.cls y_Tx_start y_Tx_start ∈ zGW := zGW_in 769 (by decide +kernel) (by decide +kernel)
def y_Ta_isSign : MethodName := ⟨zNm 9, "isSign", "(C)Z"⟩
abbrev b_Ta_isSign : ByteArray := prog_10_method_11_code
theorem d_Ta_isSign_0 : decode b_Ta_isSign 0 = .ok (.aload_n 0, 1) := by decide +kernel
theorem d_Ta_isSign_1 : decode b_Ta_isSign 1 = .ok (.getfield 25, 3) := by decide +kernel
theorem d_Ta_isSign_4 : decode b_Ta_isSign 4 = .ok (.iconst 3, 1) := by decide +kernel
theorem d_Ta_isSign_5 : decode b_Ta_isSign 5 = .ok (.if_icmp .ne 19, 3) := by decide +kernel
theorem d_Ta_isSign_8 : decode b_Ta_isSign 8 = .ok (.aload_n 0, 1) := by decide +kernel
theorem d_Ta_isSign_9 : decode b_Ta_isSign 9 = .ok (.aload_n 0, 1) := by decide +kernel
theorem d_Ta_isSign_10 : decode b_Ta_isSign 10 = .ok (.getfield 19, 3) := by decide +kernel
theorem d_Ta_isSign_13 : decode b_Ta_isSign 13 = .ok (.invokevirtual 46, 3) := by decide +kernel
theorem d_Ta_isSign_16 : decode b_Ta_isSign 16 = .ok (.iload_n 1, 1) := by decide +kernel
theorem d_Ta_isSign_17 : decode b_Ta_isSign 17 = .ok (.if_icmp .ne 7, 3) := by decide +kernel
theorem d_Ta_isSign_20 : decode b_Ta_isSign 20 = .ok (.iconst 1, 1) := by decide +kernel
theorem d_Ta_isSign_21 : decode b_Ta_isSign 21 = .ok (.goto 4, 3) := by decide +kernel
theorem d_Ta_isSign_24 : decode b_Ta_isSign 24 = .ok (.iconst 0, 1) := by decide +kernel
theorem d_Ta_isSign_25 : decode b_Ta_isSign 25 = .ok (.ireturn, 1) := by decide +kernel
theorem mf_Ta_isSign : zMF y_Ta_isSign b_Ta_isSign 2 (some .boolean) 1 := ⟨zGW_in 786 (by decide +kernel) (by decide +kernel), zGW_in 127 (by decide +kernel) (by decide +kernel), by decide +kernel⟩
theorem in_Ta_isSign : Cond.instanceMethod y_Ta_isSign ∈ zGW := zGW_in 784 (by decide +kernel) (by decide +kernel)
theorem se_Ta_isSign : Cond.selects y_Ta_isSign.cls y_Ta_isSign y_Ta_isSign ∈ zGW := zGW_in 785 (by decide +kernel) (by decide +kernel)
def y_Ta_takeSign : MethodName := ⟨zNm 9, "takeSign", "(C)Z"⟩
abbrev b_Ta_takeSign : ByteArray := prog_10_method_12_code
theorem d_Ta_takeSign_0 : decode b_Ta_takeSign 0 = .ok (.aload_n 0, 1) := by decide +kernel
theorem d_Ta_takeSign_1 : decode b_Ta_takeSign 1 = .ok (.iload_n 1, 1) := by decide +kernel
theorem d_Ta_takeSign_2 : decode b_Ta_takeSign 2 = .ok (.invokevirtual 57, 3) := by decide +kernel
theorem d_Ta_takeSign_5 : decode b_Ta_takeSign 5 = .ok (.istore_n 2, 1) := by decide +kernel
theorem d_Ta_takeSign_6 : decode b_Ta_takeSign 6 = .ok (.iload_n 2, 1) := by decide +kernel
theorem d_Ta_takeSign_7 : decode b_Ta_takeSign 7 = .ok (.ifCond .eq 7, 3) := by decide +kernel
theorem d_Ta_takeSign_10 : decode b_Ta_takeSign 10 = .ok (.aload_n 0, 1) := by decide +kernel
theorem d_Ta_takeSign_11 : decode b_Ta_takeSign 11 = .ok (.invokevirtual 31, 3) := by decide +kernel
theorem d_Ta_takeSign_14 : decode b_Ta_takeSign 14 = .ok (.iload_n 2, 1) := by decide +kernel
theorem d_Ta_takeSign_15 : decode b_Ta_takeSign 15 = .ok (.ireturn, 1) := by decide +kernel
theorem mf_Ta_takeSign : zMF y_Ta_takeSign b_Ta_takeSign 3 (some .boolean) 1 := ⟨zGW_in 794 (by decide +kernel) (by decide +kernel), zGW_in 127 (by decide +kernel) (by decide +kernel), by decide +kernel⟩
theorem in_Ta_takeSign : Cond.instanceMethod y_Ta_takeSign ∈ zGW := zGW_in 792 (by decide +kernel) (by decide +kernel)
theorem se_Ta_takeSign : Cond.selects y_Ta_takeSign.cls y_Ta_takeSign y_Ta_takeSign ∈ zGW := zGW_in 793 (by decide +kernel) (by decide +kernel)
def y_Tx_emit : MethodName := ⟨zNm 10, "emit", "(II)V"⟩
abbrev b_Tx_emit : ByteArray := prog_11_method_10_code
theorem d_Tx_emit_0 : decode b_Tx_emit 0 = .ok (.aload_n 0, 1) := by decide +kernel
theorem d_Tx_emit_1 : decode b_Tx_emit 1 = .ok (.getfield 9, 3) := by decide +kernel
theorem d_Tx_emit_4 : decode b_Tx_emit 4 = .ok (.ifCond .lt 39, 3) := by decide +kernel
theorem d_Tx_emit_7 : decode b_Tx_emit 7 = .ok (.aload_n 0, 1) := by decide +kernel
theorem d_Tx_emit_8 : decode b_Tx_emit 8 = .ok (.getfield 9, 3) := by decide +kernel
theorem d_Tx_emit_11 : decode b_Tx_emit 11 = .ok (.aload_n 0, 1) := by decide +kernel
theorem d_Tx_emit_12 : decode b_Tx_emit 12 = .ok (.getfield 32, 3) := by decide +kernel
theorem d_Tx_emit_15 : decode b_Tx_emit 15 = .ok (.arraylength, 1) := by decide +kernel
theorem d_Tx_emit_16 : decode b_Tx_emit 16 = .ok (.if_icmp .ge 27, 3) := by decide +kernel
theorem d_Tx_emit_19 : decode b_Tx_emit 19 = .ok (.aload_n 0, 1) := by decide +kernel
theorem d_Tx_emit_20 : decode b_Tx_emit 20 = .ok (.getfield 32, 3) := by decide +kernel
theorem d_Tx_emit_23 : decode b_Tx_emit 23 = .ok (.aload_n 0, 1) := by decide +kernel
theorem d_Tx_emit_24 : decode b_Tx_emit 24 = .ok (.getfield 9, 3) := by decide +kernel
theorem d_Tx_emit_27 : decode b_Tx_emit 27 = .ok (.iload_n 2, 1) := by decide +kernel
theorem d_Tx_emit_28 : decode b_Tx_emit 28 = .ok (.iconst 4, 1) := by decide +kernel
theorem d_Tx_emit_29 : decode b_Tx_emit 29 = .ok (.ishl, 1) := by decide +kernel
theorem d_Tx_emit_30 : decode b_Tx_emit 30 = .ok (.iload_n 1, 1) := by decide +kernel
theorem d_Tx_emit_31 : decode b_Tx_emit 31 = .ok (.ior, 1) := by decide +kernel
theorem d_Tx_emit_32 : decode b_Tx_emit 32 = .ok (.iastore, 1) := by decide +kernel
theorem d_Tx_emit_33 : decode b_Tx_emit 33 = .ok (.aload_n 0, 1) := by decide +kernel
theorem d_Tx_emit_34 : decode b_Tx_emit 34 = .ok (.dup, 1) := by decide +kernel
theorem d_Tx_emit_35 : decode b_Tx_emit 35 = .ok (.getfield 9, 3) := by decide +kernel
theorem d_Tx_emit_38 : decode b_Tx_emit 38 = .ok (.iconst 1, 1) := by decide +kernel
theorem d_Tx_emit_39 : decode b_Tx_emit 39 = .ok (.iadd, 1) := by decide +kernel
theorem d_Tx_emit_40 : decode b_Tx_emit 40 = .ok (.putfield 9, 3) := by decide +kernel
theorem d_Tx_emit_43 : decode b_Tx_emit 43 = .ok (.return_, 1) := by decide +kernel
theorem mf_Tx_emit : zMF y_Tx_emit b_Tx_emit 3 none 2 := ⟨zGW_in 817 (by decide +kernel) (by decide +kernel), zGW_in 129 (by decide +kernel) (by decide +kernel), by decide +kernel⟩
theorem in_Tx_emit : Cond.instanceMethod y_Tx_emit ∈ zGW := zGW_in 815 (by decide +kernel) (by decide +kernel)
theorem se_Tx_emit : Cond.selects y_Tx_emit.cls y_Tx_emit y_Tx_emit ∈ zGW := zGW_in 816 (by decide +kernel) (by decide +kernel)
def y_Tx_land : MethodName := ⟨zNm 10, "land", "(II)V"⟩
abbrev b_Tx_land : ByteArray := prog_11_method_11_code
theorem d_Tx_land_0 : decode b_Tx_land 0 = .ok (.iload_n 1, 1) := by decide +kernel
theorem d_Tx_land_1 : decode b_Tx_land 1 = .ok (.ifCond .lt 26, 3) := by decide +kernel
theorem d_Tx_land_4 : decode b_Tx_land 4 = .ok (.iload_n 1, 1) := by decide +kernel
theorem d_Tx_land_5 : decode b_Tx_land 5 = .ok (.aload_n 0, 1) := by decide +kernel
theorem d_Tx_land_6 : decode b_Tx_land 6 = .ok (.getfield 32, 3) := by decide +kernel
theorem d_Tx_land_9 : decode b_Tx_land 9 = .ok (.arraylength, 1) := by decide +kernel
theorem d_Tx_land_10 : decode b_Tx_land 10 = .ok (.if_icmp .ge 17, 3) := by decide +kernel
theorem d_Tx_land_13 : decode b_Tx_land 13 = .ok (.aload_n 0, 1) := by decide +kernel
theorem d_Tx_land_14 : decode b_Tx_land 14 = .ok (.getfield 32, 3) := by decide +kernel
theorem d_Tx_land_17 : decode b_Tx_land 17 = .ok (.iload_n 1, 1) := by decide +kernel
theorem d_Tx_land_18 : decode b_Tx_land 18 = .ok (.aload_n 0, 1) := by decide +kernel
theorem d_Tx_land_19 : decode b_Tx_land 19 = .ok (.getfield 9, 3) := by decide +kernel
theorem d_Tx_land_22 : decode b_Tx_land 22 = .ok (.iconst 4, 1) := by decide +kernel
theorem d_Tx_land_23 : decode b_Tx_land 23 = .ok (.ishl, 1) := by decide +kernel
theorem d_Tx_land_24 : decode b_Tx_land 24 = .ok (.iload_n 2, 1) := by decide +kernel
theorem d_Tx_land_25 : decode b_Tx_land 25 = .ok (.ior, 1) := by decide +kernel
theorem d_Tx_land_26 : decode b_Tx_land 26 = .ok (.iastore, 1) := by decide +kernel
theorem d_Tx_land_27 : decode b_Tx_land 27 = .ok (.return_, 1) := by decide +kernel
theorem mf_Tx_land : zMF y_Tx_land b_Tx_land 3 none 2 := ⟨zGW_in 822 (by decide +kernel) (by decide +kernel), zGW_in 129 (by decide +kernel) (by decide +kernel), by decide +kernel⟩
theorem in_Tx_land : Cond.instanceMethod y_Tx_land ∈ zGW := zGW_in 820 (by decide +kernel) (by decide +kernel)
theorem se_Tx_land : Cond.selects y_Tx_land.cls y_Tx_land y_Tx_land ∈ zGW := zGW_in 821 (by decide +kernel) (by decide +kernel)
def y_Ta_isNumber : MethodName := ⟨zNm 9, "isNumber", "()Z"⟩
abbrev b_Ta_isNumber : ByteArray := prog_10_method_8_code
theorem d_Ta_isNumber_0 : decode b_Ta_isNumber 0 = .ok (.aload_n 0, 1) := by decide +kernel
theorem d_Ta_isNumber_1 : decode b_Ta_isNumber 1 = .ok (.getfield 25, 3) := by decide +kernel
theorem d_Ta_isNumber_4 : decode b_Ta_isNumber 4 = .ok (.iconst 2, 1) := by decide +kernel
theorem d_Ta_isNumber_5 : decode b_Ta_isNumber 5 = .ok (.if_icmp .ne 17, 3) := by decide +kernel
theorem d_Ta_isNumber_8 : decode b_Ta_isNumber 8 = .ok (.aload_n 0, 1) := by decide +kernel
theorem d_Ta_isNumber_9 : decode b_Ta_isNumber 9 = .ok (.getfield 28, 3) := by decide +kernel
theorem d_Ta_isNumber_12 : decode b_Ta_isNumber 12 = .ok (.sipush 1000, 3) := by decide +kernel
theorem d_Ta_isNumber_15 : decode b_Ta_isNumber 15 = .ok (.if_icmp .gt 7, 3) := by decide +kernel
theorem d_Ta_isNumber_18 : decode b_Ta_isNumber 18 = .ok (.iconst 1, 1) := by decide +kernel
theorem d_Ta_isNumber_19 : decode b_Ta_isNumber 19 = .ok (.goto 4, 3) := by decide +kernel
theorem d_Ta_isNumber_22 : decode b_Ta_isNumber 22 = .ok (.iconst 0, 1) := by decide +kernel
theorem d_Ta_isNumber_23 : decode b_Ta_isNumber 23 = .ok (.ireturn, 1) := by decide +kernel
theorem mf_Ta_isNumber : zMF y_Ta_isNumber b_Ta_isNumber 1 (some .boolean) 0 := ⟨zGW_in 827 (by decide +kernel) (by decide +kernel), zGW_in 127 (by decide +kernel) (by decide +kernel), by decide +kernel⟩
theorem in_Ta_isNumber : Cond.instanceMethod y_Ta_isNumber ∈ zGW := zGW_in 825 (by decide +kernel) (by decide +kernel)
theorem se_Ta_isNumber : Cond.selects y_Ta_isNumber.cls y_Ta_isNumber y_Ta_isNumber ∈ zGW := zGW_in 826 (by decide +kernel) (by decide +kernel)
def y_Re_readWhich : MethodName := ⟨zNm 6, "readWhich", "(LEelClerk$Tape;I)Z"⟩
abbrev b_Re_readWhich : ByteArray := prog_7_method_17_code
theorem d_Re_readWhich_0 : decode b_Re_readWhich 0 = .ok (.aload_n 1, 1) := by decide +kernel
theorem d_Re_readWhich_1 : decode b_Re_readWhich 1 = .ok (.invokevirtual 111, 3) := by decide +kernel
theorem d_Re_readWhich_4 : decode b_Re_readWhich 4 = .ok (.ifCond .eq 12, 3) := by decide +kernel
theorem d_Re_readWhich_7 : decode b_Re_readWhich 7 = .ok (.aload_n 1, 1) := by decide +kernel
theorem d_Re_readWhich_8 : decode b_Re_readWhich 8 = .ok (.getfield 115, 3) := by decide +kernel
theorem d_Re_readWhich_11 : decode b_Re_readWhich 11 = .ok (.bipush 9, 2) := by decide +kernel
theorem d_Re_readWhich_13 : decode b_Re_readWhich 13 = .ok (.if_icmp .lt 5, 3) := by decide +kernel
theorem d_Re_readWhich_16 : decode b_Re_readWhich 16 = .ok (.iconst 0, 1) := by decide +kernel
theorem d_Re_readWhich_17 : decode b_Re_readWhich 17 = .ok (.ireturn, 1) := by decide +kernel
theorem d_Re_readWhich_18 : decode b_Re_readWhich 18 = .ok (.aload_n 0, 1) := by decide +kernel
theorem d_Re_readWhich_19 : decode b_Re_readWhich 19 = .ok (.getfield 14, 3) := by decide +kernel
theorem d_Re_readWhich_22 : decode b_Re_readWhich 22 = .ok (.iconst 1, 1) := by decide +kernel
theorem d_Re_readWhich_23 : decode b_Re_readWhich 23 = .ok (.iload_n 2, 1) := by decide +kernel
theorem d_Re_readWhich_24 : decode b_Re_readWhich 24 = .ok (.aload_n 1, 1) := by decide +kernel
theorem d_Re_readWhich_25 : decode b_Re_readWhich 25 = .ok (.getfield 115, 3) := by decide +kernel
theorem d_Re_readWhich_28 : decode b_Re_readWhich 28 = .ok (.iadd, 1) := by decide +kernel
theorem d_Re_readWhich_29 : decode b_Re_readWhich 29 = .ok (.invokevirtual 81, 3) := by decide +kernel
theorem d_Re_readWhich_32 : decode b_Re_readWhich 32 = .ok (.aload_n 1, 1) := by decide +kernel
theorem d_Re_readWhich_33 : decode b_Re_readWhich 33 = .ok (.invokevirtual 121, 3) := by decide +kernel
theorem d_Re_readWhich_36 : decode b_Re_readWhich 36 = .ok (.iconst 1, 1) := by decide +kernel
theorem d_Re_readWhich_37 : decode b_Re_readWhich 37 = .ok (.ireturn, 1) := by decide +kernel
theorem mf_Re_readWhich : zMF y_Re_readWhich b_Re_readWhich 3 (some .boolean) 2 := ⟨zGW_in 832 (by decide +kernel) (by decide +kernel), zGW_in 128 (by decide +kernel) (by decide +kernel), by decide +kernel⟩
theorem in_Re_readWhich : Cond.instanceMethod y_Re_readWhich ∈ zGW := zGW_in 831 (by decide +kernel) (by decide +kernel)
theorem se_Re_readWhich : Cond.selects y_Re_readWhich.cls y_Re_readWhich y_Re_readWhich ∈ zGW := zGW_in 17 (by decide +kernel) (by decide +kernel)
def y_Re_orderWord : MethodName := ⟨zNm 6, "orderWord", "(LEelClerk$Tape;)I"⟩
abbrev b_Re_orderWord : ByteArray := prog_7_method_19_code
theorem d_Re_orderWord_0 : decode b_Re_orderWord 0 = .ok (.aload_n 0, 1) := by decide +kernel
theorem d_Re_orderWord_1 : decode b_Re_orderWord 1 = .ok (.ldc 183, 2) := by decide +kernel
theorem d_Re_orderWord_3 : decode b_Re_orderWord 3 = .ok (.invokevirtual 176, 3) := by decide +kernel
theorem d_Re_orderWord_6 : decode b_Re_orderWord 6 = .ok (.ifCond .eq 5, 3) := by decide +kernel
theorem d_Re_orderWord_9 : decode b_Re_orderWord 9 = .ok (.iconst 0, 1) := by decide +kernel
theorem d_Re_orderWord_10 : decode b_Re_orderWord 10 = .ok (.ireturn, 1) := by decide +kernel
theorem d_Re_orderWord_11 : decode b_Re_orderWord 11 = .ok (.aload_n 0, 1) := by decide +kernel
theorem d_Re_orderWord_12 : decode b_Re_orderWord 12 = .ok (.ldc 187, 2) := by decide +kernel
theorem d_Re_orderWord_14 : decode b_Re_orderWord 14 = .ok (.invokevirtual 176, 3) := by decide +kernel
theorem d_Re_orderWord_17 : decode b_Re_orderWord 17 = .ok (.ifCond .eq 5, 3) := by decide +kernel
theorem d_Re_orderWord_20 : decode b_Re_orderWord 20 = .ok (.iconst 1, 1) := by decide +kernel
theorem d_Re_orderWord_21 : decode b_Re_orderWord 21 = .ok (.ireturn, 1) := by decide +kernel
theorem d_Re_orderWord_22 : decode b_Re_orderWord 22 = .ok (.aload_n 0, 1) := by decide +kernel
theorem d_Re_orderWord_23 : decode b_Re_orderWord 23 = .ok (.ldc 189, 2) := by decide +kernel
theorem d_Re_orderWord_25 : decode b_Re_orderWord 25 = .ok (.invokevirtual 176, 3) := by decide +kernel
theorem d_Re_orderWord_28 : decode b_Re_orderWord 28 = .ok (.ifCond .eq 5, 3) := by decide +kernel
theorem d_Re_orderWord_31 : decode b_Re_orderWord 31 = .ok (.iconst 2, 1) := by decide +kernel
theorem d_Re_orderWord_32 : decode b_Re_orderWord 32 = .ok (.ireturn, 1) := by decide +kernel
theorem d_Re_orderWord_33 : decode b_Re_orderWord 33 = .ok (.aload_n 0, 1) := by decide +kernel
theorem d_Re_orderWord_34 : decode b_Re_orderWord 34 = .ok (.ldc 191, 2) := by decide +kernel
theorem d_Re_orderWord_36 : decode b_Re_orderWord 36 = .ok (.invokevirtual 176, 3) := by decide +kernel
theorem d_Re_orderWord_39 : decode b_Re_orderWord 39 = .ok (.ifCond .eq 5, 3) := by decide +kernel
theorem d_Re_orderWord_42 : decode b_Re_orderWord 42 = .ok (.iconst 3, 1) := by decide +kernel
theorem d_Re_orderWord_43 : decode b_Re_orderWord 43 = .ok (.ireturn, 1) := by decide +kernel
theorem d_Re_orderWord_44 : decode b_Re_orderWord 44 = .ok (.aload_n 0, 1) := by decide +kernel
theorem d_Re_orderWord_45 : decode b_Re_orderWord 45 = .ok (.ldc 193, 2) := by decide +kernel
theorem d_Re_orderWord_47 : decode b_Re_orderWord 47 = .ok (.invokevirtual 176, 3) := by decide +kernel
theorem d_Re_orderWord_50 : decode b_Re_orderWord 50 = .ok (.ifCond .eq 7, 3) := by decide +kernel
theorem d_Re_orderWord_53 : decode b_Re_orderWord 53 = .ok (.iconst 4, 1) := by decide +kernel
theorem d_Re_orderWord_54 : decode b_Re_orderWord 54 = .ok (.goto 4, 3) := by decide +kernel
theorem d_Re_orderWord_57 : decode b_Re_orderWord 57 = .ok (.iconst (-1), 1) := by decide +kernel
theorem d_Re_orderWord_58 : decode b_Re_orderWord 58 = .ok (.ireturn, 1) := by decide +kernel
theorem mf_Re_orderWord : zMF y_Re_orderWord b_Re_orderWord 1 (some .int) 1 := ⟨zGW_in 836 (by decide +kernel) (by decide +kernel), zGW_in 128 (by decide +kernel) (by decide +kernel), by decide +kernel⟩
theorem st_Re_orderWord : Cond.static y_Re_orderWord ∈ zGW := zGW_in 835 (by decide +kernel) (by decide +kernel)
def y_Re_lawWord : MethodName := ⟨zNm 6, "lawWord", "(LEelClerk$Tape;)I"⟩
abbrev b_Re_lawWord : ByteArray := prog_7_method_18_code
theorem d_Re_lawWord_0 : decode b_Re_lawWord 0 = .ok (.aload_n 0, 1) := by decide +kernel
theorem d_Re_lawWord_1 : decode b_Re_lawWord 1 = .ok (.ldc 175, 2) := by decide +kernel
theorem d_Re_lawWord_3 : decode b_Re_lawWord 3 = .ok (.invokevirtual 176, 3) := by decide +kernel
theorem d_Re_lawWord_6 : decode b_Re_lawWord 6 = .ok (.ifCond .eq 5, 3) := by decide +kernel
theorem d_Re_lawWord_9 : decode b_Re_lawWord 9 = .ok (.iconst 0, 1) := by decide +kernel
theorem d_Re_lawWord_10 : decode b_Re_lawWord 10 = .ok (.ireturn, 1) := by decide +kernel
theorem d_Re_lawWord_11 : decode b_Re_lawWord 11 = .ok (.aload_n 0, 1) := by decide +kernel
theorem d_Re_lawWord_12 : decode b_Re_lawWord 12 = .ok (.ldc 69, 2) := by decide +kernel
theorem d_Re_lawWord_14 : decode b_Re_lawWord 14 = .ok (.invokevirtual 176, 3) := by decide +kernel
theorem d_Re_lawWord_17 : decode b_Re_lawWord 17 = .ok (.ifCond .eq 5, 3) := by decide +kernel
theorem d_Re_lawWord_20 : decode b_Re_lawWord 20 = .ok (.iconst 1, 1) := by decide +kernel
theorem d_Re_lawWord_21 : decode b_Re_lawWord 21 = .ok (.ireturn, 1) := by decide +kernel
theorem d_Re_lawWord_22 : decode b_Re_lawWord 22 = .ok (.aload_n 0, 1) := by decide +kernel
theorem d_Re_lawWord_23 : decode b_Re_lawWord 23 = .ok (.ldc 179, 2) := by decide +kernel
theorem d_Re_lawWord_25 : decode b_Re_lawWord 25 = .ok (.invokevirtual 176, 3) := by decide +kernel
theorem d_Re_lawWord_28 : decode b_Re_lawWord 28 = .ok (.ifCond .eq 5, 3) := by decide +kernel
theorem d_Re_lawWord_31 : decode b_Re_lawWord 31 = .ok (.iconst 2, 1) := by decide +kernel
theorem d_Re_lawWord_32 : decode b_Re_lawWord 32 = .ok (.ireturn, 1) := by decide +kernel
theorem d_Re_lawWord_33 : decode b_Re_lawWord 33 = .ok (.aload_n 0, 1) := by decide +kernel
theorem d_Re_lawWord_34 : decode b_Re_lawWord 34 = .ok (.ldc 181, 2) := by decide +kernel
theorem d_Re_lawWord_36 : decode b_Re_lawWord 36 = .ok (.invokevirtual 176, 3) := by decide +kernel
theorem d_Re_lawWord_39 : decode b_Re_lawWord 39 = .ok (.ifCond .eq 5, 3) := by decide +kernel
theorem d_Re_lawWord_42 : decode b_Re_lawWord 42 = .ok (.iconst 3, 1) := by decide +kernel
theorem d_Re_lawWord_43 : decode b_Re_lawWord 43 = .ok (.ireturn, 1) := by decide +kernel
theorem d_Re_lawWord_44 : decode b_Re_lawWord 44 = .ok (.aload_n 0, 1) := by decide +kernel
theorem d_Re_lawWord_45 : decode b_Re_lawWord 45 = .ok (.ldc 158, 2) := by decide +kernel
theorem d_Re_lawWord_47 : decode b_Re_lawWord 47 = .ok (.invokevirtual 176, 3) := by decide +kernel
theorem d_Re_lawWord_50 : decode b_Re_lawWord 50 = .ok (.ifCond .eq 5, 3) := by decide +kernel
theorem d_Re_lawWord_53 : decode b_Re_lawWord 53 = .ok (.iconst 4, 1) := by decide +kernel
theorem d_Re_lawWord_54 : decode b_Re_lawWord 54 = .ok (.ireturn, 1) := by decide +kernel
theorem d_Re_lawWord_55 : decode b_Re_lawWord 55 = .ok (.aload_n 0, 1) := by decide +kernel
theorem d_Re_lawWord_56 : decode b_Re_lawWord 56 = .ok (.ldc 183, 2) := by decide +kernel
theorem d_Re_lawWord_58 : decode b_Re_lawWord 58 = .ok (.invokevirtual 176, 3) := by decide +kernel
theorem d_Re_lawWord_61 : decode b_Re_lawWord 61 = .ok (.ifCond .eq 5, 3) := by decide +kernel
theorem d_Re_lawWord_64 : decode b_Re_lawWord 64 = .ok (.iconst 5, 1) := by decide +kernel
theorem d_Re_lawWord_65 : decode b_Re_lawWord 65 = .ok (.ireturn, 1) := by decide +kernel
theorem d_Re_lawWord_66 : decode b_Re_lawWord 66 = .ok (.aload_n 0, 1) := by decide +kernel
theorem d_Re_lawWord_67 : decode b_Re_lawWord 67 = .ok (.ldc 185, 2) := by decide +kernel
theorem d_Re_lawWord_69 : decode b_Re_lawWord 69 = .ok (.invokevirtual 176, 3) := by decide +kernel
theorem d_Re_lawWord_72 : decode b_Re_lawWord 72 = .ok (.ifCond .eq 8, 3) := by decide +kernel
theorem d_Re_lawWord_75 : decode b_Re_lawWord 75 = .ok (.bipush 6, 2) := by decide +kernel
theorem d_Re_lawWord_77 : decode b_Re_lawWord 77 = .ok (.goto 4, 3) := by decide +kernel
theorem d_Re_lawWord_80 : decode b_Re_lawWord 80 = .ok (.iconst (-1), 1) := by decide +kernel
theorem d_Re_lawWord_81 : decode b_Re_lawWord 81 = .ok (.ireturn, 1) := by decide +kernel
theorem mf_Re_lawWord : zMF y_Re_lawWord b_Re_lawWord 1 (some .int) 1 := ⟨zGW_in 845 (by decide +kernel) (by decide +kernel), zGW_in 128 (by decide +kernel) (by decide +kernel), by decide +kernel⟩
theorem st_Re_lawWord : Cond.static y_Re_lawWord ∈ zGW := zGW_in 844 (by decide +kernel) (by decide +kernel)
def y_Re_readComparison : MethodName := ⟨zNm 6, "readComparison", "(LEelClerk$Tape;)Z"⟩
abbrev b_Re_readComparison : ByteArray := prog_7_method_13_code
theorem d_Re_readComparison_0 : decode b_Re_readComparison 0 = .ok (.aload_n 0, 1) := by decide +kernel
theorem d_Re_readComparison_1 : decode b_Re_readComparison 1 = .ok (.aload_n 1, 1) := by decide +kernel
theorem d_Re_readComparison_2 : decode b_Re_readComparison 2 = .ok (.invokevirtual 78, 3) := by decide +kernel
theorem d_Re_readComparison_5 : decode b_Re_readComparison 5 = .ok (.ifCond .ne 5, 3) := by decide +kernel
theorem d_Re_readComparison_8 : decode b_Re_readComparison 8 = .ok (.iconst 0, 1) := by decide +kernel
theorem d_Re_readComparison_9 : decode b_Re_readComparison 9 = .ok (.ireturn, 1) := by decide +kernel
theorem d_Re_readComparison_10 : decode b_Re_readComparison 10 = .ok (.bipush 12, 2) := by decide +kernel
theorem d_Re_readComparison_12 : decode b_Re_readComparison 12 = .ok (.istore_n 2, 1) := by decide +kernel
theorem d_Re_readComparison_13 : decode b_Re_readComparison 13 = .ok (.aload_n 1, 1) := by decide +kernel
theorem d_Re_readComparison_14 : decode b_Re_readComparison 14 = .ok (.bipush 60, 2) := by decide +kernel
theorem d_Re_readComparison_16 : decode b_Re_readComparison 16 = .ok (.invokevirtual 142, 3) := by decide +kernel
theorem d_Re_readComparison_19 : decode b_Re_readComparison 19 = .ok (.ifCond .eq 9, 3) := by decide +kernel
theorem d_Re_readComparison_22 : decode b_Re_readComparison 22 = .ok (.bipush 10, 2) := by decide +kernel
theorem d_Re_readComparison_24 : decode b_Re_readComparison 24 = .ok (.istore_n 2, 1) := by decide +kernel
theorem d_Re_readComparison_25 : decode b_Re_readComparison 25 = .ok (.goto 29, 3) := by decide +kernel
theorem d_Re_readComparison_28 : decode b_Re_readComparison 28 = .ok (.aload_n 1, 1) := by decide +kernel
theorem d_Re_readComparison_29 : decode b_Re_readComparison 29 = .ok (.bipush 62, 2) := by decide +kernel
theorem d_Re_readComparison_31 : decode b_Re_readComparison 31 = .ok (.invokevirtual 142, 3) := by decide +kernel
theorem d_Re_readComparison_34 : decode b_Re_readComparison 34 = .ok (.ifCond .eq 9, 3) := by decide +kernel
theorem d_Re_readComparison_37 : decode b_Re_readComparison 37 = .ok (.bipush 11, 2) := by decide +kernel
theorem d_Re_readComparison_39 : decode b_Re_readComparison 39 = .ok (.istore_n 2, 1) := by decide +kernel
theorem d_Re_readComparison_40 : decode b_Re_readComparison 40 = .ok (.goto 14, 3) := by decide +kernel
theorem d_Re_readComparison_43 : decode b_Re_readComparison 43 = .ok (.aload_n 1, 1) := by decide +kernel
theorem d_Re_readComparison_44 : decode b_Re_readComparison 44 = .ok (.bipush 61, 2) := by decide +kernel
theorem d_Re_readComparison_46 : decode b_Re_readComparison 46 = .ok (.invokevirtual 142, 3) := by decide +kernel
theorem d_Re_readComparison_49 : decode b_Re_readComparison 49 = .ok (.ifCond .ne 5, 3) := by decide +kernel
theorem d_Re_readComparison_52 : decode b_Re_readComparison 52 = .ok (.iconst 0, 1) := by decide +kernel
theorem d_Re_readComparison_53 : decode b_Re_readComparison 53 = .ok (.ireturn, 1) := by decide +kernel
theorem d_Re_readComparison_54 : decode b_Re_readComparison 54 = .ok (.aload_n 1, 1) := by decide +kernel
theorem d_Re_readComparison_55 : decode b_Re_readComparison 55 = .ok (.invokevirtual 121, 3) := by decide +kernel
theorem d_Re_readComparison_58 : decode b_Re_readComparison 58 = .ok (.aload_n 0, 1) := by decide +kernel
theorem d_Re_readComparison_59 : decode b_Re_readComparison 59 = .ok (.aload_n 1, 1) := by decide +kernel
theorem d_Re_readComparison_60 : decode b_Re_readComparison 60 = .ok (.invokevirtual 78, 3) := by decide +kernel
theorem d_Re_readComparison_63 : decode b_Re_readComparison 63 = .ok (.ifCond .ne 5, 3) := by decide +kernel
theorem d_Re_readComparison_66 : decode b_Re_readComparison 66 = .ok (.iconst 0, 1) := by decide +kernel
theorem d_Re_readComparison_67 : decode b_Re_readComparison 67 = .ok (.ireturn, 1) := by decide +kernel
theorem d_Re_readComparison_68 : decode b_Re_readComparison 68 = .ok (.aload_n 0, 1) := by decide +kernel
theorem d_Re_readComparison_69 : decode b_Re_readComparison 69 = .ok (.getfield 14, 3) := by decide +kernel
theorem d_Re_readComparison_72 : decode b_Re_readComparison 72 = .ok (.iload_n 2, 1) := by decide +kernel
theorem d_Re_readComparison_73 : decode b_Re_readComparison 73 = .ok (.iconst 0, 1) := by decide +kernel
theorem d_Re_readComparison_74 : decode b_Re_readComparison 74 = .ok (.invokevirtual 81, 3) := by decide +kernel
theorem d_Re_readComparison_77 : decode b_Re_readComparison 77 = .ok (.iconst 1, 1) := by decide +kernel
theorem d_Re_readComparison_78 : decode b_Re_readComparison 78 = .ok (.ireturn, 1) := by decide +kernel
theorem mf_Re_readComparison : zMF y_Re_readComparison b_Re_readComparison 3 (some .boolean) 1 := ⟨zGW_in 812 (by decide +kernel) (by decide +kernel), zGW_in 128 (by decide +kernel) (by decide +kernel), by decide +kernel⟩
theorem in_Re_readComparison : Cond.instanceMethod y_Re_readComparison ∈ zGW := zGW_in 811 (by decide +kernel) (by decide +kernel)
theorem se_Re_readComparison : Cond.selects y_Re_readComparison.cls y_Re_readComparison y_Re_readComparison ∈ zGW := zGW_in 16 (by decide +kernel) (by decide +kernel)
def y_Re_readPlain : MethodName := ⟨zNm 6, "readPlain", "(LEelClerk$Tape;)Z"⟩
abbrev b_Re_readPlain : ByteArray := prog_7_method_11_code
theorem d_Re_readPlain_0 : decode b_Re_readPlain 0 = .ok (.iconst 0, 1) := by decide +kernel
theorem d_Re_readPlain_1 : decode b_Re_readPlain 1 = .ok (.istore_n 2, 1) := by decide +kernel
theorem d_Re_readPlain_2 : decode b_Re_readPlain 2 = .ok (.iconst 0, 1) := by decide +kernel
theorem d_Re_readPlain_3 : decode b_Re_readPlain 3 = .ok (.istore_n 3, 1) := by decide +kernel
theorem d_Re_readPlain_4 : decode b_Re_readPlain 4 = .ok (.iload_n 3, 1) := by decide +kernel
theorem d_Re_readPlain_5 : decode b_Re_readPlain 5 = .ok (.sipush 400, 3) := by decide +kernel
theorem d_Re_readPlain_8 : decode b_Re_readPlain 8 = .ok (.if_icmp .ge 28, 3) := by decide +kernel
theorem d_Re_readPlain_11 : decode b_Re_readPlain 11 = .ok (.aload_n 1, 1) := by decide +kernel
theorem d_Re_readPlain_12 : decode b_Re_readPlain 12 = .ok (.ldc 140, 2) := by decide +kernel
theorem d_Re_readPlain_14 : decode b_Re_readPlain 14 = .ok (.invokevirtual 71, 3) := by decide +kernel
theorem d_Re_readPlain_17 : decode b_Re_readPlain 17 = .ok (.ifCond .eq 19, 3) := by decide +kernel
theorem d_Re_readPlain_20 : decode b_Re_readPlain 20 = .ok (.iload_n 2, 1) := by decide +kernel
theorem d_Re_readPlain_21 : decode b_Re_readPlain 21 = .ok (.ifCond .ne 7, 3) := by decide +kernel
theorem d_Re_readPlain_24 : decode b_Re_readPlain 24 = .ok (.iconst 1, 1) := by decide +kernel
theorem d_Re_readPlain_25 : decode b_Re_readPlain 25 = .ok (.goto 4, 3) := by decide +kernel
theorem d_Re_readPlain_28 : decode b_Re_readPlain 28 = .ok (.iconst 0, 1) := by decide +kernel
theorem d_Re_readPlain_29 : decode b_Re_readPlain 29 = .ok (.istore_n 2, 1) := by decide +kernel
theorem d_Re_readPlain_30 : decode b_Re_readPlain 30 = .ok (.iinc 3 1, 3) := by decide +kernel
theorem d_Re_readPlain_33 : decode b_Re_readPlain 33 = .ok (.goto (-29), 3) := by decide +kernel
theorem d_Re_readPlain_36 : decode b_Re_readPlain 36 = .ok (.aload_n 1, 1) := by decide +kernel
theorem d_Re_readPlain_37 : decode b_Re_readPlain 37 = .ok (.bipush 40, 2) := by decide +kernel
theorem d_Re_readPlain_39 : decode b_Re_readPlain 39 = .ok (.invokevirtual 142, 3) := by decide +kernel
theorem d_Re_readPlain_42 : decode b_Re_readPlain 42 = .ok (.ifCond .eq 15, 3) := by decide +kernel
theorem d_Re_readPlain_45 : decode b_Re_readPlain 45 = .ok (.aload_n 0, 1) := by decide +kernel
theorem d_Re_readPlain_46 : decode b_Re_readPlain 46 = .ok (.aload_n 1, 1) := by decide +kernel
theorem d_Re_readPlain_47 : decode b_Re_readPlain 47 = .ok (.bipush 40, 2) := by decide +kernel
theorem d_Re_readPlain_49 : decode b_Re_readPlain 49 = .ok (.bipush 41, 2) := by decide +kernel
theorem d_Re_readPlain_51 : decode b_Re_readPlain 51 = .ok (.invokevirtual 145, 3) := by decide +kernel
theorem d_Re_readPlain_54 : decode b_Re_readPlain 54 = .ok (.goto 8, 3) := by decide +kernel
theorem d_Re_readPlain_57 : decode b_Re_readPlain 57 = .ok (.aload_n 0, 1) := by decide +kernel
theorem d_Re_readPlain_58 : decode b_Re_readPlain 58 = .ok (.aload_n 1, 1) := by decide +kernel
theorem d_Re_readPlain_59 : decode b_Re_readPlain 59 = .ok (.invokevirtual 149, 3) := by decide +kernel
theorem d_Re_readPlain_62 : decode b_Re_readPlain 62 = .ok (.istore_n 3, 1) := by decide +kernel
theorem d_Re_readPlain_63 : decode b_Re_readPlain 63 = .ok (.iload_n 3, 1) := by decide +kernel
theorem d_Re_readPlain_64 : decode b_Re_readPlain 64 = .ok (.ifCond .eq 16, 3) := by decide +kernel
theorem d_Re_readPlain_67 : decode b_Re_readPlain 67 = .ok (.iload_n 2, 1) := by decide +kernel
theorem d_Re_readPlain_68 : decode b_Re_readPlain 68 = .ok (.ifCond .eq 12, 3) := by decide +kernel
theorem d_Re_readPlain_71 : decode b_Re_readPlain 71 = .ok (.aload_n 0, 1) := by decide +kernel
theorem d_Re_readPlain_72 : decode b_Re_readPlain 72 = .ok (.getfield 14, 3) := by decide +kernel
theorem d_Re_readPlain_75 : decode b_Re_readPlain 75 = .ok (.iconst 4, 1) := by decide +kernel
theorem d_Re_readPlain_76 : decode b_Re_readPlain 76 = .ok (.iconst 0, 1) := by decide +kernel
theorem d_Re_readPlain_77 : decode b_Re_readPlain 77 = .ok (.invokevirtual 81, 3) := by decide +kernel
theorem d_Re_readPlain_80 : decode b_Re_readPlain 80 = .ok (.iload_n 3, 1) := by decide +kernel
theorem d_Re_readPlain_81 : decode b_Re_readPlain 81 = .ok (.ireturn, 1) := by decide +kernel
theorem mf_Re_readPlain : zMF y_Re_readPlain b_Re_readPlain 4 (some .boolean) 1 := ⟨zGW_in 807 (by decide +kernel) (by decide +kernel), zGW_in 128 (by decide +kernel) (by decide +kernel), by decide +kernel⟩
theorem in_Re_readPlain : Cond.instanceMethod y_Re_readPlain ∈ zGW := zGW_in 806 (by decide +kernel) (by decide +kernel)
theorem se_Re_readPlain : Cond.selects y_Re_readPlain.cls y_Re_readPlain y_Re_readPlain ∈ zGW := zGW_in 15 (by decide +kernel) (by decide +kernel)
def y_Re_readBoth : MethodName := ⟨zNm 6, "readBoth", "(LEelClerk$Tape;)Z"⟩
abbrev b_Re_readBoth : ByteArray := prog_7_method_10_code
theorem d_Re_readBoth_0 : decode b_Re_readBoth 0 = .ok (.aload_n 0, 1) := by decide +kernel
theorem d_Re_readBoth_1 : decode b_Re_readBoth 1 = .ok (.aload_n 1, 1) := by decide +kernel
theorem d_Re_readBoth_2 : decode b_Re_readBoth 2 = .ok (.invokevirtual 135, 3) := by decide +kernel
theorem d_Re_readBoth_5 : decode b_Re_readBoth 5 = .ok (.ifCond .ne 5, 3) := by decide +kernel
theorem d_Re_readBoth_8 : decode b_Re_readBoth 8 = .ok (.iconst 0, 1) := by decide +kernel
theorem d_Re_readBoth_9 : decode b_Re_readBoth 9 = .ok (.ireturn, 1) := by decide +kernel
theorem d_Re_readBoth_10 : decode b_Re_readBoth 10 = .ok (.iconst 0, 1) := by decide +kernel
theorem d_Re_readBoth_11 : decode b_Re_readBoth 11 = .ok (.istore_n 2, 1) := by decide +kernel
theorem d_Re_readBoth_12 : decode b_Re_readBoth 12 = .ok (.iload_n 2, 1) := by decide +kernel
theorem d_Re_readBoth_13 : decode b_Re_readBoth 13 = .ok (.sipush 400, 3) := by decide +kernel
theorem d_Re_readBoth_16 : decode b_Re_readBoth 16 = .ok (.if_icmp .ge 54, 3) := by decide +kernel
theorem d_Re_readBoth_19 : decode b_Re_readBoth 19 = .ok (.aload_n 1, 1) := by decide +kernel
theorem d_Re_readBoth_20 : decode b_Re_readBoth 20 = .ok (.ldc 138, 2) := by decide +kernel
theorem d_Re_readBoth_22 : decode b_Re_readBoth 22 = .ok (.invokevirtual 71, 3) := by decide +kernel
theorem d_Re_readBoth_25 : decode b_Re_readBoth 25 = .ok (.ifCond .eq 45, 3) := by decide +kernel
theorem d_Re_readBoth_28 : decode b_Re_readBoth 28 = .ok (.aload_n 0, 1) := by decide +kernel
theorem d_Re_readBoth_29 : decode b_Re_readBoth 29 = .ok (.getfield 14, 3) := by decide +kernel
theorem d_Re_readBoth_32 : decode b_Re_readBoth 32 = .ok (.getfield 129, 3) := by decide +kernel
theorem d_Re_readBoth_35 : decode b_Re_readBoth 35 = .ok (.istore_n 3, 1) := by decide +kernel
theorem d_Re_readBoth_36 : decode b_Re_readBoth 36 = .ok (.aload_n 0, 1) := by decide +kernel
theorem d_Re_readBoth_37 : decode b_Re_readBoth 37 = .ok (.getfield 14, 3) := by decide +kernel
theorem d_Re_readBoth_40 : decode b_Re_readBoth 40 = .ok (.iconst 2, 1) := by decide +kernel
theorem d_Re_readBoth_41 : decode b_Re_readBoth 41 = .ok (.iconst 0, 1) := by decide +kernel
theorem d_Re_readBoth_42 : decode b_Re_readBoth 42 = .ok (.invokevirtual 81, 3) := by decide +kernel
theorem d_Re_readBoth_45 : decode b_Re_readBoth 45 = .ok (.aload_n 0, 1) := by decide +kernel
theorem d_Re_readBoth_46 : decode b_Re_readBoth 46 = .ok (.aload_n 1, 1) := by decide +kernel
theorem d_Re_readBoth_47 : decode b_Re_readBoth 47 = .ok (.invokevirtual 135, 3) := by decide +kernel
theorem d_Re_readBoth_50 : decode b_Re_readBoth 50 = .ok (.ifCond .ne 5, 3) := by decide +kernel
theorem d_Re_readBoth_53 : decode b_Re_readBoth 53 = .ok (.iconst 0, 1) := by decide +kernel
theorem d_Re_readBoth_54 : decode b_Re_readBoth 54 = .ok (.ireturn, 1) := by decide +kernel
theorem d_Re_readBoth_55 : decode b_Re_readBoth 55 = .ok (.aload_n 0, 1) := by decide +kernel
theorem d_Re_readBoth_56 : decode b_Re_readBoth 56 = .ok (.getfield 14, 3) := by decide +kernel
theorem d_Re_readBoth_59 : decode b_Re_readBoth 59 = .ok (.iload_n 3, 1) := by decide +kernel
theorem d_Re_readBoth_60 : decode b_Re_readBoth 60 = .ok (.iconst 2, 1) := by decide +kernel
theorem d_Re_readBoth_61 : decode b_Re_readBoth 61 = .ok (.invokevirtual 132, 3) := by decide +kernel
theorem d_Re_readBoth_64 : decode b_Re_readBoth 64 = .ok (.iinc 2 1, 3) := by decide +kernel
theorem d_Re_readBoth_67 : decode b_Re_readBoth 67 = .ok (.goto (-55), 3) := by decide +kernel
theorem d_Re_readBoth_70 : decode b_Re_readBoth 70 = .ok (.iconst 1, 1) := by decide +kernel
theorem d_Re_readBoth_71 : decode b_Re_readBoth 71 = .ok (.ireturn, 1) := by decide +kernel
theorem mf_Re_readBoth : zMF y_Re_readBoth b_Re_readBoth 4 (some .boolean) 1 := ⟨zGW_in 803 (by decide +kernel) (by decide +kernel), zGW_in 128 (by decide +kernel) (by decide +kernel), by decide +kernel⟩
theorem in_Re_readBoth : Cond.instanceMethod y_Re_readBoth ∈ zGW := zGW_in 802 (by decide +kernel) (by decide +kernel)
theorem se_Re_readBoth : Cond.selects y_Re_readBoth.cls y_Re_readBoth y_Re_readBoth ∈ zGW := zGW_in 14 (by decide +kernel) (by decide +kernel)
def y_Re_readTest : MethodName := ⟨zNm 6, "readTest", "(LEelClerk$Tape;)Z"⟩
abbrev b_Re_readTest : ByteArray := prog_7_method_9_code
theorem d_Re_readTest_0 : decode b_Re_readTest 0 = .ok (.aload_n 0, 1) := by decide +kernel
theorem d_Re_readTest_1 : decode b_Re_readTest 1 = .ok (.aload_n 1, 1) := by decide +kernel
theorem d_Re_readTest_2 : decode b_Re_readTest 2 = .ok (.invokevirtual 124, 3) := by decide +kernel
theorem d_Re_readTest_5 : decode b_Re_readTest 5 = .ok (.ifCond .ne 5, 3) := by decide +kernel
theorem d_Re_readTest_8 : decode b_Re_readTest 8 = .ok (.iconst 0, 1) := by decide +kernel
theorem d_Re_readTest_9 : decode b_Re_readTest 9 = .ok (.ireturn, 1) := by decide +kernel
theorem d_Re_readTest_10 : decode b_Re_readTest 10 = .ok (.iconst 0, 1) := by decide +kernel
theorem d_Re_readTest_11 : decode b_Re_readTest 11 = .ok (.istore_n 2, 1) := by decide +kernel
theorem d_Re_readTest_12 : decode b_Re_readTest 12 = .ok (.iload_n 2, 1) := by decide +kernel
theorem d_Re_readTest_13 : decode b_Re_readTest 13 = .ok (.sipush 400, 3) := by decide +kernel
theorem d_Re_readTest_16 : decode b_Re_readTest 16 = .ok (.if_icmp .ge 54, 3) := by decide +kernel
theorem d_Re_readTest_19 : decode b_Re_readTest 19 = .ok (.aload_n 1, 1) := by decide +kernel
theorem d_Re_readTest_20 : decode b_Re_readTest 20 = .ok (.ldc 127, 2) := by decide +kernel
theorem d_Re_readTest_22 : decode b_Re_readTest 22 = .ok (.invokevirtual 71, 3) := by decide +kernel
theorem d_Re_readTest_25 : decode b_Re_readTest 25 = .ok (.ifCond .eq 45, 3) := by decide +kernel
theorem d_Re_readTest_28 : decode b_Re_readTest 28 = .ok (.aload_n 0, 1) := by decide +kernel
theorem d_Re_readTest_29 : decode b_Re_readTest 29 = .ok (.getfield 14, 3) := by decide +kernel
theorem d_Re_readTest_32 : decode b_Re_readTest 32 = .ok (.getfield 129, 3) := by decide +kernel
theorem d_Re_readTest_35 : decode b_Re_readTest 35 = .ok (.istore_n 3, 1) := by decide +kernel
theorem d_Re_readTest_36 : decode b_Re_readTest 36 = .ok (.aload_n 0, 1) := by decide +kernel
theorem d_Re_readTest_37 : decode b_Re_readTest 37 = .ok (.getfield 14, 3) := by decide +kernel
theorem d_Re_readTest_40 : decode b_Re_readTest 40 = .ok (.iconst 3, 1) := by decide +kernel
theorem d_Re_readTest_41 : decode b_Re_readTest 41 = .ok (.iconst 0, 1) := by decide +kernel
theorem d_Re_readTest_42 : decode b_Re_readTest 42 = .ok (.invokevirtual 81, 3) := by decide +kernel
theorem d_Re_readTest_45 : decode b_Re_readTest 45 = .ok (.aload_n 0, 1) := by decide +kernel
theorem d_Re_readTest_46 : decode b_Re_readTest 46 = .ok (.aload_n 1, 1) := by decide +kernel
theorem d_Re_readTest_47 : decode b_Re_readTest 47 = .ok (.invokevirtual 124, 3) := by decide +kernel
theorem d_Re_readTest_50 : decode b_Re_readTest 50 = .ok (.ifCond .ne 5, 3) := by decide +kernel
theorem d_Re_readTest_53 : decode b_Re_readTest 53 = .ok (.iconst 0, 1) := by decide +kernel
theorem d_Re_readTest_54 : decode b_Re_readTest 54 = .ok (.ireturn, 1) := by decide +kernel
theorem d_Re_readTest_55 : decode b_Re_readTest 55 = .ok (.aload_n 0, 1) := by decide +kernel
theorem d_Re_readTest_56 : decode b_Re_readTest 56 = .ok (.getfield 14, 3) := by decide +kernel
theorem d_Re_readTest_59 : decode b_Re_readTest 59 = .ok (.iload_n 3, 1) := by decide +kernel
theorem d_Re_readTest_60 : decode b_Re_readTest 60 = .ok (.iconst 3, 1) := by decide +kernel
theorem d_Re_readTest_61 : decode b_Re_readTest 61 = .ok (.invokevirtual 132, 3) := by decide +kernel
theorem d_Re_readTest_64 : decode b_Re_readTest 64 = .ok (.iinc 2 1, 3) := by decide +kernel
theorem d_Re_readTest_67 : decode b_Re_readTest 67 = .ok (.goto (-55), 3) := by decide +kernel
theorem d_Re_readTest_70 : decode b_Re_readTest 70 = .ok (.iconst 1, 1) := by decide +kernel
theorem d_Re_readTest_71 : decode b_Re_readTest 71 = .ok (.ireturn, 1) := by decide +kernel
theorem mf_Re_readTest : zMF y_Re_readTest b_Re_readTest 4 (some .boolean) 1 := ⟨zGW_in 799 (by decide +kernel) (by decide +kernel), zGW_in 128 (by decide +kernel) (by decide +kernel), by decide +kernel⟩
theorem in_Re_readTest : Cond.instanceMethod y_Re_readTest ∈ zGW := zGW_in 798 (by decide +kernel) (by decide +kernel)
theorem se_Re_readTest : Cond.selects y_Re_readTest.cls y_Re_readTest y_Re_readTest ∈ zGW := zGW_in 13 (by decide +kernel) (by decide +kernel)
def y_Re_readBracketed : MethodName := ⟨zNm 6, "readBracketed", "(LEelClerk$Tape;CC)Z"⟩
abbrev b_Re_readBracketed : ByteArray := prog_7_method_12_code
theorem d_Re_readBracketed_0 : decode b_Re_readBracketed 0 = .ok (.aload_n 0, 1) := by decide +kernel
theorem d_Re_readBracketed_1 : decode b_Re_readBracketed 1 = .ok (.getfield 28, 3) := by decide +kernel
theorem d_Re_readBracketed_4 : decode b_Re_readBracketed 4 = .ok (.bipush 8, 2) := by decide +kernel
theorem d_Re_readBracketed_6 : decode b_Re_readBracketed 6 = .ok (.if_icmp .ge 11, 3) := by decide +kernel
theorem d_Re_readBracketed_9 : decode b_Re_readBracketed 9 = .ok (.aload_n 1, 1) := by decide +kernel
theorem d_Re_readBracketed_10 : decode b_Re_readBracketed 10 = .ok (.iload_n 2, 1) := by decide +kernel
theorem d_Re_readBracketed_11 : decode b_Re_readBracketed 11 = .ok (.invokevirtual 49, 3) := by decide +kernel
theorem d_Re_readBracketed_14 : decode b_Re_readBracketed 14 = .ok (.ifCond .ne 5, 3) := by decide +kernel
theorem d_Re_readBracketed_17 : decode b_Re_readBracketed 17 = .ok (.iconst 0, 1) := by decide +kernel
theorem d_Re_readBracketed_18 : decode b_Re_readBracketed 18 = .ok (.ireturn, 1) := by decide +kernel
theorem d_Re_readBracketed_19 : decode b_Re_readBracketed 19 = .ok (.aload_n 0, 1) := by decide +kernel
theorem d_Re_readBracketed_20 : decode b_Re_readBracketed 20 = .ok (.dup, 1) := by decide +kernel
theorem d_Re_readBracketed_21 : decode b_Re_readBracketed 21 = .ok (.getfield 28, 3) := by decide +kernel
theorem d_Re_readBracketed_24 : decode b_Re_readBracketed 24 = .ok (.iconst 1, 1) := by decide +kernel
theorem d_Re_readBracketed_25 : decode b_Re_readBracketed 25 = .ok (.iadd, 1) := by decide +kernel
theorem d_Re_readBracketed_26 : decode b_Re_readBracketed 26 = .ok (.putfield 28, 3) := by decide +kernel
theorem d_Re_readBracketed_29 : decode b_Re_readBracketed 29 = .ok (.iload_n 2, 1) := by decide +kernel
theorem d_Re_readBracketed_30 : decode b_Re_readBracketed 30 = .ok (.bipush 40, 2) := by decide +kernel
theorem d_Re_readBracketed_32 : decode b_Re_readBracketed 32 = .ok (.if_icmp .ne 11, 3) := by decide +kernel
theorem d_Re_readBracketed_35 : decode b_Re_readBracketed 35 = .ok (.aload_n 0, 1) := by decide +kernel
theorem d_Re_readBracketed_36 : decode b_Re_readBracketed 36 = .ok (.aload_n 1, 1) := by decide +kernel
theorem d_Re_readBracketed_37 : decode b_Re_readBracketed 37 = .ok (.invokevirtual 92, 3) := by decide +kernel
theorem d_Re_readBracketed_40 : decode b_Re_readBracketed 40 = .ok (.goto 8, 3) := by decide +kernel
theorem d_Re_readBracketed_43 : decode b_Re_readBracketed 43 = .ok (.aload_n 0, 1) := by decide +kernel
theorem d_Re_readBracketed_44 : decode b_Re_readBracketed 44 = .ok (.aload_n 1, 1) := by decide +kernel
theorem d_Re_readBracketed_45 : decode b_Re_readBracketed 45 = .ok (.invokevirtual 78, 3) := by decide +kernel
theorem d_Re_readBracketed_48 : decode b_Re_readBracketed 48 = .ok (.istore 4, 2) := by decide +kernel
theorem d_Re_readBracketed_50 : decode b_Re_readBracketed 50 = .ok (.aload_n 0, 1) := by decide +kernel
theorem d_Re_readBracketed_51 : decode b_Re_readBracketed 51 = .ok (.dup, 1) := by decide +kernel
theorem d_Re_readBracketed_52 : decode b_Re_readBracketed 52 = .ok (.getfield 28, 3) := by decide +kernel
theorem d_Re_readBracketed_55 : decode b_Re_readBracketed 55 = .ok (.iconst 1, 1) := by decide +kernel
theorem d_Re_readBracketed_56 : decode b_Re_readBracketed 56 = .ok (.isub, 1) := by decide +kernel
theorem d_Re_readBracketed_57 : decode b_Re_readBracketed 57 = .ok (.putfield 28, 3) := by decide +kernel
theorem d_Re_readBracketed_60 : decode b_Re_readBracketed 60 = .ok (.iload 4, 2) := by decide +kernel
theorem d_Re_readBracketed_62 : decode b_Re_readBracketed 62 = .ok (.ifCond .eq 15, 3) := by decide +kernel
theorem d_Re_readBracketed_65 : decode b_Re_readBracketed 65 = .ok (.aload_n 1, 1) := by decide +kernel
theorem d_Re_readBracketed_66 : decode b_Re_readBracketed 66 = .ok (.iload_n 3, 1) := by decide +kernel
theorem d_Re_readBracketed_67 : decode b_Re_readBracketed 67 = .ok (.invokevirtual 49, 3) := by decide +kernel
theorem d_Re_readBracketed_70 : decode b_Re_readBracketed 70 = .ok (.ifCond .eq 7, 3) := by decide +kernel
theorem d_Re_readBracketed_73 : decode b_Re_readBracketed 73 = .ok (.iconst 1, 1) := by decide +kernel
theorem d_Re_readBracketed_74 : decode b_Re_readBracketed 74 = .ok (.goto 4, 3) := by decide +kernel
theorem d_Re_readBracketed_77 : decode b_Re_readBracketed 77 = .ok (.iconst 0, 1) := by decide +kernel
theorem d_Re_readBracketed_78 : decode b_Re_readBracketed 78 = .ok (.ireturn, 1) := by decide +kernel
theorem mf_Re_readBracketed : zMF y_Re_readBracketed b_Re_readBracketed 5 (some .boolean) 3 := ⟨zGW_in 790 (by decide +kernel) (by decide +kernel), zGW_in 128 (by decide +kernel) (by decide +kernel), by decide +kernel⟩
theorem in_Re_readBracketed : Cond.instanceMethod y_Re_readBracketed ∈ zGW := zGW_in 789 (by decide +kernel) (by decide +kernel)
theorem se_Re_readBracketed : Cond.selects y_Re_readBracketed.cls y_Re_readBracketed y_Re_readBracketed ∈ zGW := zGW_in 12 (by decide +kernel) (by decide +kernel)
def y_Re_readPart : MethodName := ⟨zNm 6, "readPart", "(LEelClerk$Tape;)Z"⟩
abbrev b_Re_readPart : ByteArray := prog_7_method_16_code
theorem d_Re_readPart_0 : decode b_Re_readPart 0 = .ok (.aload_n 1, 1) := by decide +kernel
theorem d_Re_readPart_1 : decode b_Re_readPart 1 = .ok (.bipush 91, 2) := by decide +kernel
theorem d_Re_readPart_3 : decode b_Re_readPart 3 = .ok (.invokevirtual 142, 3) := by decide +kernel
theorem d_Re_readPart_6 : decode b_Re_readPart 6 = .ok (.ifCond .eq 13, 3) := by decide +kernel
theorem d_Re_readPart_9 : decode b_Re_readPart 9 = .ok (.aload_n 0, 1) := by decide +kernel
theorem d_Re_readPart_10 : decode b_Re_readPart 10 = .ok (.aload_n 1, 1) := by decide +kernel
theorem d_Re_readPart_11 : decode b_Re_readPart 11 = .ok (.bipush 91, 2) := by decide +kernel
theorem d_Re_readPart_13 : decode b_Re_readPart 13 = .ok (.bipush 93, 2) := by decide +kernel
theorem d_Re_readPart_15 : decode b_Re_readPart 15 = .ok (.invokevirtual 145, 3) := by decide +kernel
theorem d_Re_readPart_18 : decode b_Re_readPart 18 = .ok (.ireturn, 1) := by decide +kernel
theorem d_Re_readPart_19 : decode b_Re_readPart 19 = .ok (.aload_n 0, 1) := by decide +kernel
theorem d_Re_readPart_20 : decode b_Re_readPart 20 = .ok (.getfield 24, 3) := by decide +kernel
theorem d_Re_readPart_23 : decode b_Re_readPart 23 = .ok (.bipush 50, 2) := by decide +kernel
theorem d_Re_readPart_25 : decode b_Re_readPart 25 = .ok (.if_icmp .lt 5, 3) := by decide +kernel
theorem d_Re_readPart_28 : decode b_Re_readPart 28 = .ok (.iconst 0, 1) := by decide +kernel
theorem d_Re_readPart_29 : decode b_Re_readPart 29 = .ok (.ireturn, 1) := by decide +kernel
theorem d_Re_readPart_30 : decode b_Re_readPart 30 = .ok (.aload_n 0, 1) := by decide +kernel
theorem d_Re_readPart_31 : decode b_Re_readPart 31 = .ok (.dup, 1) := by decide +kernel
theorem d_Re_readPart_32 : decode b_Re_readPart 32 = .ok (.getfield 24, 3) := by decide +kernel
theorem d_Re_readPart_35 : decode b_Re_readPart 35 = .ok (.iconst 1, 1) := by decide +kernel
theorem d_Re_readPart_36 : decode b_Re_readPart 36 = .ok (.iadd, 1) := by decide +kernel
theorem d_Re_readPart_37 : decode b_Re_readPart 37 = .ok (.putfield 24, 3) := by decide +kernel
theorem d_Re_readPart_40 : decode b_Re_readPart 40 = .ok (.aload_n 1, 1) := by decide +kernel
theorem d_Re_readPart_41 : decode b_Re_readPart 41 = .ok (.invokevirtual 111, 3) := by decide +kernel
theorem d_Re_readPart_44 : decode b_Re_readPart 44 = .ok (.ifCond .eq 21, 3) := by decide +kernel
theorem d_Re_readPart_47 : decode b_Re_readPart 47 = .ok (.aload_n 0, 1) := by decide +kernel
theorem d_Re_readPart_48 : decode b_Re_readPart 48 = .ok (.getfield 14, 3) := by decide +kernel
theorem d_Re_readPart_51 : decode b_Re_readPart 51 = .ok (.iconst 0, 1) := by decide +kernel
theorem d_Re_readPart_52 : decode b_Re_readPart 52 = .ok (.aload_n 1, 1) := by decide +kernel
theorem d_Re_readPart_53 : decode b_Re_readPart 53 = .ok (.getfield 115, 3) := by decide +kernel
theorem d_Re_readPart_56 : decode b_Re_readPart 56 = .ok (.invokevirtual 81, 3) := by decide +kernel
theorem d_Re_readPart_59 : decode b_Re_readPart 59 = .ok (.aload_n 1, 1) := by decide +kernel
theorem d_Re_readPart_60 : decode b_Re_readPart 60 = .ok (.invokevirtual 121, 3) := by decide +kernel
theorem d_Re_readPart_63 : decode b_Re_readPart 63 = .ok (.iconst 1, 1) := by decide +kernel
theorem d_Re_readPart_64 : decode b_Re_readPart 64 = .ok (.ireturn, 1) := by decide +kernel
theorem d_Re_readPart_65 : decode b_Re_readPart 65 = .ok (.aload_n 0, 1) := by decide +kernel
theorem d_Re_readPart_66 : decode b_Re_readPart 66 = .ok (.getfield 20, 3) := by decide +kernel
theorem d_Re_readPart_69 : decode b_Re_readPart 69 = .ok (.ifCond .eq 19, 3) := by decide +kernel
theorem d_Re_readPart_72 : decode b_Re_readPart 72 = .ok (.aload_n 1, 1) := by decide +kernel
theorem d_Re_readPart_73 : decode b_Re_readPart 73 = .ok (.ldc 158, 2) := by decide +kernel
theorem d_Re_readPart_75 : decode b_Re_readPart 75 = .ok (.invokevirtual 71, 3) := by decide +kernel
theorem d_Re_readPart_78 : decode b_Re_readPart 78 = .ok (.ifCond .eq 10, 3) := by decide +kernel
theorem d_Re_readPart_81 : decode b_Re_readPart 81 = .ok (.aload_n 0, 1) := by decide +kernel
theorem d_Re_readPart_82 : decode b_Re_readPart 82 = .ok (.aload_n 1, 1) := by decide +kernel
theorem d_Re_readPart_83 : decode b_Re_readPart 83 = .ok (.iconst 5, 1) := by decide +kernel
theorem d_Re_readPart_84 : decode b_Re_readPart 84 = .ok (.invokevirtual 160, 3) := by decide +kernel
theorem d_Re_readPart_87 : decode b_Re_readPart 87 = .ok (.ireturn, 1) := by decide +kernel
theorem d_Re_readPart_88 : decode b_Re_readPart 88 = .ok (.aload_n 0, 1) := by decide +kernel
theorem d_Re_readPart_89 : decode b_Re_readPart 89 = .ok (.getfield 20, 3) := by decide +kernel
theorem d_Re_readPart_92 : decode b_Re_readPart 92 = .ok (.ifCond .eq 28, 3) := by decide +kernel
theorem d_Re_readPart_95 : decode b_Re_readPart 95 = .ok (.aload_n 1, 1) := by decide +kernel
theorem d_Re_readPart_96 : decode b_Re_readPart 96 = .ok (.ldc 164, 2) := by decide +kernel
theorem d_Re_readPart_98 : decode b_Re_readPart 98 = .ok (.invokevirtual 71, 3) := by decide +kernel
theorem d_Re_readPart_101 : decode b_Re_readPart 101 = .ok (.ifCond .eq 19, 3) := by decide +kernel
theorem d_Re_readPart_104 : decode b_Re_readPart 104 = .ok (.aload_n 0, 1) := by decide +kernel
theorem d_Re_readPart_105 : decode b_Re_readPart 105 = .ok (.getfield 14, 3) := by decide +kernel
theorem d_Re_readPart_108 : decode b_Re_readPart 108 = .ok (.iconst 1, 1) := by decide +kernel
theorem d_Re_readPart_109 : decode b_Re_readPart 109 = .ok (.putfield 166, 3) := by decide +kernel
theorem d_Re_readPart_112 : decode b_Re_readPart 112 = .ok (.aload_n 0, 1) := by decide +kernel
theorem d_Re_readPart_113 : decode b_Re_readPart 113 = .ok (.aload_n 1, 1) := by decide +kernel
theorem d_Re_readPart_114 : decode b_Re_readPart 114 = .ok (.bipush 14, 2) := by decide +kernel
theorem d_Re_readPart_116 : decode b_Re_readPart 116 = .ok (.invokevirtual 160, 3) := by decide +kernel
theorem d_Re_readPart_119 : decode b_Re_readPart 119 = .ok (.ireturn, 1) := by decide +kernel
theorem d_Re_readPart_120 : decode b_Re_readPart 120 = .ok (.aload_n 0, 1) := by decide +kernel
theorem d_Re_readPart_121 : decode b_Re_readPart 121 = .ok (.getfield 20, 3) := by decide +kernel
theorem d_Re_readPart_124 : decode b_Re_readPart 124 = .ok (.ifCond .eq 10, 3) := by decide +kernel
theorem d_Re_readPart_127 : decode b_Re_readPart 127 = .ok (.aload_n 1, 1) := by decide +kernel
theorem d_Re_readPart_128 : decode b_Re_readPart 128 = .ok (.invokestatic 169, 3) := by decide +kernel
theorem d_Re_readPart_131 : decode b_Re_readPart 131 = .ok (.goto 7, 3) := by decide +kernel
theorem d_Re_readPart_134 : decode b_Re_readPart 134 = .ok (.aload_n 1, 1) := by decide +kernel
theorem d_Re_readPart_135 : decode b_Re_readPart 135 = .ok (.invokestatic 172, 3) := by decide +kernel
theorem d_Re_readPart_138 : decode b_Re_readPart 138 = .ok (.istore_n 2, 1) := by decide +kernel
theorem d_Re_readPart_139 : decode b_Re_readPart 139 = .ok (.iload_n 2, 1) := by decide +kernel
theorem d_Re_readPart_140 : decode b_Re_readPart 140 = .ok (.iconst (-1), 1) := by decide +kernel
theorem d_Re_readPart_141 : decode b_Re_readPart 141 = .ok (.if_icmp .ne 5, 3) := by decide +kernel
theorem d_Re_readPart_144 : decode b_Re_readPart 144 = .ok (.iconst 0, 1) := by decide +kernel
theorem d_Re_readPart_145 : decode b_Re_readPart 145 = .ok (.ireturn, 1) := by decide +kernel
theorem d_Re_readPart_146 : decode b_Re_readPart 146 = .ok (.aload_n 0, 1) := by decide +kernel
theorem d_Re_readPart_147 : decode b_Re_readPart 147 = .ok (.getfield 14, 3) := by decide +kernel
theorem d_Re_readPart_150 : decode b_Re_readPart 150 = .ok (.iconst 1, 1) := by decide +kernel
theorem d_Re_readPart_151 : decode b_Re_readPart 151 = .ok (.iload_n 2, 1) := by decide +kernel
theorem d_Re_readPart_152 : decode b_Re_readPart 152 = .ok (.invokevirtual 81, 3) := by decide +kernel
theorem d_Re_readPart_155 : decode b_Re_readPart 155 = .ok (.aload_n 1, 1) := by decide +kernel
theorem d_Re_readPart_156 : decode b_Re_readPart 156 = .ok (.invokevirtual 121, 3) := by decide +kernel
theorem d_Re_readPart_159 : decode b_Re_readPart 159 = .ok (.iconst 1, 1) := by decide +kernel
theorem d_Re_readPart_160 : decode b_Re_readPart 160 = .ok (.ireturn, 1) := by decide +kernel
theorem mf_Re_readPart : zMF y_Re_readPart b_Re_readPart 3 (some .boolean) 1 := ⟨zGW_in 782 (by decide +kernel) (by decide +kernel), zGW_in 128 (by decide +kernel) (by decide +kernel), by decide +kernel⟩
theorem in_Re_readPart : Cond.instanceMethod y_Re_readPart ∈ zGW := zGW_in 781 (by decide +kernel) (by decide +kernel)
theorem se_Re_readPart : Cond.selects y_Re_readPart.cls y_Re_readPart y_Re_readPart ∈ zGW := zGW_in 11 (by decide +kernel) (by decide +kernel)
def y_Re_readTerm : MethodName := ⟨zNm 6, "readTerm", "(LEelClerk$Tape;)Z"⟩
abbrev b_Re_readTerm : ByteArray := prog_7_method_15_code
theorem d_Re_readTerm_0 : decode b_Re_readTerm 0 = .ok (.aload_n 0, 1) := by decide +kernel
theorem d_Re_readTerm_1 : decode b_Re_readTerm 1 = .ok (.aload_n 1, 1) := by decide +kernel
theorem d_Re_readTerm_2 : decode b_Re_readTerm 2 = .ok (.invokevirtual 155, 3) := by decide +kernel
theorem d_Re_readTerm_5 : decode b_Re_readTerm 5 = .ok (.ifCond .ne 5, 3) := by decide +kernel
theorem d_Re_readTerm_8 : decode b_Re_readTerm 8 = .ok (.iconst 0, 1) := by decide +kernel
theorem d_Re_readTerm_9 : decode b_Re_readTerm 9 = .ok (.ireturn, 1) := by decide +kernel
theorem d_Re_readTerm_10 : decode b_Re_readTerm 10 = .ok (.iconst 0, 1) := by decide +kernel
theorem d_Re_readTerm_11 : decode b_Re_readTerm 11 = .ok (.istore_n 2, 1) := by decide +kernel
theorem d_Re_readTerm_12 : decode b_Re_readTerm 12 = .ok (.iload_n 2, 1) := by decide +kernel
theorem d_Re_readTerm_13 : decode b_Re_readTerm 13 = .ok (.sipush 400, 3) := by decide +kernel
theorem d_Re_readTerm_16 : decode b_Re_readTerm 16 = .ok (.if_icmp .ge 76, 3) := by decide +kernel
theorem d_Re_readTerm_19 : decode b_Re_readTerm 19 = .ok (.bipush 9, 2) := by decide +kernel
theorem d_Re_readTerm_21 : decode b_Re_readTerm 21 = .ok (.istore_n 3, 1) := by decide +kernel
theorem d_Re_readTerm_22 : decode b_Re_readTerm 22 = .ok (.aload_n 1, 1) := by decide +kernel
theorem d_Re_readTerm_23 : decode b_Re_readTerm 23 = .ok (.bipush 42, 2) := by decide +kernel
theorem d_Re_readTerm_25 : decode b_Re_readTerm 25 = .ok (.invokevirtual 142, 3) := by decide +kernel
theorem d_Re_readTerm_28 : decode b_Re_readTerm 28 = .ok (.ifCond .eq 9, 3) := by decide +kernel
theorem d_Re_readTerm_31 : decode b_Re_readTerm 31 = .ok (.bipush 7, 2) := by decide +kernel
theorem d_Re_readTerm_33 : decode b_Re_readTerm 33 = .ok (.istore_n 3, 1) := by decide +kernel
theorem d_Re_readTerm_34 : decode b_Re_readTerm 34 = .ok (.goto 29, 3) := by decide +kernel
theorem d_Re_readTerm_37 : decode b_Re_readTerm 37 = .ok (.aload_n 1, 1) := by decide +kernel
theorem d_Re_readTerm_38 : decode b_Re_readTerm 38 = .ok (.bipush 47, 2) := by decide +kernel
theorem d_Re_readTerm_40 : decode b_Re_readTerm 40 = .ok (.invokevirtual 142, 3) := by decide +kernel
theorem d_Re_readTerm_43 : decode b_Re_readTerm 43 = .ok (.ifCond .eq 9, 3) := by decide +kernel
theorem d_Re_readTerm_46 : decode b_Re_readTerm 46 = .ok (.bipush 8, 2) := by decide +kernel
theorem d_Re_readTerm_48 : decode b_Re_readTerm 48 = .ok (.istore_n 3, 1) := by decide +kernel
theorem d_Re_readTerm_49 : decode b_Re_readTerm 49 = .ok (.goto 14, 3) := by decide +kernel
theorem d_Re_readTerm_52 : decode b_Re_readTerm 52 = .ok (.aload_n 1, 1) := by decide +kernel
theorem d_Re_readTerm_53 : decode b_Re_readTerm 53 = .ok (.bipush 37, 2) := by decide +kernel
theorem d_Re_readTerm_55 : decode b_Re_readTerm 55 = .ok (.invokevirtual 142, 3) := by decide +kernel
theorem d_Re_readTerm_58 : decode b_Re_readTerm 58 = .ok (.ifCond .ne 5, 3) := by decide +kernel
theorem d_Re_readTerm_61 : decode b_Re_readTerm 61 = .ok (.iconst 1, 1) := by decide +kernel
theorem d_Re_readTerm_62 : decode b_Re_readTerm 62 = .ok (.ireturn, 1) := by decide +kernel
theorem d_Re_readTerm_63 : decode b_Re_readTerm 63 = .ok (.aload_n 1, 1) := by decide +kernel
theorem d_Re_readTerm_64 : decode b_Re_readTerm 64 = .ok (.invokevirtual 121, 3) := by decide +kernel
theorem d_Re_readTerm_67 : decode b_Re_readTerm 67 = .ok (.aload_n 0, 1) := by decide +kernel
theorem d_Re_readTerm_68 : decode b_Re_readTerm 68 = .ok (.aload_n 1, 1) := by decide +kernel
theorem d_Re_readTerm_69 : decode b_Re_readTerm 69 = .ok (.invokevirtual 155, 3) := by decide +kernel
theorem d_Re_readTerm_72 : decode b_Re_readTerm 72 = .ok (.ifCond .ne 5, 3) := by decide +kernel
theorem d_Re_readTerm_75 : decode b_Re_readTerm 75 = .ok (.iconst 0, 1) := by decide +kernel
theorem d_Re_readTerm_76 : decode b_Re_readTerm 76 = .ok (.ireturn, 1) := by decide +kernel
theorem d_Re_readTerm_77 : decode b_Re_readTerm 77 = .ok (.aload_n 0, 1) := by decide +kernel
theorem d_Re_readTerm_78 : decode b_Re_readTerm 78 = .ok (.getfield 14, 3) := by decide +kernel
theorem d_Re_readTerm_81 : decode b_Re_readTerm 81 = .ok (.iload_n 3, 1) := by decide +kernel
theorem d_Re_readTerm_82 : decode b_Re_readTerm 82 = .ok (.iconst 0, 1) := by decide +kernel
theorem d_Re_readTerm_83 : decode b_Re_readTerm 83 = .ok (.invokevirtual 81, 3) := by decide +kernel
theorem d_Re_readTerm_86 : decode b_Re_readTerm 86 = .ok (.iinc 2 1, 3) := by decide +kernel
theorem d_Re_readTerm_89 : decode b_Re_readTerm 89 = .ok (.goto (-77), 3) := by decide +kernel
theorem d_Re_readTerm_92 : decode b_Re_readTerm 92 = .ok (.iconst 1, 1) := by decide +kernel
theorem d_Re_readTerm_93 : decode b_Re_readTerm 93 = .ok (.ireturn, 1) := by decide +kernel
theorem mf_Re_readTerm : zMF y_Re_readTerm b_Re_readTerm 4 (some .boolean) 1 := ⟨zGW_in 778 (by decide +kernel) (by decide +kernel), zGW_in 128 (by decide +kernel) (by decide +kernel), by decide +kernel⟩
theorem in_Re_readTerm : Cond.instanceMethod y_Re_readTerm ∈ zGW := zGW_in 777 (by decide +kernel) (by decide +kernel)
theorem se_Re_readTerm : Cond.selects y_Re_readTerm.cls y_Re_readTerm y_Re_readTerm ∈ zGW := zGW_in 10 (by decide +kernel) (by decide +kernel)
def y_Re_readSum : MethodName := ⟨zNm 6, "readSum", "(LEelClerk$Tape;)Z"⟩
abbrev b_Re_readSum : ByteArray := prog_7_method_14_code
theorem d_Re_readSum_0 : decode b_Re_readSum 0 = .ok (.aload_n 0, 1) := by decide +kernel
theorem d_Re_readSum_1 : decode b_Re_readSum 1 = .ok (.aload_n 1, 1) := by decide +kernel
theorem d_Re_readSum_2 : decode b_Re_readSum 2 = .ok (.invokevirtual 152, 3) := by decide +kernel
theorem d_Re_readSum_5 : decode b_Re_readSum 5 = .ok (.ifCond .ne 5, 3) := by decide +kernel
theorem d_Re_readSum_8 : decode b_Re_readSum 8 = .ok (.iconst 0, 1) := by decide +kernel
theorem d_Re_readSum_9 : decode b_Re_readSum 9 = .ok (.ireturn, 1) := by decide +kernel
theorem d_Re_readSum_10 : decode b_Re_readSum 10 = .ok (.iconst 0, 1) := by decide +kernel
theorem d_Re_readSum_11 : decode b_Re_readSum 11 = .ok (.istore_n 2, 1) := by decide +kernel
theorem d_Re_readSum_12 : decode b_Re_readSum 12 = .ok (.iload_n 2, 1) := by decide +kernel
theorem d_Re_readSum_13 : decode b_Re_readSum 13 = .ok (.sipush 400, 3) := by decide +kernel
theorem d_Re_readSum_16 : decode b_Re_readSum 16 = .ok (.if_icmp .ge 66, 3) := by decide +kernel
theorem d_Re_readSum_19 : decode b_Re_readSum 19 = .ok (.aload_n 1, 1) := by decide +kernel
theorem d_Re_readSum_20 : decode b_Re_readSum 20 = .ok (.bipush 43, 2) := by decide +kernel
theorem d_Re_readSum_22 : decode b_Re_readSum 22 = .ok (.invokevirtual 142, 3) := by decide +kernel
theorem d_Re_readSum_25 : decode b_Re_readSum 25 = .ok (.ifCond .ne 12, 3) := by decide +kernel
theorem d_Re_readSum_28 : decode b_Re_readSum 28 = .ok (.aload_n 1, 1) := by decide +kernel
theorem d_Re_readSum_29 : decode b_Re_readSum 29 = .ok (.bipush 45, 2) := by decide +kernel
theorem d_Re_readSum_31 : decode b_Re_readSum 31 = .ok (.invokevirtual 142, 3) := by decide +kernel
theorem d_Re_readSum_34 : decode b_Re_readSum 34 = .ok (.ifCond .eq 48, 3) := by decide +kernel
theorem d_Re_readSum_37 : decode b_Re_readSum 37 = .ok (.aload_n 1, 1) := by decide +kernel
theorem d_Re_readSum_38 : decode b_Re_readSum 38 = .ok (.bipush 43, 2) := by decide +kernel
theorem d_Re_readSum_40 : decode b_Re_readSum 40 = .ok (.invokevirtual 142, 3) := by decide +kernel
theorem d_Re_readSum_43 : decode b_Re_readSum 43 = .ok (.ifCond .eq 7, 3) := by decide +kernel
theorem d_Re_readSum_46 : decode b_Re_readSum 46 = .ok (.iconst 5, 1) := by decide +kernel
theorem d_Re_readSum_47 : decode b_Re_readSum 47 = .ok (.goto 5, 3) := by decide +kernel
theorem d_Re_readSum_50 : decode b_Re_readSum 50 = .ok (.bipush 6, 2) := by decide +kernel
theorem d_Re_readSum_52 : decode b_Re_readSum 52 = .ok (.istore_n 3, 1) := by decide +kernel
theorem d_Re_readSum_53 : decode b_Re_readSum 53 = .ok (.aload_n 1, 1) := by decide +kernel
theorem d_Re_readSum_54 : decode b_Re_readSum 54 = .ok (.invokevirtual 121, 3) := by decide +kernel
theorem d_Re_readSum_57 : decode b_Re_readSum 57 = .ok (.aload_n 0, 1) := by decide +kernel
theorem d_Re_readSum_58 : decode b_Re_readSum 58 = .ok (.aload_n 1, 1) := by decide +kernel
theorem d_Re_readSum_59 : decode b_Re_readSum 59 = .ok (.invokevirtual 152, 3) := by decide +kernel
theorem d_Re_readSum_62 : decode b_Re_readSum 62 = .ok (.ifCond .ne 5, 3) := by decide +kernel
theorem d_Re_readSum_65 : decode b_Re_readSum 65 = .ok (.iconst 0, 1) := by decide +kernel
theorem d_Re_readSum_66 : decode b_Re_readSum 66 = .ok (.ireturn, 1) := by decide +kernel
theorem d_Re_readSum_67 : decode b_Re_readSum 67 = .ok (.aload_n 0, 1) := by decide +kernel
theorem d_Re_readSum_68 : decode b_Re_readSum 68 = .ok (.getfield 14, 3) := by decide +kernel
theorem d_Re_readSum_71 : decode b_Re_readSum 71 = .ok (.iload_n 3, 1) := by decide +kernel
theorem d_Re_readSum_72 : decode b_Re_readSum 72 = .ok (.iconst 0, 1) := by decide +kernel
theorem d_Re_readSum_73 : decode b_Re_readSum 73 = .ok (.invokevirtual 81, 3) := by decide +kernel
theorem d_Re_readSum_76 : decode b_Re_readSum 76 = .ok (.iinc 2 1, 3) := by decide +kernel
theorem d_Re_readSum_79 : decode b_Re_readSum 79 = .ok (.goto (-67), 3) := by decide +kernel
theorem d_Re_readSum_82 : decode b_Re_readSum 82 = .ok (.iconst 1, 1) := by decide +kernel
theorem d_Re_readSum_83 : decode b_Re_readSum 83 = .ok (.ireturn, 1) := by decide +kernel
theorem mf_Re_readSum : zMF y_Re_readSum b_Re_readSum 4 (some .boolean) 1 := ⟨zGW_in 774 (by decide +kernel) (by decide +kernel), zGW_in 128 (by decide +kernel) (by decide +kernel), by decide +kernel⟩
theorem in_Re_readSum : Cond.instanceMethod y_Re_readSum ∈ zGW := zGW_in 773 (by decide +kernel) (by decide +kernel)
theorem se_Re_readSum : Cond.selects y_Re_readSum.cls y_Re_readSum y_Re_readSum ∈ zGW := zGW_in 9 (by decide +kernel) (by decide +kernel)
def y_Tx_repeat : MethodName := ⟨zNm 10, "repeat", "(I)V"⟩
abbrev b_Tx_repeat : ByteArray := prog_11_method_5_code
theorem d_Tx_repeat_0 : decode b_Tx_repeat 0 = .ok (.aload_n 0, 1) := by decide +kernel
theorem d_Tx_repeat_1 : decode b_Tx_repeat 1 = .ok (.getfield 15, 3) := by decide +kernel
theorem d_Tx_repeat_4 : decode b_Tx_repeat 4 = .ok (.ifCond .le 24, 3) := by decide +kernel
theorem d_Tx_repeat_7 : decode b_Tx_repeat 7 = .ok (.aload_n 0, 1) := by decide +kernel
theorem d_Tx_repeat_8 : decode b_Tx_repeat 8 = .ok (.getfield 15, 3) := by decide +kernel
theorem d_Tx_repeat_11 : decode b_Tx_repeat 11 = .ok (.bipush 12, 2) := by decide +kernel
theorem d_Tx_repeat_13 : decode b_Tx_repeat 13 = .ok (.if_icmp .gt 15, 3) := by decide +kernel
theorem d_Tx_repeat_16 : decode b_Tx_repeat 16 = .ok (.aload_n 0, 1) := by decide +kernel
theorem d_Tx_repeat_17 : decode b_Tx_repeat 17 = .ok (.getfield 26, 3) := by decide +kernel
theorem d_Tx_repeat_20 : decode b_Tx_repeat 20 = .ok (.aload_n 0, 1) := by decide +kernel
theorem d_Tx_repeat_21 : decode b_Tx_repeat 21 = .ok (.getfield 15, 3) := by decide +kernel
theorem d_Tx_repeat_24 : decode b_Tx_repeat 24 = .ok (.iconst 1, 1) := by decide +kernel
theorem d_Tx_repeat_25 : decode b_Tx_repeat 25 = .ok (.isub, 1) := by decide +kernel
theorem d_Tx_repeat_26 : decode b_Tx_repeat 26 = .ok (.iload_n 1, 1) := by decide +kernel
theorem d_Tx_repeat_27 : decode b_Tx_repeat 27 = .ok (.iastore, 1) := by decide +kernel
theorem d_Tx_repeat_28 : decode b_Tx_repeat 28 = .ok (.return_, 1) := by decide +kernel
theorem mf_Tx_repeat : zMF y_Tx_repeat b_Tx_repeat 2 none 1 := ⟨zGW_in 858 (by decide +kernel) (by decide +kernel), zGW_in 129 (by decide +kernel) (by decide +kernel), by decide +kernel⟩
theorem in_Tx_repeat : Cond.instanceMethod y_Tx_repeat ∈ zGW := zGW_in 856 (by decide +kernel) (by decide +kernel)
theorem se_Tx_repeat : Cond.selects y_Tx_repeat.cls y_Tx_repeat y_Tx_repeat ∈ zGW := zGW_in 857 (by decide +kernel) (by decide +kernel)
def y_Re_readTimes : MethodName := ⟨zNm 6, "readTimes", "(LEelClerk$Tape;)Z"⟩
abbrev b_Re_readTimes : ByteArray := prog_7_method_8_code
theorem d_Re_readTimes_0 : decode b_Re_readTimes 0 = .ok (.aload_n 1, 1) := by decide +kernel
theorem d_Re_readTimes_1 : decode b_Re_readTimes 1 = .ok (.invokevirtual 111, 3) := by decide +kernel
theorem d_Re_readTimes_4 : decode b_Re_readTimes 4 = .ok (.ifCond .eq 20, 3) := by decide +kernel
theorem d_Re_readTimes_7 : decode b_Re_readTimes 7 = .ok (.aload_n 1, 1) := by decide +kernel
theorem d_Re_readTimes_8 : decode b_Re_readTimes 8 = .ok (.getfield 115, 3) := by decide +kernel
theorem d_Re_readTimes_11 : decode b_Re_readTimes 11 = .ok (.iconst 1, 1) := by decide +kernel
theorem d_Re_readTimes_12 : decode b_Re_readTimes 12 = .ok (.if_icmp .lt 12, 3) := by decide +kernel
theorem d_Re_readTimes_15 : decode b_Re_readTimes 15 = .ok (.aload_n 1, 1) := by decide +kernel
theorem d_Re_readTimes_16 : decode b_Re_readTimes 16 = .ok (.getfield 115, 3) := by decide +kernel
theorem d_Re_readTimes_19 : decode b_Re_readTimes 19 = .ok (.bipush 20, 2) := by decide +kernel
theorem d_Re_readTimes_21 : decode b_Re_readTimes 21 = .ok (.if_icmp .le 5, 3) := by decide +kernel
theorem d_Re_readTimes_24 : decode b_Re_readTimes 24 = .ok (.iconst 0, 1) := by decide +kernel
theorem d_Re_readTimes_25 : decode b_Re_readTimes 25 = .ok (.ireturn, 1) := by decide +kernel
theorem d_Re_readTimes_26 : decode b_Re_readTimes 26 = .ok (.aload_n 0, 1) := by decide +kernel
theorem d_Re_readTimes_27 : decode b_Re_readTimes 27 = .ok (.getfield 14, 3) := by decide +kernel
theorem d_Re_readTimes_30 : decode b_Re_readTimes 30 = .ok (.aload_n 1, 1) := by decide +kernel
theorem d_Re_readTimes_31 : decode b_Re_readTimes 31 = .ok (.getfield 115, 3) := by decide +kernel
theorem d_Re_readTimes_34 : decode b_Re_readTimes 34 = .ok (.invokevirtual 118, 3) := by decide +kernel
theorem d_Re_readTimes_37 : decode b_Re_readTimes 37 = .ok (.aload_n 1, 1) := by decide +kernel
theorem d_Re_readTimes_38 : decode b_Re_readTimes 38 = .ok (.invokevirtual 121, 3) := by decide +kernel
theorem d_Re_readTimes_41 : decode b_Re_readTimes 41 = .ok (.iconst 1, 1) := by decide +kernel
theorem d_Re_readTimes_42 : decode b_Re_readTimes 42 = .ok (.ireturn, 1) := by decide +kernel
theorem mf_Re_readTimes : zMF y_Re_readTimes b_Re_readTimes 2 (some .boolean) 1 := ⟨zGW_in 854 (by decide +kernel) (by decide +kernel), zGW_in 128 (by decide +kernel) (by decide +kernel), by decide +kernel⟩
theorem in_Re_readTimes : Cond.instanceMethod y_Re_readTimes ∈ zGW := zGW_in 853 (by decide +kernel) (by decide +kernel)
theorem se_Re_readTimes : Cond.selects y_Re_readTimes.cls y_Re_readTimes y_Re_readTimes ∈ zGW := zGW_in 18 (by decide +kernel) (by decide +kernel)
def y_Re_readClause : MethodName := ⟨zNm 6, "readClause", "(LEelClerk$Tape;)Z"⟩
abbrev b_Re_readClause : ByteArray := prog_7_method_3_code
theorem d_Re_readClause_0 : decode b_Re_readClause 0 = .ok (.aload_n 0, 1) := by decide +kernel
theorem d_Re_readClause_1 : decode b_Re_readClause 1 = .ok (.getfield 20, 3) := by decide +kernel
theorem d_Re_readClause_4 : decode b_Re_readClause 4 = .ok (.ifCond .eq 10, 3) := by decide +kernel
theorem d_Re_readClause_7 : decode b_Re_readClause 7 = .ok (.aload_n 1, 1) := by decide +kernel
theorem d_Re_readClause_8 : decode b_Re_readClause 8 = .ok (.invokestatic 53, 3) := by decide +kernel
theorem d_Re_readClause_11 : decode b_Re_readClause 11 = .ok (.goto 7, 3) := by decide +kernel
theorem d_Re_readClause_14 : decode b_Re_readClause 14 = .ok (.aload_n 1, 1) := by decide +kernel
theorem d_Re_readClause_15 : decode b_Re_readClause 15 = .ok (.invokestatic 57, 3) := by decide +kernel
theorem d_Re_readClause_18 : decode b_Re_readClause 18 = .ok (.istore_n 2, 1) := by decide +kernel
theorem d_Re_readClause_19 : decode b_Re_readClause 19 = .ok (.iload_n 2, 1) := by decide +kernel
theorem d_Re_readClause_20 : decode b_Re_readClause 20 = .ok (.iconst (-1), 1) := by decide +kernel
theorem d_Re_readClause_21 : decode b_Re_readClause 21 = .ok (.if_icmp .ne 5, 3) := by decide +kernel
theorem d_Re_readClause_24 : decode b_Re_readClause 24 = .ok (.iconst 0, 1) := by decide +kernel
theorem d_Re_readClause_25 : decode b_Re_readClause 25 = .ok (.ireturn, 1) := by decide +kernel
theorem d_Re_readClause_26 : decode b_Re_readClause 26 = .ok (.aload_n 0, 1) := by decide +kernel
theorem d_Re_readClause_27 : decode b_Re_readClause 27 = .ok (.getfield 14, 3) := by decide +kernel
theorem d_Re_readClause_30 : decode b_Re_readClause 30 = .ok (.iload_n 2, 1) := by decide +kernel
theorem d_Re_readClause_31 : decode b_Re_readClause 31 = .ok (.invokevirtual 60, 3) := by decide +kernel
theorem d_Re_readClause_34 : decode b_Re_readClause 34 = .ok (.aload_n 0, 1) := by decide +kernel
theorem d_Re_readClause_35 : decode b_Re_readClause 35 = .ok (.getfield 20, 3) := by decide +kernel
theorem d_Re_readClause_38 : decode b_Re_readClause 38 = .ok (.ifCond .eq 10, 3) := by decide +kernel
theorem d_Re_readClause_41 : decode b_Re_readClause 41 = .ok (.iload_n 2, 1) := by decide +kernel
theorem d_Re_readClause_42 : decode b_Re_readClause 42 = .ok (.invokestatic 62, 3) := by decide +kernel
theorem d_Re_readClause_45 : decode b_Re_readClause 45 = .ok (.goto 7, 3) := by decide +kernel
theorem d_Re_readClause_48 : decode b_Re_readClause 48 = .ok (.iload_n 2, 1) := by decide +kernel
theorem d_Re_readClause_49 : decode b_Re_readClause 49 = .ok (.invokestatic 66, 3) := by decide +kernel
theorem d_Re_readClause_52 : decode b_Re_readClause 52 = .ok (.istore_n 3, 1) := by decide +kernel
theorem d_Re_readClause_53 : decode b_Re_readClause 53 = .ok (.iconst 0, 1) := by decide +kernel
theorem d_Re_readClause_54 : decode b_Re_readClause 54 = .ok (.istore 4, 2) := by decide +kernel
theorem d_Re_readClause_56 : decode b_Re_readClause 56 = .ok (.iload 4, 2) := by decide +kernel
theorem d_Re_readClause_58 : decode b_Re_readClause 58 = .ok (.iload_n 3, 1) := by decide +kernel
theorem d_Re_readClause_59 : decode b_Re_readClause 59 = .ok (.if_icmp .ge 62, 3) := by decide +kernel
theorem d_Re_readClause_62 : decode b_Re_readClause 62 = .ok (.iload 4, 2) := by decide +kernel
theorem d_Re_readClause_64 : decode b_Re_readClause 64 = .ok (.ifCond .le 14, 3) := by decide +kernel
theorem d_Re_readClause_67 : decode b_Re_readClause 67 = .ok (.aload_n 1, 1) := by decide +kernel
theorem d_Re_readClause_68 : decode b_Re_readClause 68 = .ok (.ldc 69, 2) := by decide +kernel
theorem d_Re_readClause_70 : decode b_Re_readClause 70 = .ok (.invokevirtual 71, 3) := by decide +kernel
theorem d_Re_readClause_73 : decode b_Re_readClause 73 = .ok (.ifCond .ne 5, 3) := by decide +kernel
theorem d_Re_readClause_76 : decode b_Re_readClause 76 = .ok (.iconst 0, 1) := by decide +kernel
theorem d_Re_readClause_77 : decode b_Re_readClause 77 = .ok (.ireturn, 1) := by decide +kernel
theorem d_Re_readClause_78 : decode b_Re_readClause 78 = .ok (.aload_n 0, 1) := by decide +kernel
theorem d_Re_readClause_79 : decode b_Re_readClause 79 = .ok (.getfield 14, 3) := by decide +kernel
theorem d_Re_readClause_82 : decode b_Re_readClause 82 = .ok (.iload 4, 2) := by decide +kernel
theorem d_Re_readClause_84 : decode b_Re_readClause 84 = .ok (.ifCond .ne 7, 3) := by decide +kernel
theorem d_Re_readClause_87 : decode b_Re_readClause 87 = .ok (.iconst 0, 1) := by decide +kernel
theorem d_Re_readClause_88 : decode b_Re_readClause 88 = .ok (.goto 4, 3) := by decide +kernel
theorem d_Re_readClause_91 : decode b_Re_readClause 91 = .ok (.iconst 1, 1) := by decide +kernel
theorem d_Re_readClause_92 : decode b_Re_readClause 92 = .ok (.invokevirtual 75, 3) := by decide +kernel
theorem d_Re_readClause_95 : decode b_Re_readClause 95 = .ok (.aload_n 0, 1) := by decide +kernel
theorem d_Re_readClause_96 : decode b_Re_readClause 96 = .ok (.aload_n 1, 1) := by decide +kernel
theorem d_Re_readClause_97 : decode b_Re_readClause 97 = .ok (.invokevirtual 78, 3) := by decide +kernel
theorem d_Re_readClause_100 : decode b_Re_readClause 100 = .ok (.ifCond .ne 5, 3) := by decide +kernel
theorem d_Re_readClause_103 : decode b_Re_readClause 103 = .ok (.iconst 0, 1) := by decide +kernel
theorem d_Re_readClause_104 : decode b_Re_readClause 104 = .ok (.ireturn, 1) := by decide +kernel
theorem d_Re_readClause_105 : decode b_Re_readClause 105 = .ok (.aload_n 0, 1) := by decide +kernel
theorem d_Re_readClause_106 : decode b_Re_readClause 106 = .ok (.getfield 14, 3) := by decide +kernel
theorem d_Re_readClause_109 : decode b_Re_readClause 109 = .ok (.bipush 13, 2) := by decide +kernel
theorem d_Re_readClause_111 : decode b_Re_readClause 111 = .ok (.iconst 0, 1) := by decide +kernel
theorem d_Re_readClause_112 : decode b_Re_readClause 112 = .ok (.invokevirtual 81, 3) := by decide +kernel
theorem d_Re_readClause_115 : decode b_Re_readClause 115 = .ok (.iinc 4 1, 3) := by decide +kernel
theorem d_Re_readClause_118 : decode b_Re_readClause 118 = .ok (.goto (-62), 3) := by decide +kernel
theorem d_Re_readClause_121 : decode b_Re_readClause 121 = .ok (.aload_n 0, 1) := by decide +kernel
theorem d_Re_readClause_122 : decode b_Re_readClause 122 = .ok (.getfield 20, 3) := by decide +kernel
theorem d_Re_readClause_125 : decode b_Re_readClause 125 = .ok (.ifCond .eq 22, 3) := by decide +kernel
theorem d_Re_readClause_128 : decode b_Re_readClause 128 = .ok (.aload_n 1, 1) := by decide +kernel
theorem d_Re_readClause_129 : decode b_Re_readClause 129 = .ok (.ldc 85, 2) := by decide +kernel
theorem d_Re_readClause_131 : decode b_Re_readClause 131 = .ok (.invokevirtual 71, 3) := by decide +kernel
theorem d_Re_readClause_134 : decode b_Re_readClause 134 = .ok (.ifCond .eq 13, 3) := by decide +kernel
theorem d_Re_readClause_137 : decode b_Re_readClause 137 = .ok (.aload_n 0, 1) := by decide +kernel
theorem d_Re_readClause_138 : decode b_Re_readClause 138 = .ok (.aload_n 1, 1) := by decide +kernel
theorem d_Re_readClause_139 : decode b_Re_readClause 139 = .ok (.invokevirtual 87, 3) := by decide +kernel
theorem d_Re_readClause_142 : decode b_Re_readClause 142 = .ok (.ifCond .ne 5, 3) := by decide +kernel
theorem d_Re_readClause_145 : decode b_Re_readClause 145 = .ok (.iconst 0, 1) := by decide +kernel
theorem d_Re_readClause_146 : decode b_Re_readClause 146 = .ok (.ireturn, 1) := by decide +kernel
theorem d_Re_readClause_147 : decode b_Re_readClause 147 = .ok (.aload_n 1, 1) := by decide +kernel
theorem d_Re_readClause_148 : decode b_Re_readClause 148 = .ok (.ldc 90, 2) := by decide +kernel
theorem d_Re_readClause_150 : decode b_Re_readClause 150 = .ok (.invokevirtual 71, 3) := by decide +kernel
theorem d_Re_readClause_153 : decode b_Re_readClause 153 = .ok (.ifCond .ne 5, 3) := by decide +kernel
theorem d_Re_readClause_156 : decode b_Re_readClause 156 = .ok (.iconst 1, 1) := by decide +kernel
theorem d_Re_readClause_157 : decode b_Re_readClause 157 = .ok (.ireturn, 1) := by decide +kernel
theorem d_Re_readClause_158 : decode b_Re_readClause 158 = .ok (.aload_n 0, 1) := by decide +kernel
theorem d_Re_readClause_159 : decode b_Re_readClause 159 = .ok (.getfield 14, 3) := by decide +kernel
theorem d_Re_readClause_162 : decode b_Re_readClause 162 = .ok (.iconst 2, 1) := by decide +kernel
theorem d_Re_readClause_163 : decode b_Re_readClause 163 = .ok (.invokevirtual 75, 3) := by decide +kernel
theorem d_Re_readClause_166 : decode b_Re_readClause 166 = .ok (.aload_n 0, 1) := by decide +kernel
theorem d_Re_readClause_167 : decode b_Re_readClause 167 = .ok (.aload_n 1, 1) := by decide +kernel
theorem d_Re_readClause_168 : decode b_Re_readClause 168 = .ok (.invokevirtual 92, 3) := by decide +kernel
theorem d_Re_readClause_171 : decode b_Re_readClause 171 = .ok (.ifCond .ne 5, 3) := by decide +kernel
theorem d_Re_readClause_174 : decode b_Re_readClause 174 = .ok (.iconst 0, 1) := by decide +kernel
theorem d_Re_readClause_175 : decode b_Re_readClause 175 = .ok (.ireturn, 1) := by decide +kernel
theorem d_Re_readClause_176 : decode b_Re_readClause 176 = .ok (.aload_n 0, 1) := by decide +kernel
theorem d_Re_readClause_177 : decode b_Re_readClause 177 = .ok (.getfield 14, 3) := by decide +kernel
theorem d_Re_readClause_180 : decode b_Re_readClause 180 = .ok (.bipush 13, 2) := by decide +kernel
theorem d_Re_readClause_182 : decode b_Re_readClause 182 = .ok (.iconst 0, 1) := by decide +kernel
theorem d_Re_readClause_183 : decode b_Re_readClause 183 = .ok (.invokevirtual 81, 3) := by decide +kernel
theorem d_Re_readClause_186 : decode b_Re_readClause 186 = .ok (.iconst 1, 1) := by decide +kernel
theorem d_Re_readClause_187 : decode b_Re_readClause 187 = .ok (.ireturn, 1) := by decide +kernel
theorem mf_Re_readClause : zMF y_Re_readClause b_Re_readClause 5 (some .boolean) 1 := ⟨zGW_in 684 (by decide +kernel) (by decide +kernel), zGW_in 128 (by decide +kernel) (by decide +kernel), by decide +kernel⟩
theorem in_Re_readClause : Cond.instanceMethod y_Re_readClause ∈ zGW := zGW_in 683 (by decide +kernel) (by decide +kernel)
theorem se_Re_readClause : Cond.selects y_Re_readClause.cls y_Re_readClause y_Re_readClause ∈ zGW := zGW_in 8 (by decide +kernel) (by decide +kernel)
def y_Re_faultIn : MethodName := ⟨zNm 6, "faultIn", "(LEelClerk$Tape;Z)I"⟩
abbrev b_Re_faultIn : ByteArray := prog_7_method_2_code
theorem d_Re_faultIn_0 : decode b_Re_faultIn 0 = .ok (.aload_n 0, 1) := by decide +kernel
theorem d_Re_faultIn_1 : decode b_Re_faultIn 1 = .ok (.iload_n 2, 1) := by decide +kernel
theorem d_Re_faultIn_2 : decode b_Re_faultIn 2 = .ok (.putfield 20, 3) := by decide +kernel
theorem d_Re_faultIn_5 : decode b_Re_faultIn 5 = .ok (.aload_n 0, 1) := by decide +kernel
theorem d_Re_faultIn_6 : decode b_Re_faultIn 6 = .ok (.iconst 0, 1) := by decide +kernel
theorem d_Re_faultIn_7 : decode b_Re_faultIn 7 = .ok (.putfield 24, 3) := by decide +kernel
theorem d_Re_faultIn_10 : decode b_Re_faultIn 10 = .ok (.aload_n 0, 1) := by decide +kernel
theorem d_Re_faultIn_11 : decode b_Re_faultIn 11 = .ok (.iconst 0, 1) := by decide +kernel
theorem d_Re_faultIn_12 : decode b_Re_faultIn 12 = .ok (.putfield 28, 3) := by decide +kernel
theorem d_Re_faultIn_15 : decode b_Re_faultIn 15 = .ok (.aload_n 0, 1) := by decide +kernel
theorem d_Re_faultIn_16 : decode b_Re_faultIn 16 = .ok (.getfield 14, 3) := by decide +kernel
theorem d_Re_faultIn_19 : decode b_Re_faultIn 19 = .ok (.invokevirtual 31, 3) := by decide +kernel
theorem d_Re_faultIn_22 : decode b_Re_faultIn 22 = .ok (.aload_n 1, 1) := by decide +kernel
theorem d_Re_faultIn_23 : decode b_Re_faultIn 23 = .ok (.invokevirtual 34, 3) := by decide +kernel
theorem d_Re_faultIn_26 : decode b_Re_faultIn 26 = .ok (.iconst 0, 1) := by decide +kernel
theorem d_Re_faultIn_27 : decode b_Re_faultIn 27 = .ok (.istore_n 3, 1) := by decide +kernel
theorem d_Re_faultIn_28 : decode b_Re_faultIn 28 = .ok (.iload_n 3, 1) := by decide +kernel
theorem d_Re_faultIn_29 : decode b_Re_faultIn 29 = .ok (.bipush 12, 2) := by decide +kernel
theorem d_Re_faultIn_31 : decode b_Re_faultIn 31 = .ok (.if_icmp .ge 45, 3) := by decide +kernel
theorem d_Re_faultIn_34 : decode b_Re_faultIn 34 = .ok (.aload_n 0, 1) := by decide +kernel
theorem d_Re_faultIn_35 : decode b_Re_faultIn 35 = .ok (.aload_n 1, 1) := by decide +kernel
theorem d_Re_faultIn_36 : decode b_Re_faultIn 36 = .ok (.invokevirtual 39, 3) := by decide +kernel
theorem d_Re_faultIn_39 : decode b_Re_faultIn 39 = .ok (.ifCond .ne 8, 3) := by decide +kernel
theorem d_Re_faultIn_42 : decode b_Re_faultIn 42 = .ok (.aload_n 1, 1) := by decide +kernel
theorem d_Re_faultIn_43 : decode b_Re_faultIn 43 = .ok (.getfield 43, 3) := by decide +kernel
theorem d_Re_faultIn_46 : decode b_Re_faultIn 46 = .ok (.ireturn, 1) := by decide +kernel
theorem d_Re_faultIn_47 : decode b_Re_faultIn 47 = .ok (.aload_n 1, 1) := by decide +kernel
theorem d_Re_faultIn_48 : decode b_Re_faultIn 48 = .ok (.getfield 46, 3) := by decide +kernel
theorem d_Re_faultIn_51 : decode b_Re_faultIn 51 = .ok (.ifCond .ne 5, 3) := by decide +kernel
theorem d_Re_faultIn_54 : decode b_Re_faultIn 54 = .ok (.iconst (-1), 1) := by decide +kernel
theorem d_Re_faultIn_55 : decode b_Re_faultIn 55 = .ok (.ireturn, 1) := by decide +kernel
theorem d_Re_faultIn_56 : decode b_Re_faultIn 56 = .ok (.aload_n 1, 1) := by decide +kernel
theorem d_Re_faultIn_57 : decode b_Re_faultIn 57 = .ok (.bipush 59, 2) := by decide +kernel
theorem d_Re_faultIn_59 : decode b_Re_faultIn 59 = .ok (.invokevirtual 49, 3) := by decide +kernel
theorem d_Re_faultIn_62 : decode b_Re_faultIn 62 = .ok (.ifCond .ne 8, 3) := by decide +kernel
theorem d_Re_faultIn_65 : decode b_Re_faultIn 65 = .ok (.aload_n 1, 1) := by decide +kernel
theorem d_Re_faultIn_66 : decode b_Re_faultIn 66 = .ok (.getfield 43, 3) := by decide +kernel
theorem d_Re_faultIn_69 : decode b_Re_faultIn 69 = .ok (.ireturn, 1) := by decide +kernel
theorem d_Re_faultIn_70 : decode b_Re_faultIn 70 = .ok (.iinc 3 1, 3) := by decide +kernel
theorem d_Re_faultIn_73 : decode b_Re_faultIn 73 = .ok (.goto (-45), 3) := by decide +kernel
theorem d_Re_faultIn_76 : decode b_Re_faultIn 76 = .ok (.aload_n 1, 1) := by decide +kernel
theorem d_Re_faultIn_77 : decode b_Re_faultIn 77 = .ok (.getfield 43, 3) := by decide +kernel
theorem d_Re_faultIn_80 : decode b_Re_faultIn 80 = .ok (.ireturn, 1) := by decide +kernel
theorem mf_Re_faultIn : zMF y_Re_faultIn b_Re_faultIn 4 (some .int) 2 := ⟨zGW_in 657 (by decide +kernel) (by decide +kernel), zGW_in 128 (by decide +kernel) (by decide +kernel), by decide +kernel⟩
theorem in_Re_faultIn : Cond.instanceMethod y_Re_faultIn ∈ zGW := zGW_in 655 (by decide +kernel) (by decide +kernel)
theorem se_Re_faultIn : Cond.selects y_Re_faultIn.cls y_Re_faultIn y_Re_faultIn ∈ zGW := zGW_in 656 (by decide +kernel) (by decide +kernel)
def y_Ps_addLaw : MethodName := ⟨zNm 5, "addLaw", "(LEelClerk$Text;)I"⟩
abbrev b_Ps_addLaw : ByteArray := prog_6_method_18_code
theorem d_Ps_addLaw_0 : decode b_Ps_addLaw 0 = .ok (.aload_n 0, 1) := by decide +kernel
theorem d_Ps_addLaw_1 : decode b_Ps_addLaw 1 = .ok (.getfield 50, 3) := by decide +kernel
theorem d_Ps_addLaw_4 : decode b_Ps_addLaw 4 = .ok (.istore_n 2, 1) := by decide +kernel
theorem d_Ps_addLaw_5 : decode b_Ps_addLaw 5 = .ok (.iload_n 2, 1) := by decide +kernel
theorem d_Ps_addLaw_6 : decode b_Ps_addLaw 6 = .ok (.ifCond .lt 12, 3) := by decide +kernel
theorem d_Ps_addLaw_9 : decode b_Ps_addLaw 9 = .ok (.iload_n 2, 1) := by decide +kernel
theorem d_Ps_addLaw_10 : decode b_Ps_addLaw 10 = .ok (.aload_n 0, 1) := by decide +kernel
theorem d_Ps_addLaw_11 : decode b_Ps_addLaw 11 = .ok (.getfield 55, 3) := by decide +kernel
theorem d_Ps_addLaw_14 : decode b_Ps_addLaw 14 = .ok (.arraylength, 1) := by decide +kernel
theorem d_Ps_addLaw_15 : decode b_Ps_addLaw 15 = .ok (.if_icmp .lt 5, 3) := by decide +kernel
theorem d_Ps_addLaw_18 : decode b_Ps_addLaw 18 = .ok (.iconst (-1), 1) := by decide +kernel
theorem d_Ps_addLaw_19 : decode b_Ps_addLaw 19 = .ok (.ireturn, 1) := by decide +kernel
theorem d_Ps_addLaw_20 : decode b_Ps_addLaw 20 = .ok (.aload_n 0, 1) := by decide +kernel
theorem d_Ps_addLaw_21 : decode b_Ps_addLaw 21 = .ok (.getfield 55, 3) := by decide +kernel
theorem d_Ps_addLaw_24 : decode b_Ps_addLaw 24 = .ok (.iload_n 2, 1) := by decide +kernel
theorem d_Ps_addLaw_25 : decode b_Ps_addLaw 25 = .ok (.aload_n 1, 1) := by decide +kernel
theorem d_Ps_addLaw_26 : decode b_Ps_addLaw 26 = .ok (.aastore, 1) := by decide +kernel
theorem d_Ps_addLaw_27 : decode b_Ps_addLaw 27 = .ok (.aload_n 0, 1) := by decide +kernel
theorem d_Ps_addLaw_28 : decode b_Ps_addLaw 28 = .ok (.iload_n 2, 1) := by decide +kernel
theorem d_Ps_addLaw_29 : decode b_Ps_addLaw 29 = .ok (.iconst 1, 1) := by decide +kernel
theorem d_Ps_addLaw_30 : decode b_Ps_addLaw 30 = .ok (.iadd, 1) := by decide +kernel
theorem d_Ps_addLaw_31 : decode b_Ps_addLaw 31 = .ok (.putfield 50, 3) := by decide +kernel
theorem d_Ps_addLaw_34 : decode b_Ps_addLaw 34 = .ok (.iload_n 2, 1) := by decide +kernel
theorem d_Ps_addLaw_35 : decode b_Ps_addLaw 35 = .ok (.ireturn, 1) := by decide +kernel
theorem mf_Ps_addLaw : zMF y_Ps_addLaw b_Ps_addLaw 3 (some .int) 1 := ⟨zGW_in 872 (by decide +kernel) (by decide +kernel), zGW_in 125 (by decide +kernel) (by decide +kernel), by decide +kernel⟩
theorem in_Ps_addLaw : Cond.instanceMethod y_Ps_addLaw ∈ zGW := zGW_in 870 (by decide +kernel) (by decide +kernel)
theorem se_Ps_addLaw : Cond.selects y_Ps_addLaw.cls y_Ps_addLaw y_Ps_addLaw ∈ zGW := zGW_in 871 (by decide +kernel) (by decide +kernel)
theorem lk_0_177 : Cond.methodLink (zNm 0) 177 y_E_digFromTape ∈ zGW := zGW_in 638 (by decide +kernel) (by decide +kernel)
theorem lk_10_44 : Cond.methodLink (zNm 10) 44 y_Ar_fillI ∈ zGW := zGW_in 662 (by decide +kernel) (by decide +kernel)
theorem lk_9_34 : Cond.methodLink (zNm 9) 34 y_Ta_kindAt ∈ zGW := zGW_in 673 (by decide +kernel) (by decide +kernel)
theorem lk_9_38 : Cond.methodLink (zNm 9) 38 y_Ta_numberAtHand ∈ zGW := zGW_in 677 (by decide +kernel) (by decide +kernel)
theorem lk_9_31 : Cond.methodLink (zNm 9) 31 y_Ta_next ∈ zGW := zGW_in 669 (by decide +kernel) (by decide +kernel)
theorem lk_9_42 : Cond.methodLink (zNm 9) 42 (⟨"java/lang/String", "length", "()I"⟩ : MethodName) ∈ zGW := zGW_in 697 (by decide +kernel) (by decide +kernel)
theorem lk_9_46 : Cond.methodLink (zNm 9) 46 y_Ta_byteAt ∈ zGW := zGW_in 707 (by decide +kernel) (by decide +kernel)
theorem lk_9_49 : Cond.methodLink (zNm 9) 49 (⟨"java/lang/String", "charAt", "(I)C"⟩ : MethodName) ∈ zGW := zGW_in 708 (by decide +kernel) (by decide +kernel)
theorem lk_9_53 : Cond.methodLink (zNm 9) 53 y_Ta_isWord ∈ zGW := zGW_in 693 (by decide +kernel) (by decide +kernel)
theorem lk_6_71 : Cond.methodLink (zNm 6) 71 y_Ta_takeWord ∈ zGW := zGW_in 689 (by decide +kernel) (by decide +kernel)
theorem lk_9_57 : Cond.methodLink (zNm 9) 57 y_Ta_isSign ∈ zGW := zGW_in 795 (by decide +kernel) (by decide +kernel)
theorem lk_6_111 : Cond.methodLink (zNm 6) 111 y_Ta_isNumber ∈ zGW := zGW_in 824 (by decide +kernel) (by decide +kernel)
theorem lk_6_81 : Cond.methodLink (zNm 6) 81 y_Tx_emit ∈ zGW := zGW_in 814 (by decide +kernel) (by decide +kernel)
theorem lk_6_121 : Cond.methodLink (zNm 6) 121 y_Ta_next ∈ zGW := zGW_in 813 (by decide +kernel) (by decide +kernel)
theorem lk_6_176 : Cond.methodLink (zNm 6) 176 y_Ta_isWord ∈ zGW := zGW_in 838 (by decide +kernel) (by decide +kernel)
theorem lk_6_78 : Cond.methodLink (zNm 6) 78 y_Re_readSum ∈ zGW := zGW_in 771 (by decide +kernel) (by decide +kernel)
theorem lk_6_142 : Cond.methodLink (zNm 6) 142 y_Ta_isSign ∈ zGW := zGW_in 783 (by decide +kernel) (by decide +kernel)
theorem lk_6_145 : Cond.methodLink (zNm 6) 145 y_Re_readBracketed ∈ zGW := zGW_in 787 (by decide +kernel) (by decide +kernel)
theorem lk_6_149 : Cond.methodLink (zNm 6) 149 y_Re_readComparison ∈ zGW := zGW_in 809 (by decide +kernel) (by decide +kernel)
theorem lk_6_135 : Cond.methodLink (zNm 6) 135 y_Re_readPlain ∈ zGW := zGW_in 804 (by decide +kernel) (by decide +kernel)
theorem lk_6_132 : Cond.methodLink (zNm 6) 132 y_Tx_land ∈ zGW := zGW_in 819 (by decide +kernel) (by decide +kernel)
theorem lk_6_124 : Cond.methodLink (zNm 6) 124 y_Re_readBoth ∈ zGW := zGW_in 800 (by decide +kernel) (by decide +kernel)
theorem lk_6_49 : Cond.methodLink (zNm 6) 49 y_Ta_takeSign ∈ zGW := zGW_in 791 (by decide +kernel) (by decide +kernel)
theorem lk_6_92 : Cond.methodLink (zNm 6) 92 y_Re_readTest ∈ zGW := zGW_in 796 (by decide +kernel) (by decide +kernel)
theorem lk_6_160 : Cond.methodLink (zNm 6) 160 y_Re_readWhich ∈ zGW := zGW_in 829 (by decide +kernel) (by decide +kernel)
theorem lk_6_169 : Cond.methodLink (zNm 6) 169 y_Re_orderWord ∈ zGW := zGW_in 834 (by decide +kernel) (by decide +kernel)
theorem lk_6_172 : Cond.methodLink (zNm 6) 172 y_Re_lawWord ∈ zGW := zGW_in 843 (by decide +kernel) (by decide +kernel)
theorem lk_6_155 : Cond.methodLink (zNm 6) 155 y_Re_readPart ∈ zGW := zGW_in 779 (by decide +kernel) (by decide +kernel)
theorem lk_6_152 : Cond.methodLink (zNm 6) 152 y_Re_readTerm ∈ zGW := zGW_in 775 (by decide +kernel) (by decide +kernel)
theorem lk_6_118 : Cond.methodLink (zNm 6) 118 y_Tx_repeat ∈ zGW := zGW_in 855 (by decide +kernel) (by decide +kernel)
theorem lk_6_53 : Cond.methodLink (zNm 6) 53 y_Re_takeOrder ∈ zGW := zGW_in 685 (by decide +kernel) (by decide +kernel)
theorem lk_6_57 : Cond.methodLink (zNm 6) 57 y_Re_takeLaw ∈ zGW := zGW_in 749 (by decide +kernel) (by decide +kernel)
theorem lk_6_60 : Cond.methodLink (zNm 6) 60 y_Tx_begin ∈ zGW := zGW_in 756 (by decide +kernel) (by decide +kernel)
theorem lk_6_62 : Cond.methodLink (zNm 6) 62 y_Re_sumsOfOrder ∈ zGW := zGW_in 760 (by decide +kernel) (by decide +kernel)
theorem lk_6_66 : Cond.methodLink (zNm 6) 66 y_Re_sumsOfLaw ∈ zGW := zGW_in 763 (by decide +kernel) (by decide +kernel)
theorem lk_6_75 : Cond.methodLink (zNm 6) 75 y_Tx_start ∈ zGW := zGW_in 767 (by decide +kernel) (by decide +kernel)
theorem lk_6_87 : Cond.methodLink (zNm 6) 87 y_Re_readTimes ∈ zGW := zGW_in 851 (by decide +kernel) (by decide +kernel)
theorem lk_6_31 : Cond.methodLink (zNm 6) 31 y_Tx_clear ∈ zGW := zGW_in 658 (by decide +kernel) (by decide +kernel)
theorem lk_6_34 : Cond.methodLink (zNm 6) 34 y_Ta_begin ∈ zGW := zGW_in 665 (by decide +kernel) (by decide +kernel)
theorem lk_6_39 : Cond.methodLink (zNm 6) 39 y_Re_readClause ∈ zGW := zGW_in 681 (by decide +kernel) (by decide +kernel)
def f_E_row_56 (fu : Nat) (a2 : Int32) (a3 : Int32) (S : zSt) : Option (Int32 × zSt) := zb1 (f_Jo_clear 32 (zwI (zwI S 44 1 (0 : Int32)) 0 16 a3)) (fun S2 => zb2 (f_E_granted a2 S2) (fun r4 S5 => some (r4, S5)))
def f_E_row_26 (fu : Nat) : Nat → Int32 → Int32 → Int32 → Int32 → zSt → Option (Int32 × zSt)
  | 0, _, _, _, _, _ => none
  | n + 1, a1, a2, a3, a4, S => if a1 ≤ a4 then f_E_row_56 fu a2 a3 S else zb2 (f_E_digFromTape a4 S) (fun r3 S4 => if r3 = 0 then f_E_row_26 fu n a1 a2 (a3 + (1 : Int32)) (a4 + (3 : Int32)) S4 else f_E_row_26 fu n a1 (a2 + (1 : Int32)) a3 (a4 + (3 : Int32)) S4)
def f_E_row (fu : Nat) (S : zSt) : Option (Int32 × zSt) := if (zI S 44 1) = 0 then zb2 (f_E_refused (-6 : Int32) S) (fun r3 S4 => some (r3, S4)) else f_E_row_26 fu fu (zI S 44 1) (0 : Int32) (0 : Int32) (0 : Int32) S
set_option maxRecDepth 100000 in
set_option maxHeartbeats 4000000 in
theorem c_E_row_56 {p : Program} {l : Launch} {e : Env} {s : State} {m : MethodId} {args : Array Value} {below : List Frame} {meth : Method} {c : Code} {G : zG} (C : zC p s m args meth c G b_E_row 5 y_E_row.cls) (hret : meth.sig.returnType = (some .int)) {fu : Nat} {r : Int32} {S1 : zSt} : ∀ (a2 : Int32) (a3 : Int32) (S : zSt) , f_E_row_56 fu a2 a3 S = some (r, S1) → zJ p l e rm_E_row s m args below meth c G true 5 0 0 (zQm below G args s rm_E_row true (some (zi r)) S1) S 56 [(0, zr (some 0)), (2, zi a2), (3, zi a3)] [] := by
  intro a2 a3 S h
  unfold f_E_row_56 at h
  refine z_aload_n C 0 rfl d_E_row_56 rfl ?_
  refine z_getF2 C 0 (by decide) 6 (by decide) rfl 44 0 rfl (44) rfl zp_0 zk_0 zfl_0_39 d_E_row_57 ?_
  refine z_iconst C (0 : Int32) (by decide) d_E_row_60 ?_
  refine z_putI C 9 (by decide) 1 (by decide) rfl (Or.inl rfl) zo_44 zk_44 zfl_0_170 (Or.inl rfl) d_E_row_61 ?_
  refine z_aload_n C 0 rfl d_E_row_64 rfl ?_
  refine z_iload_n C 2 rfl d_E_row_65 rfl ?_
  refine z_putI C 0 (by decide) 16 (by decide) rfl (Or.inl rfl) zo_0 zk_0 zfl_0_96 (Or.inl rfl) d_E_row_66 ?_
  refine z_aload_n C 0 rfl d_E_row_69 rfl ?_
  refine z_getF2 C 0 (by decide) 4 (by decide) rfl 32 0 rfl (32) rfl zp_0 zk_0 zfl_0_29 d_E_row_70 ?_
  obtain ⟨S2, h1, h⟩ := zb1_some h
  refine z_cV C 2 (by decide) (m_Jo_clear l zk_32 (Nat.le_of_ble_eq_true rfl) h1) mf_Jo_clear lk_0_116 in_Jo_clear se_Jo_clear rfl zo_32 zk_32 ⟨rfl, rfl⟩ ⟨by decide, by decide⟩ ⟨Nat.zero_le _, Nat.zero_le _⟩ rfl _ [] rfl (Nat.le_of_ble_eq_true rfl) d_E_row_73 ?_
  refine z_aload_n C 0 rfl d_E_row_76 rfl ?_
  refine z_iload_n C 1 rfl d_E_row_77 rfl ?_
  obtain ⟨r4, S5, h3, h⟩ := zb2_some h
  refine z_cV C 0 (by decide) (m_E_granted l h3) mf_E_granted lk_0_123 in_E_granted se_E_granted rfl zo_0 zk_0 ⟨rfl, rfl⟩ ⟨by decide, by decide⟩ ⟨Nat.zero_le _, Nat.zero_le _⟩ rfl _ [] rfl (Nat.le_of_ble_eq_true rfl) d_E_row_78 ?_
  cases h
  exact z_iret C .int hret rfl ⟨Nat.zero_le _, Nat.zero_le _⟩ d_E_row_81
set_option maxRecDepth 100000 in
set_option maxHeartbeats 4000000 in
theorem c_E_row_26 {p : Program} {l : Launch} {e : Env} {s : State} {m : MethodId} {args : Array Value} {below : List Frame} {meth : Method} {c : Code} {G : zG} (C : zC p s m args meth c G b_E_row 5 y_E_row.cls) (hret : meth.sig.returnType = (some .int)) {fu : Nat} {r : Int32} {S1 : zSt} : ∀ (n : Nat) (a1 : Int32) (a2 : Int32) (a3 : Int32) (a4 : Int32) (S : zSt) , f_E_row_26 fu n a1 a2 a3 a4 S = some (r, S1) → zJ p l e rm_E_row s m args below meth c G true 5 0 0 (zQm below G args s rm_E_row true (some (zi r)) S1) S 26 [(0, zr (some 0)), (1, zi a1), (2, zi a2), (3, zi a3), (4, zi a4)] [] := by
  intro n
  induction n with
  | zero =>
    intro a1 a2 a3 a4 S h
    cases h
  | succ n ih =>
    intro a1 a2 a3 a4 S h
    rw [f_E_row_26] at h
    refine z_iload C 4 rfl d_E_row_26 ?_
    refine z_iload_n C 1 rfl d_E_row_28 rfl ?_
    rcases zite h with ⟨c1, h⟩ | ⟨c1, h⟩
    · refine z_icmp_get C 56 c1 d_E_row_29 (by decide) ?_
      refine zq_lsub [0, 2, 3] [(0, zr (some 0)), (2, zi a2), (3, zi a3)] rfl ?_
      exact c_E_row_56 C hret  a2 a3 S h
    · refine z_icmp_gef C 56 c1 d_E_row_29 (by decide) ?_
      refine z_aload_n C 0 rfl d_E_row_32 rfl ?_
      refine z_iload C 4 rfl d_E_row_33 ?_
      obtain ⟨r3, S4, h2, h⟩ := zb2_some h
      refine z_cV C 0 (by decide) (m_E_digFromTape l h2) mf_E_digFromTape lk_0_177 in_E_digFromTape se_E_digFromTape rfl zo_0 zk_0 ⟨rfl, rfl⟩ ⟨by decide, by decide⟩ ⟨Nat.zero_le _, Nat.zero_le _⟩ rfl _ [] rfl (Nat.le_of_ble_eq_true rfl) d_E_row_35 ?_
      rcases zite h with ⟨c5, h⟩ | ⟨c5, h⟩
      · refine z_if_eqt C 47 c5 d_E_row_38 (by decide) ?_
        refine z_iinc C 3 (a3 + (1 : Int32)) [(3, zi (a3 + (1 : Int32))), (0, zr (some 0)), (1, zi a1), (2, zi a2), (4, zi a4)] rfl d_E_row_47 (by first | rfl | decide) (by decide) rfl ?_
        refine z_iinc C 4 (a4 + (3 : Int32)) [(4, zi (a4 + (3 : Int32))), (3, zi (a3 + (1 : Int32))), (0, zr (some 0)), (1, zi a1), (2, zi a2)] rfl d_E_row_50 (by first | rfl | decide) (by decide) rfl ?_
        refine z_goto C 26 d_E_row_53 (by decide) ?_
        refine zq_lsub [2, 3, 4, 1, 0] [(0, zr (some 0)), (1, zi a1), (2, zi a2), (3, zi (a3 + (1 : Int32))), (4, zi (a4 + (3 : Int32)))] rfl ?_
        exact ih a1 a2 (a3 + (1 : Int32)) (a4 + (3 : Int32)) S4 h
      · refine z_if_eqf C 47 c5 d_E_row_38 (by decide) ?_
        refine z_iinc C 2 (a2 + (1 : Int32)) [(2, zi (a2 + (1 : Int32))), (0, zr (some 0)), (1, zi a1), (3, zi a3), (4, zi a4)] rfl d_E_row_41 (by first | rfl | decide) (by decide) rfl ?_
        refine z_goto C 50 d_E_row_44 (by decide) ?_
        refine z_iinc C 4 (a4 + (3 : Int32)) [(4, zi (a4 + (3 : Int32))), (2, zi (a2 + (1 : Int32))), (0, zr (some 0)), (1, zi a1), (3, zi a3)] rfl d_E_row_50 (by first | rfl | decide) (by decide) rfl ?_
        refine z_goto C 26 d_E_row_53 (by decide) ?_
        refine zq_lsub [2, 3, 1, 4, 0] [(0, zr (some 0)), (1, zi a1), (2, zi (a2 + (1 : Int32))), (3, zi a3), (4, zi (a4 + (3 : Int32)))] rfl ?_
        exact ih a1 (a2 + (1 : Int32)) a3 (a4 + (3 : Int32)) S4 h
set_option maxRecDepth 100000 in
set_option maxHeartbeats 4000000 in
theorem m_E_row (l : Launch) {fu : Nat} {S : zSt} {r : Int32} {S1 : zSt} (h : f_E_row fu  S = some (r, S1)) : zPM l y_E_row b_E_row 5 (some .int) rm_E_row true true [zr (some 0)] S (some (zi r)) S1 := by
  refine zPM_of (by decide) (Nat.le_of_ble_eq_true rfl) (fun p e s m args below meth c G C hret hname => ?_)
  unfold f_E_row at h
  refine (?_ : zJ p l e rm_E_row s m args below meth c G true 5 0 0 (zQm below G args s rm_E_row true (some (zi r)) S1) S 0 [(0, zr (some 0))] [])
  refine z_aload_n C 0 rfl d_E_row_0 rfl ?_
  refine z_getF2 C 0 (by decide) 6 (by decide) rfl 44 0 rfl (44) rfl zp_0 zk_0 zfl_0_39 d_E_row_1 ?_
  refine z_getI C 9 (by decide) 1 (by decide) rfl zo_44 zk_44 zfl_0_170 d_E_row_4 ?_
  refine z_istore_n C [(1, zi (zI S 44 1)), (0, zr (some 0))] d_E_row_7 rfl (by decide) rfl ?_
  refine z_iload_n C 0 rfl d_E_row_8 rfl ?_
  rcases zite h with ⟨c1, h⟩ | ⟨c1, h⟩
  · refine z_if_nef C 19 c1 d_E_row_9 (by decide) ?_
    refine z_aload_n C 1 rfl d_E_row_12 rfl ?_
    refine z_bipush C (-6 : Int32) (by decide) d_E_row_13 ?_
    obtain ⟨r3, S4, h2, h⟩ := zb2_some h
    refine z_cV C 0 (by decide) (m_E_refused l h2) mf_E_refused lk_0_109 in_E_refused se_E_refused rfl zo_0 zk_0 ⟨rfl, rfl⟩ ⟨by decide, by decide⟩ ⟨Nat.zero_le _, Nat.zero_le _⟩ rfl _ [] rfl (Nat.le_of_ble_eq_true rfl) d_E_row_15 ?_
    cases h
    exact z_iret C .int hret rfl ⟨Nat.zero_le _, Nat.zero_le _⟩ d_E_row_18
  · refine z_if_net C 19 c1 d_E_row_9 (by decide) ?_
    refine z_iconst C (0 : Int32) (by decide) d_E_row_19 ?_
    refine z_istore_n C [(2, zi (0 : Int32)), (1, zi (zI S 44 1)), (0, zr (some 0))] d_E_row_20 rfl (by decide) rfl ?_
    refine z_iconst C (0 : Int32) (by decide) d_E_row_21 ?_
    refine z_istore_n C [(3, zi (0 : Int32)), (2, zi (0 : Int32)), (1, zi (zI S 44 1)), (0, zr (some 0))] d_E_row_22 rfl (by decide) rfl ?_
    refine z_iconst C (0 : Int32) (by decide) d_E_row_23 ?_
    refine z_istore C [(4, zi (0 : Int32)), (3, zi (0 : Int32)), (2, zi (0 : Int32)), (1, zi (zI S 44 1)), (0, zr (some 0))] d_E_row_24 (by decide) rfl ?_
    refine zq_lsub [4, 3, 2, 1, 0] [(0, zr (some 0)), (1, zi (zI S 44 1)), (2, zi (0 : Int32)), (3, zi (0 : Int32)), (4, zi (0 : Int32))] rfl ?_
    exact c_E_row_26 C hret fu  (zI S 44 1) (0 : Int32) (0 : Int32) (0 : Int32) S h
def f_E_bubbles (S : zSt) : Option Int32 := some (zI S 0 16)
set_option maxRecDepth 100000 in
set_option maxHeartbeats 4000000 in
theorem m_E_bubbles (l : Launch) {S : zSt} {r : Int32} (h : f_E_bubbles  S = some r) : zPM l y_E_bubbles b_E_bubbles 1 (some .int) rm_E_bubbles true true [zr (some 0)] S (some (zi r)) S := by
  refine zPM_of (by decide) (Nat.le_of_ble_eq_true rfl) (fun p e s m args below meth c G C hret hname => ?_)
  unfold f_E_bubbles at h
  refine (?_ : zJ p l e rm_E_bubbles s m args below meth c G true 1 0 0 (zQm below G args s rm_E_bubbles true (some (zi r)) S) S 0 [(0, zr (some 0))] [])
  refine z_aload_n C 0 rfl d_E_bubbles_0 rfl ?_
  refine z_getI C 0 (by decide) 16 (by decide) rfl zo_0 zk_0 zfl_0_96 d_E_bubbles_1 ?_
  cases h
  exact z_iret C .int hret rfl ⟨Nat.zero_le _, Nat.zero_le _⟩ d_E_bubbles_4
def f_Ar_fillI_5 (fu : Nat) (a0 : Nat) : Nat → Int32 → Int32 → Int32 → zSt → Option zSt
  | 0, _, _, _, _ => none
  | n + 1, a1, a2, a3, S => if a3 ≤ a2 then some S else zgd (0 ≤ a2 ∧ a2.toNatClampNeg < zA S a0) (f_Ar_fillI_5 fu a0 n a1 (a2 + (1 : Int32)) a3 (zwI S a0 a2.toNatClampNeg a1))
def f_Ar_fillI (fu : Nat) (a0 : Nat) (a1 : Int32) (S : zSt) : Option zSt := f_Ar_fillI_5 fu a0 fu a1 (0 : Int32) ((zA S a0).toInt32) S
set_option maxRecDepth 100000 in
set_option maxHeartbeats 4000000 in
theorem c_Ar_fillI_5 {p : Program} {l : Launch} {e : Env} {s : State} {m : MethodId} {args : Array Value} {below : List Frame} {meth : Method} {c : Code} {G : zG} (C : zC p s m args meth c G b_Ar_fillI 4 y_Ar_fillI.cls) (hret : meth.sig.returnType = none) {fu : Nat} {a0 : Nat} {S1 : zSt} (ha0 : zK a0 = 50) : ∀ (n : Nat) (a1 : Int32) (a2 : Int32) (a3 : Int32) (S : zSt) (ga0 : a0 < zN0 ∨ a0 < zN S) , f_Ar_fillI_5 fu a0 n a1 a2 a3 S = some S1 → zJ p l e rm_Ar_fillI s m args below meth c G true 4 0 0 (zQm below G args s rm_Ar_fillI true none S1) S 5 [(0, zr (some a0)), (1, zi a1), (2, zi a2), (3, zi a3)] [] := by
  intro n
  induction n with
  | zero =>
    intro a1 a2 a3 S ga0 h
    cases h
  | succ n ih =>
    intro a1 a2 a3 S ga0 h
    rw [f_Ar_fillI_5] at h
    refine z_iload_n C 2 rfl d_Ar_fillI_5 rfl ?_
    refine z_iload_n C 3 rfl d_Ar_fillI_6 rfl ?_
    rcases zite h with ⟨c1, h⟩ | ⟨c1, h⟩
    · refine z_icmp_get C 20 c1 d_Ar_fillI_7 (by decide) ?_
      cases h
      exact z_vret C hret ⟨Nat.zero_le _, Nat.zero_le _⟩ d_Ar_fillI_20
    · refine z_icmp_gef C 20 c1 d_Ar_fillI_7 (by decide) ?_
      refine z_aload_n C 0 rfl d_Ar_fillI_10 rfl ?_
      refine z_iload_n C 2 rfl d_Ar_fillI_11 rfl ?_
      refine z_iload_n C 1 rfl d_Ar_fillI_12 rfl ?_
      obtain ⟨g2, h⟩ := zgd_some h
      refine z_iastoreS C (ga0.imp (fun z => ⟨rfl, z⟩) id) ha0 rfl g2 d_Ar_fillI_13 ?_
      refine z_iinc C 2 (a2 + (1 : Int32)) [(2, zi (a2 + (1 : Int32))), (0, zr (some a0)), (1, zi a1), (3, zi a3)] rfl d_Ar_fillI_14 (by first | rfl | decide) (by decide) rfl ?_
      refine z_goto C 5 d_Ar_fillI_17 (by decide) ?_
      refine zq_lsub [1, 2, 0, 3] [(0, zr (some a0)), (1, zi a1), (2, zi (a2 + (1 : Int32))), (3, zi a3)] rfl ?_
      exact ih a1 (a2 + (1 : Int32)) a3 (zwI S a0 a2.toNatClampNeg a1) ga0 h
set_option maxRecDepth 100000 in
set_option maxHeartbeats 4000000 in
theorem m_Ar_fillI (l : Launch) {fu : Nat} {a0 : Nat} {a1 : Int32} {S : zSt} {S1 : zSt} (ha0 : zK a0 = 50) (ga0 : a0 < zN0 ∨ a0 < zN S) (h : f_Ar_fillI fu a0 a1 S = some S1) : zPM l y_Ar_fillI b_Ar_fillI 4 none rm_Ar_fillI true true [zr (some a0), zi a1] S none S1 := by
  refine zPM_of (by decide) (Nat.le_of_ble_eq_true rfl) (fun p e s m args below meth c G C hret hname => ?_)
  unfold f_Ar_fillI at h
  refine (?_ : zJ p l e rm_Ar_fillI s m args below meth c G true 4 0 0 (zQm below G args s rm_Ar_fillI true none S1) S 0 [(0, zr (some a0)), (1, zi a1)] [])
  refine z_iconst C (0 : Int32) (by decide) d_Ar_fillI_0 ?_
  refine z_istore_n C [(2, zi (0 : Int32)), (0, zr (some a0)), (1, zi a1)] d_Ar_fillI_1 rfl (by decide) rfl ?_
  refine z_aload_n C 1 rfl d_Ar_fillI_2 rfl ?_
  refine z_alen50 C (ga0.imp (fun z => ⟨rfl, z⟩) id) ha0 d_Ar_fillI_3 ?_
  refine z_istore_n C [(3, zi ((zA S a0).toInt32)), (2, zi (0 : Int32)), (0, zr (some a0)), (1, zi a1)] d_Ar_fillI_4 rfl (by decide) rfl ?_
  refine zq_lsub [2, 3, 1, 0] [(0, zr (some a0)), (1, zi a1), (2, zi (0 : Int32)), (3, zi ((zA S a0).toInt32))] rfl ?_
  exact c_Ar_fillI_5 C hret ha0 fu  a1 (0 : Int32) ((zA S a0).toInt32) S ga0 h
def f_Tx_clear (fu : Nat) (a0 : Nat) (S : zSt) : Option zSt := zb1 (f_Ar_fillI fu (a0 + 3) (-1 : Int32) (zwI (zwI (zwI S a0 1 (0 : Int32)) a0 2 (0 : Int32)) a0 3 (0 : Int32))) (fun S2 => some S2)
set_option maxRecDepth 100000 in
set_option maxHeartbeats 4000000 in
theorem m_Tx_clear (l : Launch) {fu : Nat} {a0 : Nat} {S : zSt} {S1 : zSt} (ha0 : zK a0 = 10) (ga0 : a0 < zN S) (h : f_Tx_clear fu a0  S = some S1) : zPM l y_Tx_clear b_Tx_clear 1 none rm_Tx_clear true true [zr (some a0)] S none S1 := by
  refine zPM_of (by decide) (Nat.le_of_ble_eq_true rfl) (fun p e s m args below meth c G C hret hname => ?_)
  unfold f_Tx_clear at h
  refine (?_ : zJ p l e rm_Tx_clear s m args below meth c G true 1 0 0 (zQm below G args s rm_Tx_clear true none S1) S 0 [(0, zr (some a0))] [])
  refine z_aload_n C 0 rfl d_Tx_clear_0 rfl ?_
  refine z_iconst C (0 : Int32) (by decide) d_Tx_clear_1 ?_
  refine z_putI C 10 (by decide) 1 (by decide) rfl (Or.inl rfl) (Or.inr ga0) ha0 zfl_10_9 (Or.inl rfl) d_Tx_clear_2 ?_
  refine z_aload_n C 0 rfl d_Tx_clear_5 rfl ?_
  refine z_iconst C (0 : Int32) (by decide) d_Tx_clear_6 ?_
  refine z_putI C 10 (by decide) 2 (by decide) rfl (Or.inl rfl) (Or.inr ga0) ha0 zfl_10_15 (Or.inl rfl) d_Tx_clear_7 ?_
  refine z_aload_n C 0 rfl d_Tx_clear_10 rfl ?_
  refine z_iconst C (0 : Int32) (by decide) d_Tx_clear_11 ?_
  refine z_putI C 10 (by decide) 3 (by decide) rfl (Or.inr (Or.inl rfl)) (Or.inr ga0) ha0 zfl_10_18 (Or.inl rfl) d_Tx_clear_12 ?_
  refine z_aload_n C 0 rfl d_Tx_clear_15 rfl ?_
  refine z_getF2 C 10 (by decide) 6 (by decide) rfl 3 36 rfl (a0 + 3) rfl (Or.inr ga0) ha0 zfl_10_29 d_Tx_clear_16 ?_
  refine z_iconst C (-1 : Int32) (by decide) d_Tx_clear_19 ?_
  refine z_fact (fun hSR => ?_)
  obtain ⟨S2, h1, h⟩ := zb1_some h
  refine z_cS C (m_Ar_fillI l (ztk_3 ha0) (Or.inr (ztx_3 hSR ha0 ga0).1) h1) mf_Ar_fillI lk_10_44 st_Ar_fillI ⟨rfl, rfl⟩ ⟨by decide, by decide⟩ ⟨Nat.zero_le _, Nat.zero_le _⟩ rfl _ [] rfl (Nat.le_of_ble_eq_true rfl) d_Tx_clear_20 ?_
  cases h
  exact z_vret C hret ⟨Nat.zero_le _, Nat.zero_le _⟩ d_Tx_clear_23
def f_Ta_kindAt_44 (a2 : Int32) (S : zSt) : Option Int32 := if a2 < (48 : Int32) then if a2 = (32 : Int32) then some (4 : Int32) else some (3 : Int32) else if (57 : Int32) < a2 then if a2 = (32 : Int32) then some (4 : Int32) else some (3 : Int32) else some (2 : Int32)
def f_Ta_kindAt (a1 : Int32) (S : zSt) : Option Int32 := if a1 < 0 then some (0 : Int32) else if (zI S 44 1) ≤ a1 then some (0 : Int32) else if a1 < (400 : Int32) then zgd (0 ≤ a1 ∧ a1.toNatClampNeg < 400) (if (zI S 45 a1.toNatClampNeg) < (97 : Int32) then f_Ta_kindAt_44 (zI S 45 a1.toNatClampNeg) S else if (122 : Int32) < (zI S 45 a1.toNatClampNeg) then f_Ta_kindAt_44 (zI S 45 a1.toNatClampNeg) S else some (1 : Int32)) else some (0 : Int32)
set_option maxRecDepth 100000 in
set_option maxHeartbeats 4000000 in
theorem c_Ta_kindAt_44 {p : Program} {l : Launch} {e : Env} {s : State} {m : MethodId} {args : Array Value} {below : List Frame} {meth : Method} {c : Code} {G : zG} (C : zC p s m args meth c G b_Ta_kindAt 3 y_Ta_kindAt.cls) (hret : meth.sig.returnType = (some .int)) {r : Int32} : ∀ (a2 : Int32) (S : zSt) , f_Ta_kindAt_44 a2 S = some r → zJ p l e rm_Ta_kindAt s m args below meth c G true 3 0 0 (zQm below G args s rm_Ta_kindAt true (some (zi r)) S) S 44 [(2, zi a2)] [] := by
  intro a2 S h
  unfold f_Ta_kindAt_44 at h
  refine z_iload_n C 0 rfl d_Ta_kindAt_44 rfl ?_
  refine z_bipush C (48 : Int32) (by decide) d_Ta_kindAt_45 ?_
  rcases zite h with ⟨c1, h⟩ | ⟨c1, h⟩
  · refine z_icmp_ltt C 58 c1 d_Ta_kindAt_47 (by decide) ?_
    refine z_iload_n C 0 rfl d_Ta_kindAt_58 rfl ?_
    refine z_bipush C (32 : Int32) (by decide) d_Ta_kindAt_59 ?_
    rcases zite h with ⟨c2, h⟩ | ⟨c2, h⟩
    · refine z_icmp_nef C 68 c2 d_Ta_kindAt_61 (by decide) ?_
      refine z_iconst C (4 : Int32) (by decide) d_Ta_kindAt_64 ?_
      refine z_goto C 69 d_Ta_kindAt_65 (by decide) ?_
      cases h
      exact z_iret C .int hret rfl ⟨Nat.zero_le _, Nat.zero_le _⟩ d_Ta_kindAt_69
    · refine z_icmp_net C 68 c2 d_Ta_kindAt_61 (by decide) ?_
      refine z_iconst C (3 : Int32) (by decide) d_Ta_kindAt_68 ?_
      cases h
      exact z_iret C .int hret rfl ⟨Nat.zero_le _, Nat.zero_le _⟩ d_Ta_kindAt_69
  · refine z_icmp_ltf C 58 c1 d_Ta_kindAt_47 (by decide) ?_
    refine z_iload_n C 0 rfl d_Ta_kindAt_50 rfl ?_
    refine z_bipush C (57 : Int32) (by decide) d_Ta_kindAt_51 ?_
    rcases zite h with ⟨c3, h⟩ | ⟨c3, h⟩
    · refine z_icmp_gtt C 58 c3 d_Ta_kindAt_53 (by decide) ?_
      refine z_iload_n C 0 rfl d_Ta_kindAt_58 rfl ?_
      refine z_bipush C (32 : Int32) (by decide) d_Ta_kindAt_59 ?_
      rcases zite h with ⟨c4, h⟩ | ⟨c4, h⟩
      · refine z_icmp_nef C 68 c4 d_Ta_kindAt_61 (by decide) ?_
        refine z_iconst C (4 : Int32) (by decide) d_Ta_kindAt_64 ?_
        refine z_goto C 69 d_Ta_kindAt_65 (by decide) ?_
        cases h
        exact z_iret C .int hret rfl ⟨Nat.zero_le _, Nat.zero_le _⟩ d_Ta_kindAt_69
      · refine z_icmp_net C 68 c4 d_Ta_kindAt_61 (by decide) ?_
        refine z_iconst C (3 : Int32) (by decide) d_Ta_kindAt_68 ?_
        cases h
        exact z_iret C .int hret rfl ⟨Nat.zero_le _, Nat.zero_le _⟩ d_Ta_kindAt_69
    · refine z_icmp_gtf C 58 c3 d_Ta_kindAt_53 (by decide) ?_
      refine z_iconst C (2 : Int32) (by decide) d_Ta_kindAt_56 ?_
      cases h
      exact z_iret C .int hret rfl ⟨Nat.zero_le _, Nat.zero_le _⟩ d_Ta_kindAt_57
set_option maxRecDepth 100000 in
set_option maxHeartbeats 4000000 in
theorem m_Ta_kindAt (l : Launch) {a1 : Int32} {S : zSt} {r : Int32} (h : f_Ta_kindAt a1 S = some r) : zPM l y_Ta_kindAt b_Ta_kindAt 3 (some .int) rm_Ta_kindAt true true [zr (some 44), zi a1] S (some (zi r)) S := by
  refine zPM_of (by decide) (Nat.le_of_ble_eq_true rfl) (fun p e s m args below meth c G C hret hname => ?_)
  unfold f_Ta_kindAt at h
  refine (?_ : zJ p l e rm_Ta_kindAt s m args below meth c G true 3 0 0 (zQm below G args s rm_Ta_kindAt true (some (zi r)) S) S 0 [(0, zr (some 44)), (1, zi a1)] [])
  refine z_iload_n C 1 rfl d_Ta_kindAt_0 rfl ?_
  rcases zite h with ⟨c1, h⟩ | ⟨c1, h⟩
  · refine z_if_ltt C 21 c1 d_Ta_kindAt_1 (by decide) ?_
    refine z_iconst C (0 : Int32) (by decide) d_Ta_kindAt_21 ?_
    cases h
    exact z_iret C .int hret rfl ⟨Nat.zero_le _, Nat.zero_le _⟩ d_Ta_kindAt_22
  · refine z_if_ltf C 21 c1 d_Ta_kindAt_1 (by decide) ?_
    refine z_iload_n C 1 rfl d_Ta_kindAt_4 rfl ?_
    refine z_aload_n C 0 rfl d_Ta_kindAt_5 rfl ?_
    refine z_getI C 9 (by decide) 1 (by decide) rfl zo_44 zk_44 zfl_9_15 d_Ta_kindAt_6 ?_
    rcases zite h with ⟨c2, h⟩ | ⟨c2, h⟩
    · refine z_icmp_get C 21 c2 d_Ta_kindAt_9 (by decide) ?_
      refine z_iconst C (0 : Int32) (by decide) d_Ta_kindAt_21 ?_
      cases h
      exact z_iret C .int hret rfl ⟨Nat.zero_le _, Nat.zero_le _⟩ d_Ta_kindAt_22
    · refine z_icmp_gef C 21 c2 d_Ta_kindAt_9 (by decide) ?_
      refine z_iload_n C 1 rfl d_Ta_kindAt_12 rfl ?_
      refine z_aload_n C 0 rfl d_Ta_kindAt_13 rfl ?_
      refine z_getF2 C 9 (by decide) 0 (by decide) rfl 1 400 rfl (45) rfl zp_44 zk_44 zfl_9_9 d_Ta_kindAt_14 ?_
      refine z_fact (fun hSR => ?_)
      refine z_alen52S C (400 : Int32) (by decide) zo_45 zk_45 (za_45 hSR) d_Ta_kindAt_17 ?_
      rcases zite h with ⟨c3, h⟩ | ⟨c3, h⟩
      · refine z_icmp_ltt C 23 c3 d_Ta_kindAt_18 (by decide) ?_
        refine z_aload_n C 0 rfl d_Ta_kindAt_23 rfl ?_
        refine z_getF2 C 9 (by decide) 0 (by decide) rfl 1 400 rfl (45) rfl zp_44 zk_44 zfl_9_9 d_Ta_kindAt_24 ?_
        refine z_iload_n C 1 rfl d_Ta_kindAt_27 rfl ?_
        refine z_fact (fun hSR => ?_)
        obtain ⟨g4, h⟩ := zgd_some h
        refine z_baloadS C zo_45 zk_45 (za_45 hSR) g4 d_Ta_kindAt_28 ?_
        refine z_istore_n C [(2, zi (zI S 45 a1.toNatClampNeg)), (0, zr (some 44)), (1, zi a1)] d_Ta_kindAt_29 rfl (by decide) rfl ?_
        refine z_iload_n C 0 rfl d_Ta_kindAt_30 rfl ?_
        refine z_bipush C (97 : Int32) (by decide) d_Ta_kindAt_31 ?_
        rcases zite h with ⟨c5, h⟩ | ⟨c5, h⟩
        · refine z_icmp_ltt C 44 c5 d_Ta_kindAt_33 (by decide) ?_
          refine zq_lsub [0] [(2, zi (zI S 45 a1.toNatClampNeg))] rfl ?_
          exact c_Ta_kindAt_44 C hret  (zI S 45 a1.toNatClampNeg) S h
        · refine z_icmp_ltf C 44 c5 d_Ta_kindAt_33 (by decide) ?_
          refine z_iload_n C 0 rfl d_Ta_kindAt_36 rfl ?_
          refine z_bipush C (122 : Int32) (by decide) d_Ta_kindAt_37 ?_
          rcases zite h with ⟨c6, h⟩ | ⟨c6, h⟩
          · refine z_icmp_gtt C 44 c6 d_Ta_kindAt_39 (by decide) ?_
            refine zq_lsub [0] [(2, zi (zI S 45 a1.toNatClampNeg))] rfl ?_
            exact c_Ta_kindAt_44 C hret  (zI S 45 a1.toNatClampNeg) S h
          · refine z_icmp_gtf C 44 c6 d_Ta_kindAt_39 (by decide) ?_
            refine z_iconst C (1 : Int32) (by decide) d_Ta_kindAt_42 ?_
            cases h
            exact z_iret C .int hret rfl ⟨Nat.zero_le _, Nat.zero_le _⟩ d_Ta_kindAt_43
      · refine z_icmp_ltf C 23 c3 d_Ta_kindAt_18 (by decide) ?_
        refine z_iconst C (0 : Int32) (by decide) d_Ta_kindAt_21 ?_
        cases h
        exact z_iret C .int hret rfl ⟨Nat.zero_le _, Nat.zero_le _⟩ d_Ta_kindAt_22
def f_Ta_numberAtHand_7 (fu : Nat) : Nat → Int32 → Int32 → zSt → Option Int32
  | 0, _, _, _ => none
  | n + 1, a1, a2, S => if a2 < 0 then some a1 else if (zI S 44 3) ≤ a2 then some a1 else if (400 : Int32) ≤ a2 then some a1 else zgd (0 ≤ a2 ∧ a2.toNatClampNeg < 400) (if (((a1 * (10 : Int32)) + (zI S 45 a2.toNatClampNeg)) - (48 : Int32)) ≤ (1000 : Int32) then f_Ta_numberAtHand_7 fu n (((a1 * (10 : Int32)) + (zI S 45 a2.toNatClampNeg)) - (48 : Int32)) (a2 + (1 : Int32)) S else some (1001 : Int32))
def f_Ta_numberAtHand (fu : Nat) (S : zSt) : Option Int32 := f_Ta_numberAtHand_7 fu fu (0 : Int32) (zI S 44 2) S
set_option maxRecDepth 100000 in
set_option maxHeartbeats 4000000 in
theorem c_Ta_numberAtHand_7 {p : Program} {l : Launch} {e : Env} {s : State} {m : MethodId} {args : Array Value} {below : List Frame} {meth : Method} {c : Code} {G : zG} (C : zC p s m args meth c G b_Ta_numberAtHand 3 y_Ta_numberAtHand.cls) (hret : meth.sig.returnType = (some .int)) {fu : Nat} {r : Int32} : ∀ (n : Nat) (a1 : Int32) (a2 : Int32) (S : zSt) , f_Ta_numberAtHand_7 fu n a1 a2 S = some r → zJ p l e rm_Ta_numberAtHand s m args below meth c G true 3 0 0 (zQm below G args s rm_Ta_numberAtHand true (some (zi r)) S) S 7 [(0, zr (some 44)), (1, zi a1), (2, zi a2)] [] := by
  intro n
  induction n with
  | zero =>
    intro a1 a2 S h
    cases h
  | succ n ih =>
    intro a1 a2 S h
    rw [f_Ta_numberAtHand_7] at h
    refine z_iload_n C 2 rfl d_Ta_numberAtHand_7 rfl ?_
    rcases zite h with ⟨c1, h⟩ | ⟨c1, h⟩
    · refine z_if_ltt C 60 c1 d_Ta_numberAtHand_8 (by decide) ?_
      refine z_iload_n C 1 rfl d_Ta_numberAtHand_60 rfl ?_
      cases h
      exact z_iret C .int hret rfl ⟨Nat.zero_le _, Nat.zero_le _⟩ d_Ta_numberAtHand_61
    · refine z_if_ltf C 60 c1 d_Ta_numberAtHand_8 (by decide) ?_
      refine z_iload_n C 2 rfl d_Ta_numberAtHand_11 rfl ?_
      refine z_aload_n C 0 rfl d_Ta_numberAtHand_12 rfl ?_
      refine z_getI C 9 (by decide) 3 (by decide) rfl zo_44 zk_44 zfl_9_22 d_Ta_numberAtHand_13 ?_
      rcases zite h with ⟨c2, h⟩ | ⟨c2, h⟩
      · refine z_icmp_get C 60 c2 d_Ta_numberAtHand_16 (by decide) ?_
        refine z_iload_n C 1 rfl d_Ta_numberAtHand_60 rfl ?_
        cases h
        exact z_iret C .int hret rfl ⟨Nat.zero_le _, Nat.zero_le _⟩ d_Ta_numberAtHand_61
      · refine z_icmp_gef C 60 c2 d_Ta_numberAtHand_16 (by decide) ?_
        refine z_iload_n C 2 rfl d_Ta_numberAtHand_19 rfl ?_
        refine z_aload_n C 0 rfl d_Ta_numberAtHand_20 rfl ?_
        refine z_getF2 C 9 (by decide) 0 (by decide) rfl 1 400 rfl (45) rfl zp_44 zk_44 zfl_9_9 d_Ta_numberAtHand_21 ?_
        refine z_fact (fun hSR => ?_)
        refine z_alen52S C (400 : Int32) (by decide) zo_45 zk_45 (za_45 hSR) d_Ta_numberAtHand_24 ?_
        rcases zite h with ⟨c3, h⟩ | ⟨c3, h⟩
        · refine z_icmp_get C 60 c3 d_Ta_numberAtHand_25 (by decide) ?_
          refine z_iload_n C 1 rfl d_Ta_numberAtHand_60 rfl ?_
          cases h
          exact z_iret C .int hret rfl ⟨Nat.zero_le _, Nat.zero_le _⟩ d_Ta_numberAtHand_61
        · refine z_icmp_gef C 60 c3 d_Ta_numberAtHand_25 (by decide) ?_
          refine z_iload_n C 1 rfl d_Ta_numberAtHand_28 rfl ?_
          refine z_bipush C (10 : Int32) (by decide) d_Ta_numberAtHand_29 ?_
          refine z_imul C d_Ta_numberAtHand_31 ?_
          refine z_aload_n C 0 rfl d_Ta_numberAtHand_32 rfl ?_
          refine z_getF2 C 9 (by decide) 0 (by decide) rfl 1 400 rfl (45) rfl zp_44 zk_44 zfl_9_9 d_Ta_numberAtHand_33 ?_
          refine z_iload_n C 2 rfl d_Ta_numberAtHand_36 rfl ?_
          refine z_fact (fun hSR => ?_)
          obtain ⟨g4, h⟩ := zgd_some h
          refine z_baloadS C zo_45 zk_45 (za_45 hSR) g4 d_Ta_numberAtHand_37 ?_
          refine z_iadd C d_Ta_numberAtHand_38 ?_
          refine z_bipush C (48 : Int32) (by decide) d_Ta_numberAtHand_39 ?_
          refine z_isub C d_Ta_numberAtHand_41 ?_
          refine z_istore_n C [(1, zi (((a1 * (10 : Int32)) + (zI S 45 a2.toNatClampNeg)) - (48 : Int32))), (0, zr (some 44)), (2, zi a2)] d_Ta_numberAtHand_42 rfl (by decide) rfl ?_
          refine z_iload_n C 0 rfl d_Ta_numberAtHand_43 rfl ?_
          refine z_sipush C (1000 : Int32) (by decide) d_Ta_numberAtHand_44 ?_
          rcases zite h with ⟨c5, h⟩ | ⟨c5, h⟩
          · refine z_icmp_let C 54 c5 d_Ta_numberAtHand_47 (by decide) ?_
            refine z_iinc C 2 (a2 + (1 : Int32)) [(2, zi (a2 + (1 : Int32))), (1, zi (((a1 * (10 : Int32)) + (zI S 45 a2.toNatClampNeg)) - (48 : Int32))), (0, zr (some 44))] rfl d_Ta_numberAtHand_54 (by first | rfl | decide) (by decide) rfl ?_
            refine z_goto C 7 d_Ta_numberAtHand_57 (by decide) ?_
            refine zq_lsub [2, 1, 0] [(0, zr (some 44)), (1, zi (((a1 * (10 : Int32)) + (zI S 45 a2.toNatClampNeg)) - (48 : Int32))), (2, zi (a2 + (1 : Int32)))] rfl ?_
            exact ih (((a1 * (10 : Int32)) + (zI S 45 a2.toNatClampNeg)) - (48 : Int32)) (a2 + (1 : Int32)) S h
          · refine z_icmp_lef C 54 c5 d_Ta_numberAtHand_47 (by decide) ?_
            refine z_sipush C (1001 : Int32) (by decide) d_Ta_numberAtHand_50 ?_
            cases h
            exact z_iret C .int hret rfl ⟨Nat.zero_le _, Nat.zero_le _⟩ d_Ta_numberAtHand_53
set_option maxRecDepth 100000 in
set_option maxHeartbeats 4000000 in
theorem m_Ta_numberAtHand (l : Launch) {fu : Nat} {S : zSt} {r : Int32} (h : f_Ta_numberAtHand fu  S = some r) : zPM l y_Ta_numberAtHand b_Ta_numberAtHand 3 (some .int) rm_Ta_numberAtHand true true [zr (some 44)] S (some (zi r)) S := by
  refine zPM_of (by decide) (Nat.le_of_ble_eq_true rfl) (fun p e s m args below meth c G C hret hname => ?_)
  unfold f_Ta_numberAtHand at h
  refine (?_ : zJ p l e rm_Ta_numberAtHand s m args below meth c G true 3 0 0 (zQm below G args s rm_Ta_numberAtHand true (some (zi r)) S) S 0 [(0, zr (some 44))] [])
  refine z_iconst C (0 : Int32) (by decide) d_Ta_numberAtHand_0 ?_
  refine z_istore_n C [(1, zi (0 : Int32)), (0, zr (some 44))] d_Ta_numberAtHand_1 rfl (by decide) rfl ?_
  refine z_aload_n C 1 rfl d_Ta_numberAtHand_2 rfl ?_
  refine z_getI C 9 (by decide) 2 (by decide) rfl zo_44 zk_44 zfl_9_19 d_Ta_numberAtHand_3 ?_
  refine z_istore_n C [(2, zi (zI S 44 2)), (1, zi (0 : Int32)), (0, zr (some 44))] d_Ta_numberAtHand_6 rfl (by decide) rfl ?_
  refine zq_lsub [2, 1, 0] [(0, zr (some 44)), (1, zi (0 : Int32)), (2, zi (zI S 44 2))] rfl ?_
  exact c_Ta_numberAtHand_7 C hret fu  (0 : Int32) (zI S 44 2) S h
def f_Ta_next_84 (fu : Nat) (a1 : Int32) (S : zSt) : Option zSt := if (zI (zwI S 44 3 a1) 44 4) = (2 : Int32) then zb1 (f_Ta_numberAtHand fu (zwI S 44 3 a1)) (fun r3 => some (zwI (zwI S 44 3 a1) 44 5 r3)) else some (zwI (zwI S 44 3 a1) 44 5 (0 : Int32))
def f_Ta_next_61 (fu : Nat) : Nat → Int32 → Int32 → zSt → Option zSt
  | 0, _, _, _ => none
  | n + 1, a1, a2, S => if a2 ≤ a1 then f_Ta_next_84 fu a1 S else zb1 (f_Ta_kindAt a1 S) (fun r3 => if r3 = (zI S 44 4) then f_Ta_next_61 fu n (a1 + (1 : Int32)) a2 S else f_Ta_next_84 fu a1 S)
def f_Ta_next_28 (fu : Nat) (a1 : Int32) (S : zSt) : Option zSt := zb1 (f_Ta_kindAt a1 (zwI S 44 2 a1)) (fun r2 => if (zI (zwI (zwI S 44 2 a1) 44 4 r2) 44 4) = (3 : Int32) then f_Ta_next_61 fu fu a1 (a1 + (1 : Int32)) (zwI (zwI S 44 2 a1) 44 4 r2) else f_Ta_next_61 fu fu a1 (zI (zwI (zwI S 44 2 a1) 44 4 r2) 44 1) (zwI (zwI S 44 2 a1) 44 4 r2))
def f_Ta_next_5 (fu : Nat) : Nat → Int32 → zSt → Option zSt
  | 0, _, _ => none
  | n + 1, a1, S => if (zI S 44 1) ≤ a1 then f_Ta_next_28 fu a1 S else zb1 (f_Ta_kindAt a1 S) (fun r3 => if r3 = (4 : Int32) then f_Ta_next_5 fu n (a1 + (1 : Int32)) S else f_Ta_next_28 fu a1 S)
def f_Ta_next (fu : Nat) (S : zSt) : Option zSt := f_Ta_next_5 fu fu (zI S 44 3) S
set_option maxRecDepth 100000 in
set_option maxHeartbeats 4000000 in
theorem c_Ta_next_84 {p : Program} {l : Launch} {e : Env} {s : State} {m : MethodId} {args : Array Value} {below : List Frame} {meth : Method} {c : Code} {G : zG} (C : zC p s m args meth c G b_Ta_next 3 y_Ta_next.cls) (hret : meth.sig.returnType = none) {fu : Nat} {S1 : zSt} : ∀ (a1 : Int32) (S : zSt) , f_Ta_next_84 fu a1 S = some S1 → zJ p l e rm_Ta_next s m args below meth c G true 3 0 0 (zQm below G args s rm_Ta_next true none S1) S 84 [(0, zr (some 44)), (1, zi a1)] [] := by
  intro a1 S h
  unfold f_Ta_next_84 at h
  refine z_aload_n C 0 rfl d_Ta_next_84 rfl ?_
  refine z_iload_n C 1 rfl d_Ta_next_85 rfl ?_
  refine z_putI C 9 (by decide) 3 (by decide) rfl (Or.inl rfl) zo_44 zk_44 zfl_9_22 (Or.inl rfl) d_Ta_next_86 ?_
  refine z_aload_n C 0 rfl d_Ta_next_89 rfl ?_
  refine z_aload_n C 0 rfl d_Ta_next_90 rfl ?_
  refine z_getI C 9 (by decide) 4 (by decide) rfl zo_44 zk_44 zfl_9_25 d_Ta_next_91 ?_
  refine z_iconst C (2 : Int32) (by decide) d_Ta_next_94 ?_
  rcases zite h with ⟨c1, h⟩ | ⟨c1, h⟩
  · refine z_icmp_nef C 105 c1 d_Ta_next_95 (by decide) ?_
    refine z_aload_n C 0 rfl d_Ta_next_98 rfl ?_
    obtain ⟨r3, h2, h⟩ := zb1_some h
    refine z_cV C 9 (by decide) (m_Ta_numberAtHand l h2) mf_Ta_numberAtHand lk_9_38 in_Ta_numberAtHand se_Ta_numberAtHand rfl zo_44 zk_44 ⟨rfl, rfl⟩ ⟨by decide, by decide⟩ ⟨Nat.zero_le _, Nat.zero_le _⟩ rfl _ [zr (some 44)] rfl (Nat.le_of_ble_eq_true rfl) d_Ta_next_99 ?_
    refine z_goto C 106 d_Ta_next_102 (by decide) ?_
    refine z_putI C 9 (by decide) 5 (by decide) rfl (Or.inl rfl) zo_44 zk_44 zfl_9_28 (Or.inl rfl) d_Ta_next_106 ?_
    cases h
    exact z_vret C hret ⟨Nat.zero_le _, Nat.zero_le _⟩ d_Ta_next_109
  · refine z_icmp_net C 105 c1 d_Ta_next_95 (by decide) ?_
    refine z_iconst C (0 : Int32) (by decide) d_Ta_next_105 ?_
    refine z_putI C 9 (by decide) 5 (by decide) rfl (Or.inl rfl) zo_44 zk_44 zfl_9_28 (Or.inl rfl) d_Ta_next_106 ?_
    cases h
    exact z_vret C hret ⟨Nat.zero_le _, Nat.zero_le _⟩ d_Ta_next_109
set_option maxRecDepth 100000 in
set_option maxHeartbeats 4000000 in
theorem c_Ta_next_61 {p : Program} {l : Launch} {e : Env} {s : State} {m : MethodId} {args : Array Value} {below : List Frame} {meth : Method} {c : Code} {G : zG} (C : zC p s m args meth c G b_Ta_next 3 y_Ta_next.cls) (hret : meth.sig.returnType = none) {fu : Nat} {S1 : zSt} : ∀ (n : Nat) (a1 : Int32) (a2 : Int32) (S : zSt) , f_Ta_next_61 fu n a1 a2 S = some S1 → zJ p l e rm_Ta_next s m args below meth c G true 3 0 0 (zQm below G args s rm_Ta_next true none S1) S 61 [(0, zr (some 44)), (1, zi a1), (2, zi a2)] [] := by
  intro n
  induction n with
  | zero =>
    intro a1 a2 S h
    cases h
  | succ n ih =>
    intro a1 a2 S h
    rw [f_Ta_next_61] at h
    refine z_iload_n C 1 rfl d_Ta_next_61 rfl ?_
    refine z_iload_n C 2 rfl d_Ta_next_62 rfl ?_
    rcases zite h with ⟨c1, h⟩ | ⟨c1, h⟩
    · refine z_icmp_get C 84 c1 d_Ta_next_63 (by decide) ?_
      refine zq_lsub [0, 1] [(0, zr (some 44)), (1, zi a1)] rfl ?_
      exact c_Ta_next_84 C hret  a1 S h
    · refine z_icmp_gef C 84 c1 d_Ta_next_63 (by decide) ?_
      refine z_aload_n C 0 rfl d_Ta_next_66 rfl ?_
      refine z_iload_n C 1 rfl d_Ta_next_67 rfl ?_
      obtain ⟨r3, h2, h⟩ := zb1_some h
      refine z_cV C 9 (by decide) (m_Ta_kindAt l h2) mf_Ta_kindAt lk_9_34 in_Ta_kindAt se_Ta_kindAt rfl zo_44 zk_44 ⟨rfl, rfl⟩ ⟨by decide, by decide⟩ ⟨Nat.zero_le _, Nat.zero_le _⟩ rfl _ [] rfl (Nat.le_of_ble_eq_true rfl) d_Ta_next_68 ?_
      refine z_aload_n C 0 rfl d_Ta_next_71 rfl ?_
      refine z_getI C 9 (by decide) 4 (by decide) rfl zo_44 zk_44 zfl_9_25 d_Ta_next_72 ?_
      rcases zite h with ⟨c4, h⟩ | ⟨c4, h⟩
      · refine z_icmp_nef C 84 c4 d_Ta_next_75 (by decide) ?_
        refine z_iinc C 1 (a1 + (1 : Int32)) [(1, zi (a1 + (1 : Int32))), (0, zr (some 44)), (2, zi a2)] rfl d_Ta_next_78 (by first | rfl | decide) (by decide) rfl ?_
        refine z_goto C 61 d_Ta_next_81 (by decide) ?_
        refine zq_lsub [1, 0, 2] [(0, zr (some 44)), (1, zi (a1 + (1 : Int32))), (2, zi a2)] rfl ?_
        exact ih (a1 + (1 : Int32)) a2 S h
      · refine z_icmp_net C 84 c4 d_Ta_next_75 (by decide) ?_
        refine zq_lsub [0, 1] [(0, zr (some 44)), (1, zi a1)] rfl ?_
        exact c_Ta_next_84 C hret  a1 S h
set_option maxRecDepth 100000 in
set_option maxHeartbeats 4000000 in
theorem c_Ta_next_28 {p : Program} {l : Launch} {e : Env} {s : State} {m : MethodId} {args : Array Value} {below : List Frame} {meth : Method} {c : Code} {G : zG} (C : zC p s m args meth c G b_Ta_next 3 y_Ta_next.cls) (hret : meth.sig.returnType = none) {fu : Nat} {S1 : zSt} : ∀ (a1 : Int32) (S : zSt) , f_Ta_next_28 fu a1 S = some S1 → zJ p l e rm_Ta_next s m args below meth c G true 3 0 0 (zQm below G args s rm_Ta_next true none S1) S 28 [(0, zr (some 44)), (1, zi a1)] [] := by
  intro a1 S h
  unfold f_Ta_next_28 at h
  refine z_aload_n C 0 rfl d_Ta_next_28 rfl ?_
  refine z_iload_n C 1 rfl d_Ta_next_29 rfl ?_
  refine z_putI C 9 (by decide) 2 (by decide) rfl (Or.inl rfl) zo_44 zk_44 zfl_9_19 (Or.inl rfl) d_Ta_next_30 ?_
  refine z_aload_n C 0 rfl d_Ta_next_33 rfl ?_
  refine z_aload_n C 0 rfl d_Ta_next_34 rfl ?_
  refine z_iload_n C 1 rfl d_Ta_next_35 rfl ?_
  obtain ⟨r2, h1, h⟩ := zb1_some h
  refine z_cV C 9 (by decide) (m_Ta_kindAt l h1) mf_Ta_kindAt lk_9_34 in_Ta_kindAt se_Ta_kindAt rfl zo_44 zk_44 ⟨rfl, rfl⟩ ⟨by decide, by decide⟩ ⟨Nat.zero_le _, Nat.zero_le _⟩ rfl _ [zr (some 44)] rfl (Nat.le_of_ble_eq_true rfl) d_Ta_next_36 ?_
  refine z_putI C 9 (by decide) 4 (by decide) rfl (Or.inl rfl) zo_44 zk_44 zfl_9_25 (Or.inl rfl) d_Ta_next_39 ?_
  refine z_aload_n C 0 rfl d_Ta_next_42 rfl ?_
  refine z_getI C 9 (by decide) 4 (by decide) rfl zo_44 zk_44 zfl_9_25 d_Ta_next_43 ?_
  refine z_iconst C (3 : Int32) (by decide) d_Ta_next_46 ?_
  rcases zite h with ⟨c3, h⟩ | ⟨c3, h⟩
  · refine z_icmp_nef C 56 c3 d_Ta_next_47 (by decide) ?_
    refine z_iload_n C 1 rfl d_Ta_next_50 rfl ?_
    refine z_iconst C (1 : Int32) (by decide) d_Ta_next_51 ?_
    refine z_iadd C d_Ta_next_52 ?_
    refine z_goto C 60 d_Ta_next_53 (by decide) ?_
    refine z_istore_n C [(2, zi (a1 + (1 : Int32))), (0, zr (some 44)), (1, zi a1)] d_Ta_next_60 rfl (by decide) rfl ?_
    refine zq_lsub [1, 2, 0] [(0, zr (some 44)), (1, zi a1), (2, zi (a1 + (1 : Int32)))] rfl ?_
    exact c_Ta_next_61 C hret fu  a1 (a1 + (1 : Int32)) (zwI (zwI S 44 2 a1) 44 4 r2) h
  · refine z_icmp_net C 56 c3 d_Ta_next_47 (by decide) ?_
    refine z_aload_n C 0 rfl d_Ta_next_56 rfl ?_
    refine z_getI C 9 (by decide) 1 (by decide) rfl zo_44 zk_44 zfl_9_15 d_Ta_next_57 ?_
    refine z_istore_n C [(2, zi (zI (zwI (zwI S 44 2 a1) 44 4 r2) 44 1)), (0, zr (some 44)), (1, zi a1)] d_Ta_next_60 rfl (by decide) rfl ?_
    refine zq_lsub [1, 2, 0] [(0, zr (some 44)), (1, zi a1), (2, zi (zI (zwI (zwI S 44 2 a1) 44 4 r2) 44 1))] rfl ?_
    exact c_Ta_next_61 C hret fu  a1 (zI (zwI (zwI S 44 2 a1) 44 4 r2) 44 1) (zwI (zwI S 44 2 a1) 44 4 r2) h
set_option maxRecDepth 100000 in
set_option maxHeartbeats 4000000 in
theorem c_Ta_next_5 {p : Program} {l : Launch} {e : Env} {s : State} {m : MethodId} {args : Array Value} {below : List Frame} {meth : Method} {c : Code} {G : zG} (C : zC p s m args meth c G b_Ta_next 3 y_Ta_next.cls) (hret : meth.sig.returnType = none) {fu : Nat} {S1 : zSt} : ∀ (n : Nat) (a1 : Int32) (S : zSt) , f_Ta_next_5 fu n a1 S = some S1 → zJ p l e rm_Ta_next s m args below meth c G true 3 0 0 (zQm below G args s rm_Ta_next true none S1) S 5 [(0, zr (some 44)), (1, zi a1)] [] := by
  intro n
  induction n with
  | zero =>
    intro a1 S h
    cases h
  | succ n ih =>
    intro a1 S h
    rw [f_Ta_next_5] at h
    refine z_iload_n C 1 rfl d_Ta_next_5 rfl ?_
    refine z_aload_n C 0 rfl d_Ta_next_6 rfl ?_
    refine z_getI C 9 (by decide) 1 (by decide) rfl zo_44 zk_44 zfl_9_15 d_Ta_next_7 ?_
    rcases zite h with ⟨c1, h⟩ | ⟨c1, h⟩
    · refine z_icmp_get C 28 c1 d_Ta_next_10 (by decide) ?_
      refine zq_lsub [0, 1] [(0, zr (some 44)), (1, zi a1)] rfl ?_
      exact c_Ta_next_28 C hret  a1 S h
    · refine z_icmp_gef C 28 c1 d_Ta_next_10 (by decide) ?_
      refine z_aload_n C 0 rfl d_Ta_next_13 rfl ?_
      refine z_iload_n C 1 rfl d_Ta_next_14 rfl ?_
      obtain ⟨r3, h2, h⟩ := zb1_some h
      refine z_cV C 9 (by decide) (m_Ta_kindAt l h2) mf_Ta_kindAt lk_9_34 in_Ta_kindAt se_Ta_kindAt rfl zo_44 zk_44 ⟨rfl, rfl⟩ ⟨by decide, by decide⟩ ⟨Nat.zero_le _, Nat.zero_le _⟩ rfl _ [] rfl (Nat.le_of_ble_eq_true rfl) d_Ta_next_15 ?_
      refine z_iconst C (4 : Int32) (by decide) d_Ta_next_18 ?_
      rcases zite h with ⟨c4, h⟩ | ⟨c4, h⟩
      · refine z_icmp_nef C 28 c4 d_Ta_next_19 (by decide) ?_
        refine z_iinc C 1 (a1 + (1 : Int32)) [(1, zi (a1 + (1 : Int32))), (0, zr (some 44))] rfl d_Ta_next_22 (by first | rfl | decide) (by decide) rfl ?_
        refine z_goto C 5 d_Ta_next_25 (by decide) ?_
        refine zq_lsub [1, 0] [(0, zr (some 44)), (1, zi (a1 + (1 : Int32)))] rfl ?_
        exact ih (a1 + (1 : Int32)) S h
      · refine z_icmp_net C 28 c4 d_Ta_next_19 (by decide) ?_
        refine zq_lsub [0, 1] [(0, zr (some 44)), (1, zi a1)] rfl ?_
        exact c_Ta_next_28 C hret  a1 S h
set_option maxRecDepth 100000 in
set_option maxHeartbeats 4000000 in
theorem m_Ta_next (l : Launch) {fu : Nat} {S : zSt} {S1 : zSt} (h : f_Ta_next fu  S = some S1) : zPM l y_Ta_next b_Ta_next 3 none rm_Ta_next true true [zr (some 44)] S none S1 := by
  refine zPM_of (by decide) (Nat.le_of_ble_eq_true rfl) (fun p e s m args below meth c G C hret hname => ?_)
  unfold f_Ta_next at h
  refine (?_ : zJ p l e rm_Ta_next s m args below meth c G true 3 0 0 (zQm below G args s rm_Ta_next true none S1) S 0 [(0, zr (some 44))] [])
  refine z_aload_n C 0 rfl d_Ta_next_0 rfl ?_
  refine z_getI C 9 (by decide) 3 (by decide) rfl zo_44 zk_44 zfl_9_22 d_Ta_next_1 ?_
  refine z_istore_n C [(1, zi (zI S 44 3)), (0, zr (some 44))] d_Ta_next_4 rfl (by decide) rfl ?_
  refine zq_lsub [1, 0] [(0, zr (some 44)), (1, zi (zI S 44 3))] rfl ?_
  exact c_Ta_next_5 C hret fu  (zI S 44 3) S h
def f_Ta_begin (fu : Nat) (S : zSt) : Option zSt := zb1 (f_Ta_next fu (zwI S 44 3 (0 : Int32))) (fun S2 => some S2)
set_option maxRecDepth 100000 in
set_option maxHeartbeats 4000000 in
theorem m_Ta_begin (l : Launch) {fu : Nat} {S : zSt} {S1 : zSt} (h : f_Ta_begin fu  S = some S1) : zPM l y_Ta_begin b_Ta_begin 1 none rm_Ta_begin true true [zr (some 44)] S none S1 := by
  refine zPM_of (by decide) (Nat.le_of_ble_eq_true rfl) (fun p e s m args below meth c G C hret hname => ?_)
  unfold f_Ta_begin at h
  refine (?_ : zJ p l e rm_Ta_begin s m args below meth c G true 1 0 0 (zQm below G args s rm_Ta_begin true none S1) S 0 [(0, zr (some 44))] [])
  refine z_aload_n C 0 rfl d_Ta_begin_0 rfl ?_
  refine z_iconst C (0 : Int32) (by decide) d_Ta_begin_1 ?_
  refine z_putI C 9 (by decide) 3 (by decide) rfl (Or.inl rfl) zo_44 zk_44 zfl_9_22 (Or.inl rfl) d_Ta_begin_2 ?_
  refine z_aload_n C 0 rfl d_Ta_begin_5 rfl ?_
  obtain ⟨S2, h1, h⟩ := zb1_some h
  refine z_cV C 9 (by decide) (m_Ta_next l h1) mf_Ta_next lk_9_31 in_Ta_next se_Ta_next rfl zo_44 zk_44 ⟨rfl, rfl⟩ ⟨by decide, by decide⟩ ⟨Nat.zero_le _, Nat.zero_le _⟩ rfl _ [] rfl (Nat.le_of_ble_eq_true rfl) d_Ta_begin_6 ?_
  cases h
  exact z_vret C hret ⟨Nat.zero_le _, Nat.zero_le _⟩ d_Ta_begin_9
def f_Ta_isWord_28 (fu : Nat) (a1 : Nat) : Nat → Int32 → zSt → Option Int32
  | 0, _, _ => none
  | n + 1, a2, S => if (zSlen a1) ≤ a2 then some (1 : Int32) else zb1 (f_Ta_byteAt ((zI S 44 2) + a2) S) (fun r3 => zgd (0 ≤ a2 ∧ a2 < zSlen a1) (if r3 = (zSch a1 a2.toNatClampNeg) then f_Ta_isWord_28 fu a1 n (a2 + (1 : Int32)) S else some (0 : Int32)))
def f_Ta_isWord (fu : Nat) (a1 : Nat) (S : zSt) : Option Int32 := if (zI S 44 4) = (1 : Int32) then if ((zI S 44 3) - (zI S 44 2)) = (zSlen a1) then f_Ta_isWord_28 fu a1 fu (0 : Int32) S else some (0 : Int32) else some (0 : Int32)
set_option maxRecDepth 100000 in
set_option maxHeartbeats 4000000 in
theorem c_Ta_isWord_28 {p : Program} {l : Launch} {e : Env} {s : State} {m : MethodId} {args : Array Value} {below : List Frame} {meth : Method} {c : Code} {G : zG} (C : zC p s m args meth c G b_Ta_isWord 3 y_Ta_isWord.cls) (hret : meth.sig.returnType = (some .boolean)) {fu : Nat} {a1 : Nat} {r : Int32} (ga1 : a1 < 25) : ∀ (n : Nat) (a2 : Int32) (S : zSt) , f_Ta_isWord_28 fu a1 n a2 S = some r → zJ p l e rm_Ta_isWord s m args below meth c G true 3 0 0 (zQm below G args s rm_Ta_isWord true (some (zi r)) S) S 28 [(0, zr (some 44)), (1, zr (some (zX + a1))), (2, zi a2)] [] := by
  intro n
  induction n with
  | zero =>
    intro a2 S h
    cases h
  | succ n ih =>
    intro a2 S h
    rw [f_Ta_isWord_28] at h
    refine z_iload_n C 2 rfl d_Ta_isWord_28 rfl ?_
    refine z_aload_n C 1 rfl d_Ta_isWord_29 rfl ?_
    refine z_strlen C ga1 ⟨by decide, by decide⟩ ⟨Nat.zero_le _, Nat.zero_le _⟩ lk_9_42 (Nat.le_of_ble_eq_true rfl) d_Ta_isWord_30 ?_
    rcases zite h with ⟨c1, h⟩ | ⟨c1, h⟩
    · refine z_icmp_get C 62 c1 d_Ta_isWord_33 (by decide) ?_
      refine z_iconst C (1 : Int32) (by decide) d_Ta_isWord_62 ?_
      cases h
      exact z_iret C .boolean hret rfl ⟨Nat.zero_le _, Nat.zero_le _⟩ d_Ta_isWord_63
    · refine z_icmp_gef C 62 c1 d_Ta_isWord_33 (by decide) ?_
      refine z_aload_n C 0 rfl d_Ta_isWord_36 rfl ?_
      refine z_aload_n C 0 rfl d_Ta_isWord_37 rfl ?_
      refine z_getI C 9 (by decide) 2 (by decide) rfl zo_44 zk_44 zfl_9_19 d_Ta_isWord_38 ?_
      refine z_iload_n C 2 rfl d_Ta_isWord_41 rfl ?_
      refine z_iadd C d_Ta_isWord_42 ?_
      obtain ⟨r3, h2, h⟩ := zb1_some h
      refine z_cV C 9 (by decide) (m_Ta_byteAt l h2) mf_Ta_byteAt lk_9_46 in_Ta_byteAt se_Ta_byteAt rfl zo_44 zk_44 ⟨rfl, rfl⟩ ⟨by decide, by decide⟩ ⟨Nat.zero_le _, Nat.zero_le _⟩ rfl _ [] rfl (Nat.le_of_ble_eq_true rfl) d_Ta_isWord_43 ?_
      refine z_aload_n C 1 rfl d_Ta_isWord_46 rfl ?_
      refine z_iload_n C 2 rfl d_Ta_isWord_47 rfl ?_
      obtain ⟨g4, h⟩ := zgd_some h
      refine z_strch C ga1 g4 ⟨by decide, by decide⟩ ⟨Nat.zero_le _, Nat.zero_le _⟩ lk_9_49 (Nat.le_of_ble_eq_true rfl) d_Ta_isWord_48 ?_
      rcases zite h with ⟨c5, h⟩ | ⟨c5, h⟩
      · refine z_icmp_eqt C 56 c5 d_Ta_isWord_51 (by decide) ?_
        refine z_iinc C 2 (a2 + (1 : Int32)) [(2, zi (a2 + (1 : Int32))), (0, zr (some 44)), (1, zr (some (zX + a1)))] rfl d_Ta_isWord_56 (by first | rfl | decide) (by decide) rfl ?_
        refine z_goto C 28 d_Ta_isWord_59 (by decide) ?_
        refine zq_lsub [1, 2, 0] [(0, zr (some 44)), (1, zr (some (zX + a1))), (2, zi (a2 + (1 : Int32)))] rfl ?_
        exact ih (a2 + (1 : Int32)) S h
      · refine z_icmp_eqf C 56 c5 d_Ta_isWord_51 (by decide) ?_
        refine z_iconst C (0 : Int32) (by decide) d_Ta_isWord_54 ?_
        cases h
        exact z_iret C .boolean hret rfl ⟨Nat.zero_le _, Nat.zero_le _⟩ d_Ta_isWord_55
set_option maxRecDepth 100000 in
set_option maxHeartbeats 4000000 in
theorem m_Ta_isWord (l : Launch) {fu : Nat} {a1 : Nat} {S : zSt} {r : Int32} (ga1 : a1 < 25) (h : f_Ta_isWord fu a1  S = some r) : zPM l y_Ta_isWord b_Ta_isWord 3 (some .boolean) rm_Ta_isWord true true [zr (some 44), zr (some (zX + a1))] S (some (zi r)) S := by
  refine zPM_of (by decide) (Nat.le_of_ble_eq_true rfl) (fun p e s m args below meth c G C hret hname => ?_)
  unfold f_Ta_isWord at h
  refine (?_ : zJ p l e rm_Ta_isWord s m args below meth c G true 3 0 0 (zQm below G args s rm_Ta_isWord true (some (zi r)) S) S 0 [(0, zr (some 44)), (1, zr (some (zX + a1)))] [])
  refine z_aload_n C 0 rfl d_Ta_isWord_0 rfl ?_
  refine z_getI C 9 (by decide) 4 (by decide) rfl zo_44 zk_44 zfl_9_25 d_Ta_isWord_1 ?_
  refine z_iconst C (1 : Int32) (by decide) d_Ta_isWord_4 ?_
  rcases zite h with ⟨c1, h⟩ | ⟨c1, h⟩
  · refine z_icmp_nef C 24 c1 d_Ta_isWord_5 (by decide) ?_
    refine z_aload_n C 0 rfl d_Ta_isWord_8 rfl ?_
    refine z_getI C 9 (by decide) 3 (by decide) rfl zo_44 zk_44 zfl_9_22 d_Ta_isWord_9 ?_
    refine z_aload_n C 0 rfl d_Ta_isWord_12 rfl ?_
    refine z_getI C 9 (by decide) 2 (by decide) rfl zo_44 zk_44 zfl_9_19 d_Ta_isWord_13 ?_
    refine z_isub C d_Ta_isWord_16 ?_
    refine z_aload_n C 1 rfl d_Ta_isWord_17 rfl ?_
    refine z_strlen C ga1 ⟨by decide, by decide⟩ ⟨Nat.zero_le _, Nat.zero_le _⟩ lk_9_42 (Nat.le_of_ble_eq_true rfl) d_Ta_isWord_18 ?_
    rcases zite h with ⟨c2, h⟩ | ⟨c2, h⟩
    · refine z_icmp_eqt C 26 c2 d_Ta_isWord_21 (by decide) ?_
      refine z_iconst C (0 : Int32) (by decide) d_Ta_isWord_26 ?_
      refine z_istore_n C [(2, zi (0 : Int32)), (0, zr (some 44)), (1, zr (some (zX + a1)))] d_Ta_isWord_27 rfl (by decide) rfl ?_
      refine zq_lsub [1, 2, 0] [(0, zr (some 44)), (1, zr (some (zX + a1))), (2, zi (0 : Int32))] rfl ?_
      exact c_Ta_isWord_28 C hret ga1 fu  (0 : Int32) S h
    · refine z_icmp_eqf C 26 c2 d_Ta_isWord_21 (by decide) ?_
      refine z_iconst C (0 : Int32) (by decide) d_Ta_isWord_24 ?_
      cases h
      exact z_iret C .boolean hret rfl ⟨Nat.zero_le _, Nat.zero_le _⟩ d_Ta_isWord_25
  · refine z_icmp_net C 24 c1 d_Ta_isWord_5 (by decide) ?_
    refine z_iconst C (0 : Int32) (by decide) d_Ta_isWord_24 ?_
    cases h
    exact z_iret C .boolean hret rfl ⟨Nat.zero_le _, Nat.zero_le _⟩ d_Ta_isWord_25
def f_Ta_takeWord (fu : Nat) (a1 : Nat) (S : zSt) : Option (Int32 × zSt) := zb1 (f_Ta_isWord fu a1 S) (fun r2 => if r2 = 0 then zgd (r2 = 0 ∨ r2 = 1) (some (r2, S)) else zb1 (f_Ta_next fu S) (fun S6 => zgd (r2 = 0 ∨ r2 = 1) (some (r2, S6))))
set_option maxRecDepth 100000 in
set_option maxHeartbeats 4000000 in
theorem m_Ta_takeWord (l : Launch) {fu : Nat} {a1 : Nat} {S : zSt} {r : Int32} {S1 : zSt} (ga1 : a1 < 25) (h : f_Ta_takeWord fu a1  S = some (r, S1)) : zPM l y_Ta_takeWord b_Ta_takeWord 3 (some .boolean) rm_Ta_takeWord true true [zr (some 44), zr (some (zX + a1))] S (some (zi r)) S1 := by
  refine zPM_of (by decide) (Nat.le_of_ble_eq_true rfl) (fun p e s m args below meth c G C hret hname => ?_)
  unfold f_Ta_takeWord at h
  refine (?_ : zJ p l e rm_Ta_takeWord s m args below meth c G true 3 0 0 (zQm below G args s rm_Ta_takeWord true (some (zi r)) S1) S 0 [(0, zr (some 44)), (1, zr (some (zX + a1)))] [])
  refine z_aload_n C 0 rfl d_Ta_takeWord_0 rfl ?_
  refine z_aload_n C 1 rfl d_Ta_takeWord_1 rfl ?_
  obtain ⟨r2, h1, h⟩ := zb1_some h
  refine z_cV C 9 (by decide) (m_Ta_isWord l ga1 h1) mf_Ta_isWord lk_9_53 in_Ta_isWord se_Ta_isWord rfl zo_44 zk_44 ⟨rfl, rfl⟩ ⟨by decide, by decide⟩ ⟨Nat.zero_le _, Nat.zero_le _⟩ rfl _ [] rfl (Nat.le_of_ble_eq_true rfl) d_Ta_takeWord_2 ?_
  refine z_istore_n C [(2, zi r2), (0, zr (some 44)), (1, zr (some (zX + a1)))] d_Ta_takeWord_5 rfl (by decide) rfl ?_
  refine z_iload_n C 0 rfl d_Ta_takeWord_6 rfl ?_
  rcases zite h with ⟨c3, h⟩ | ⟨c3, h⟩
  · refine z_if_eqt C 14 c3 d_Ta_takeWord_7 (by decide) ?_
    refine z_iload_n C 0 rfl d_Ta_takeWord_14 rfl ?_
    obtain ⟨g4, h⟩ := zgd_some h
    cases h
    exact z_iret C .boolean hret (by rcases g4 with e | e <;> rw [e] <;> rfl) ⟨Nat.zero_le _, Nat.zero_le _⟩ d_Ta_takeWord_15
  · refine z_if_eqf C 14 c3 d_Ta_takeWord_7 (by decide) ?_
    refine z_aload_n C 1 rfl d_Ta_takeWord_10 rfl ?_
    obtain ⟨S6, h5, h⟩ := zb1_some h
    refine z_cV C 9 (by decide) (m_Ta_next l h5) mf_Ta_next lk_9_31 in_Ta_next se_Ta_next rfl zo_44 zk_44 ⟨rfl, rfl⟩ ⟨by decide, by decide⟩ ⟨Nat.zero_le _, Nat.zero_le _⟩ rfl _ [] rfl (Nat.le_of_ble_eq_true rfl) d_Ta_takeWord_11 ?_
    refine z_iload_n C 0 rfl d_Ta_takeWord_14 rfl ?_
    obtain ⟨g7, h⟩ := zgd_some h
    cases h
    exact z_iret C .boolean hret (by rcases g7 with e | e <;> rw [e] <;> rfl) ⟨Nat.zero_le _, Nat.zero_le _⟩ d_Ta_takeWord_15
def f_Re_takeOrder (fu : Nat) (S : zSt) : Option (Int32 × zSt) := zb2 (f_Ta_takeWord fu 0 S) (fun r2 S3 => if r2 = 0 then zb2 (f_Ta_takeWord fu 1 S3) (fun r6 S7 => if r6 = 0 then zb2 (f_Ta_takeWord fu 2 S7) (fun r10 S11 => if r10 = 0 then zb2 (f_Ta_takeWord fu 3 S11) (fun r14 S15 => if r14 = 0 then some ((-1 : Int32), S15) else some ((3 : Int32), S15)) else some ((2 : Int32), S11)) else some ((1 : Int32), S7)) else some ((0 : Int32), S3))
set_option maxRecDepth 100000 in
set_option maxHeartbeats 4000000 in
theorem m_Re_takeOrder (l : Launch) {fu : Nat} {S : zSt} {r : Int32} {S1 : zSt} (h : f_Re_takeOrder fu  S = some (r, S1)) : zPM l y_Re_takeOrder b_Re_takeOrder 1 (some .int) rm_Re_takeOrder true true [zr (some 44)] S (some (zi r)) S1 := by
  refine zPM_of (by decide) (Nat.le_of_ble_eq_true rfl) (fun p e s m args below meth c G C hret hname => ?_)
  unfold f_Re_takeOrder at h
  refine (?_ : zJ p l e rm_Re_takeOrder s m args below meth c G true 1 0 0 (zQm below G args s rm_Re_takeOrder true (some (zi r)) S1) S 0 [(0, zr (some 44))] [])
  refine z_aload_n C 0 rfl d_Re_takeOrder_0 rfl ?_
  refine z_ldcS C 0 (by decide) rfl rfl d_Re_takeOrder_1 ?_
  obtain ⟨r2, S3, h1, h⟩ := zb2_some h
  refine z_cV C 9 (by decide) (m_Ta_takeWord l (by decide) h1) mf_Ta_takeWord lk_6_71 in_Ta_takeWord se_Ta_takeWord rfl zo_44 zk_44 ⟨rfl, rfl⟩ ⟨by decide, by decide⟩ ⟨Nat.zero_le _, Nat.zero_le _⟩ rfl _ [] rfl (Nat.le_of_ble_eq_true rfl) d_Re_takeOrder_3 ?_
  rcases zite h with ⟨c4, h⟩ | ⟨c4, h⟩
  · refine z_if_eqt C 11 c4 d_Re_takeOrder_6 (by decide) ?_
    refine z_aload_n C 0 rfl d_Re_takeOrder_11 rfl ?_
    refine z_ldcS C 1 (by decide) rfl rfl d_Re_takeOrder_12 ?_
    obtain ⟨r6, S7, h5, h⟩ := zb2_some h
    refine z_cV C 9 (by decide) (m_Ta_takeWord l (by decide) h5) mf_Ta_takeWord lk_6_71 in_Ta_takeWord se_Ta_takeWord rfl zo_44 zk_44 ⟨rfl, rfl⟩ ⟨by decide, by decide⟩ ⟨Nat.zero_le _, Nat.zero_le _⟩ rfl _ [] rfl (Nat.le_of_ble_eq_true rfl) d_Re_takeOrder_14 ?_
    rcases zite h with ⟨c8, h⟩ | ⟨c8, h⟩
    · refine z_if_eqt C 22 c8 d_Re_takeOrder_17 (by decide) ?_
      refine z_aload_n C 0 rfl d_Re_takeOrder_22 rfl ?_
      refine z_ldcS C 2 (by decide) rfl rfl d_Re_takeOrder_23 ?_
      obtain ⟨r10, S11, h9, h⟩ := zb2_some h
      refine z_cV C 9 (by decide) (m_Ta_takeWord l (by decide) h9) mf_Ta_takeWord lk_6_71 in_Ta_takeWord se_Ta_takeWord rfl zo_44 zk_44 ⟨rfl, rfl⟩ ⟨by decide, by decide⟩ ⟨Nat.zero_le _, Nat.zero_le _⟩ rfl _ [] rfl (Nat.le_of_ble_eq_true rfl) d_Re_takeOrder_25 ?_
      rcases zite h with ⟨c12, h⟩ | ⟨c12, h⟩
      · refine z_if_eqt C 33 c12 d_Re_takeOrder_28 (by decide) ?_
        refine z_aload_n C 0 rfl d_Re_takeOrder_33 rfl ?_
        refine z_ldcS C 3 (by decide) rfl rfl d_Re_takeOrder_34 ?_
        obtain ⟨r14, S15, h13, h⟩ := zb2_some h
        refine z_cV C 9 (by decide) (m_Ta_takeWord l (by decide) h13) mf_Ta_takeWord lk_6_71 in_Ta_takeWord se_Ta_takeWord rfl zo_44 zk_44 ⟨rfl, rfl⟩ ⟨by decide, by decide⟩ ⟨Nat.zero_le _, Nat.zero_le _⟩ rfl _ [] rfl (Nat.le_of_ble_eq_true rfl) d_Re_takeOrder_36 ?_
        rcases zite h with ⟨c16, h⟩ | ⟨c16, h⟩
        · refine z_if_eqt C 46 c16 d_Re_takeOrder_39 (by decide) ?_
          refine z_iconst C (-1 : Int32) (by decide) d_Re_takeOrder_46 ?_
          cases h
          exact z_iret C .int hret rfl ⟨Nat.zero_le _, Nat.zero_le _⟩ d_Re_takeOrder_47
        · refine z_if_eqf C 46 c16 d_Re_takeOrder_39 (by decide) ?_
          refine z_iconst C (3 : Int32) (by decide) d_Re_takeOrder_42 ?_
          refine z_goto C 47 d_Re_takeOrder_43 (by decide) ?_
          cases h
          exact z_iret C .int hret rfl ⟨Nat.zero_le _, Nat.zero_le _⟩ d_Re_takeOrder_47
      · refine z_if_eqf C 33 c12 d_Re_takeOrder_28 (by decide) ?_
        refine z_iconst C (2 : Int32) (by decide) d_Re_takeOrder_31 ?_
        cases h
        exact z_iret C .int hret rfl ⟨Nat.zero_le _, Nat.zero_le _⟩ d_Re_takeOrder_32
    · refine z_if_eqf C 22 c8 d_Re_takeOrder_17 (by decide) ?_
      refine z_iconst C (1 : Int32) (by decide) d_Re_takeOrder_20 ?_
      cases h
      exact z_iret C .int hret rfl ⟨Nat.zero_le _, Nat.zero_le _⟩ d_Re_takeOrder_21
  · refine z_if_eqf C 11 c4 d_Re_takeOrder_6 (by decide) ?_
    refine z_iconst C (0 : Int32) (by decide) d_Re_takeOrder_9 ?_
    cases h
    exact z_iret C .int hret rfl ⟨Nat.zero_le _, Nat.zero_le _⟩ d_Re_takeOrder_10
def f_Re_takeLaw (fu : Nat) (S : zSt) : Option (Int32 × zSt) := zb2 (f_Ta_takeWord fu 4 S) (fun r2 S3 => if r2 = 0 then zb2 (f_Ta_takeWord fu 5 S3) (fun r6 S7 => if r6 = 0 then zb2 (f_Ta_takeWord fu 6 S7) (fun r10 S11 => if r10 = 0 then zb2 (f_Ta_takeWord fu 7 S11) (fun r14 S15 => if r14 = 0 then some ((-1 : Int32), S15) else some ((3 : Int32), S15)) else some ((2 : Int32), S11)) else some ((1 : Int32), S7)) else some ((0 : Int32), S3))
set_option maxRecDepth 100000 in
set_option maxHeartbeats 4000000 in
theorem m_Re_takeLaw (l : Launch) {fu : Nat} {S : zSt} {r : Int32} {S1 : zSt} (h : f_Re_takeLaw fu  S = some (r, S1)) : zPM l y_Re_takeLaw b_Re_takeLaw 1 (some .int) rm_Re_takeLaw true true [zr (some 44)] S (some (zi r)) S1 := by
  refine zPM_of (by decide) (Nat.le_of_ble_eq_true rfl) (fun p e s m args below meth c G C hret hname => ?_)
  unfold f_Re_takeLaw at h
  refine (?_ : zJ p l e rm_Re_takeLaw s m args below meth c G true 1 0 0 (zQm below G args s rm_Re_takeLaw true (some (zi r)) S1) S 0 [(0, zr (some 44))] [])
  refine z_aload_n C 0 rfl d_Re_takeLaw_0 rfl ?_
  refine z_ldcS C 4 (by decide) rfl rfl d_Re_takeLaw_1 ?_
  obtain ⟨r2, S3, h1, h⟩ := zb2_some h
  refine z_cV C 9 (by decide) (m_Ta_takeWord l (by decide) h1) mf_Ta_takeWord lk_6_71 in_Ta_takeWord se_Ta_takeWord rfl zo_44 zk_44 ⟨rfl, rfl⟩ ⟨by decide, by decide⟩ ⟨Nat.zero_le _, Nat.zero_le _⟩ rfl _ [] rfl (Nat.le_of_ble_eq_true rfl) d_Re_takeLaw_3 ?_
  rcases zite h with ⟨c4, h⟩ | ⟨c4, h⟩
  · refine z_if_eqt C 11 c4 d_Re_takeLaw_6 (by decide) ?_
    refine z_aload_n C 0 rfl d_Re_takeLaw_11 rfl ?_
    refine z_ldcS C 5 (by decide) rfl rfl d_Re_takeLaw_12 ?_
    obtain ⟨r6, S7, h5, h⟩ := zb2_some h
    refine z_cV C 9 (by decide) (m_Ta_takeWord l (by decide) h5) mf_Ta_takeWord lk_6_71 in_Ta_takeWord se_Ta_takeWord rfl zo_44 zk_44 ⟨rfl, rfl⟩ ⟨by decide, by decide⟩ ⟨Nat.zero_le _, Nat.zero_le _⟩ rfl _ [] rfl (Nat.le_of_ble_eq_true rfl) d_Re_takeLaw_14 ?_
    rcases zite h with ⟨c8, h⟩ | ⟨c8, h⟩
    · refine z_if_eqt C 22 c8 d_Re_takeLaw_17 (by decide) ?_
      refine z_aload_n C 0 rfl d_Re_takeLaw_22 rfl ?_
      refine z_ldcS C 6 (by decide) rfl rfl d_Re_takeLaw_23 ?_
      obtain ⟨r10, S11, h9, h⟩ := zb2_some h
      refine z_cV C 9 (by decide) (m_Ta_takeWord l (by decide) h9) mf_Ta_takeWord lk_6_71 in_Ta_takeWord se_Ta_takeWord rfl zo_44 zk_44 ⟨rfl, rfl⟩ ⟨by decide, by decide⟩ ⟨Nat.zero_le _, Nat.zero_le _⟩ rfl _ [] rfl (Nat.le_of_ble_eq_true rfl) d_Re_takeLaw_25 ?_
      rcases zite h with ⟨c12, h⟩ | ⟨c12, h⟩
      · refine z_if_eqt C 33 c12 d_Re_takeLaw_28 (by decide) ?_
        refine z_aload_n C 0 rfl d_Re_takeLaw_33 rfl ?_
        refine z_ldcS C 7 (by decide) rfl rfl d_Re_takeLaw_34 ?_
        obtain ⟨r14, S15, h13, h⟩ := zb2_some h
        refine z_cV C 9 (by decide) (m_Ta_takeWord l (by decide) h13) mf_Ta_takeWord lk_6_71 in_Ta_takeWord se_Ta_takeWord rfl zo_44 zk_44 ⟨rfl, rfl⟩ ⟨by decide, by decide⟩ ⟨Nat.zero_le _, Nat.zero_le _⟩ rfl _ [] rfl (Nat.le_of_ble_eq_true rfl) d_Re_takeLaw_36 ?_
        rcases zite h with ⟨c16, h⟩ | ⟨c16, h⟩
        · refine z_if_eqt C 46 c16 d_Re_takeLaw_39 (by decide) ?_
          refine z_iconst C (-1 : Int32) (by decide) d_Re_takeLaw_46 ?_
          cases h
          exact z_iret C .int hret rfl ⟨Nat.zero_le _, Nat.zero_le _⟩ d_Re_takeLaw_47
        · refine z_if_eqf C 46 c16 d_Re_takeLaw_39 (by decide) ?_
          refine z_iconst C (3 : Int32) (by decide) d_Re_takeLaw_42 ?_
          refine z_goto C 47 d_Re_takeLaw_43 (by decide) ?_
          cases h
          exact z_iret C .int hret rfl ⟨Nat.zero_le _, Nat.zero_le _⟩ d_Re_takeLaw_47
      · refine z_if_eqf C 33 c12 d_Re_takeLaw_28 (by decide) ?_
        refine z_iconst C (2 : Int32) (by decide) d_Re_takeLaw_31 ?_
        cases h
        exact z_iret C .int hret rfl ⟨Nat.zero_le _, Nat.zero_le _⟩ d_Re_takeLaw_32
    · refine z_if_eqf C 22 c8 d_Re_takeLaw_17 (by decide) ?_
      refine z_iconst C (1 : Int32) (by decide) d_Re_takeLaw_20 ?_
      cases h
      exact z_iret C .int hret rfl ⟨Nat.zero_le _, Nat.zero_le _⟩ d_Re_takeLaw_21
  · refine z_if_eqf C 11 c4 d_Re_takeLaw_6 (by decide) ?_
    refine z_iconst C (0 : Int32) (by decide) d_Re_takeLaw_9 ?_
    cases h
    exact z_iret C .int hret rfl ⟨Nat.zero_le _, Nat.zero_le _⟩ d_Re_takeLaw_10
def f_Tx_begin (a0 : Nat) (a1 : Int32) (S : zSt) : Option zSt := if (zI S a0 2) < 0 then some S else if (12 : Int32) ≤ (zI S a0 2) then some S else zgd (0 ≤ (zI S a0 2) ∧ (zI S a0 2).toNatClampNeg < 12) (zgd (0 ≤ (zI (zwI S (a0 + 1) (zI S a0 2).toNatClampNeg a1) a0 2) ∧ (zI (zwI S (a0 + 1) (zI S a0 2).toNatClampNeg a1) a0 2).toNatClampNeg < 12) (some (zwI (zwI (zwI S (a0 + 1) (zI S a0 2).toNatClampNeg a1) (a0 + 2) (zI (zwI S (a0 + 1) (zI S a0 2).toNatClampNeg a1) a0 2).toNatClampNeg (1 : Int32)) a0 2 ((zI (zwI (zwI S (a0 + 1) (zI S a0 2).toNatClampNeg a1) (a0 + 2) (zI (zwI S (a0 + 1) (zI S a0 2).toNatClampNeg a1) a0 2).toNatClampNeg (1 : Int32)) a0 2) + (1 : Int32)))))
set_option maxRecDepth 100000 in
set_option maxHeartbeats 4000000 in
theorem m_Tx_begin (l : Launch) {a0 : Nat} {a1 : Int32} {S : zSt} {S1 : zSt} (ha0 : zK a0 = 10) (ga0 : a0 < zN S) (h : f_Tx_begin a0 a1 S = some S1) : zPM l y_Tx_begin b_Tx_begin 2 none rm_Tx_begin true true [zr (some a0), zi a1] S none S1 := by
  refine zPM_of (by decide) (Nat.le_of_ble_eq_true rfl) (fun p e s m args below meth c G C hret hname => ?_)
  unfold f_Tx_begin at h
  refine (?_ : zJ p l e rm_Tx_begin s m args below meth c G true 2 0 0 (zQm below G args s rm_Tx_begin true none S1) S 0 [(0, zr (some a0)), (1, zi a1)] [])
  refine z_aload_n C 0 rfl d_Tx_begin_0 rfl ?_
  refine z_getI C 10 (by decide) 2 (by decide) rfl (Or.inr ga0) ha0 zfl_10_15 d_Tx_begin_1 ?_
  rcases zite h with ⟨c1, h⟩ | ⟨c1, h⟩
  · refine z_if_ltt C 46 c1 d_Tx_begin_4 (by decide) ?_
    cases h
    exact z_vret C hret ⟨Nat.zero_le _, Nat.zero_le _⟩ d_Tx_begin_46
  · refine z_if_ltf C 46 c1 d_Tx_begin_4 (by decide) ?_
    refine z_aload_n C 0 rfl d_Tx_begin_7 rfl ?_
    refine z_getI C 10 (by decide) 2 (by decide) rfl (Or.inr ga0) ha0 zfl_10_15 d_Tx_begin_8 ?_
    refine z_bipush C (12 : Int32) (by decide) d_Tx_begin_11 ?_
    rcases zite h with ⟨c2, h⟩ | ⟨c2, h⟩
    · refine z_icmp_get C 46 c2 d_Tx_begin_13 (by decide) ?_
      cases h
      exact z_vret C hret ⟨Nat.zero_le _, Nat.zero_le _⟩ d_Tx_begin_46
    · refine z_icmp_gef C 46 c2 d_Tx_begin_13 (by decide) ?_
      refine z_aload_n C 0 rfl d_Tx_begin_16 rfl ?_
      refine z_getF2 C 10 (by decide) 4 (by decide) rfl 1 12 rfl (a0 + 1) rfl (Or.inr ga0) ha0 zfl_10_22 d_Tx_begin_17 ?_
      refine z_aload_n C 0 rfl d_Tx_begin_20 rfl ?_
      refine z_getI C 10 (by decide) 2 (by decide) rfl (Or.inr ga0) ha0 zfl_10_15 d_Tx_begin_21 ?_
      refine z_iload_n C 1 rfl d_Tx_begin_24 rfl ?_
      refine z_fact (fun hSR => ?_)
      obtain ⟨g3, h⟩ := zgd_some h
      refine z_iastoreS C (Or.inr (ztx_1 hSR ha0 ga0).1) (ztk_1 ha0) (ztx_1 hSR ha0 ga0).2 g3 d_Tx_begin_25 ?_
      refine z_aload_n C 0 rfl d_Tx_begin_26 rfl ?_
      refine z_getF2 C 10 (by decide) 5 (by decide) rfl 2 12 rfl (a0 + 2) rfl (Or.inr ga0) ha0 zfl_10_26 d_Tx_begin_27 ?_
      refine z_aload_n C 0 rfl d_Tx_begin_30 rfl ?_
      refine z_getI C 10 (by decide) 2 (by decide) rfl (Or.inr ga0) ha0 zfl_10_15 d_Tx_begin_31 ?_
      refine z_iconst C (1 : Int32) (by decide) d_Tx_begin_34 ?_
      refine z_fact (fun hSR => ?_)
      obtain ⟨g4, h⟩ := zgd_some h
      refine z_iastoreS C (Or.inr (ztx_2 hSR ha0 ga0).1) (ztk_2 ha0) (ztx_2 hSR ha0 ga0).2 g4 d_Tx_begin_35 ?_
      refine z_aload_n C 0 rfl d_Tx_begin_36 rfl ?_
      refine z_dup C rfl d_Tx_begin_37 ?_
      refine z_getI C 10 (by decide) 2 (by decide) rfl (Or.inr ga0) ha0 zfl_10_15 d_Tx_begin_38 ?_
      refine z_iconst C (1 : Int32) (by decide) d_Tx_begin_41 ?_
      refine z_iadd C d_Tx_begin_42 ?_
      refine z_putI C 10 (by decide) 2 (by decide) rfl (Or.inl rfl) (Or.inr ga0) ha0 zfl_10_15 (Or.inl rfl) d_Tx_begin_43 ?_
      cases h
      exact z_vret C hret ⟨Nat.zero_le _, Nat.zero_le _⟩ d_Tx_begin_46
def f_Re_sumsOfOrder (a0 : Int32) : Option Int32 := if a0 = (3 : Int32) then some (0 : Int32) else if a0 = 0 then some (1 : Int32) else some (2 : Int32)
set_option maxRecDepth 100000 in
set_option maxHeartbeats 4000000 in
theorem m_Re_sumsOfOrder (l : Launch) {a0 : Int32} {S : zSt} {r : Int32} (h : f_Re_sumsOfOrder a0 = some r) : zPM l y_Re_sumsOfOrder b_Re_sumsOfOrder 1 (some .int) rm_Re_sumsOfOrder true true [zi a0] S (some (zi r)) S := by
  refine zPM_of (by decide) (Nat.le_of_ble_eq_true rfl) (fun p e s m args below meth c G C hret hname => ?_)
  unfold f_Re_sumsOfOrder at h
  refine (?_ : zJ p l e rm_Re_sumsOfOrder s m args below meth c G true 1 0 0 (zQm below G args s rm_Re_sumsOfOrder true (some (zi r)) S) S 0 [(0, zi a0)] [])
  refine z_iload_n C 0 rfl d_Re_sumsOfOrder_0 rfl ?_
  refine z_iconst C (3 : Int32) (by decide) d_Re_sumsOfOrder_1 ?_
  rcases zite h with ⟨c1, h⟩ | ⟨c1, h⟩
  · refine z_icmp_nef C 7 c1 d_Re_sumsOfOrder_2 (by decide) ?_
    refine z_iconst C (0 : Int32) (by decide) d_Re_sumsOfOrder_5 ?_
    cases h
    exact z_iret C .int hret rfl ⟨Nat.zero_le _, Nat.zero_le _⟩ d_Re_sumsOfOrder_6
  · refine z_icmp_net C 7 c1 d_Re_sumsOfOrder_2 (by decide) ?_
    refine z_iload_n C 0 rfl d_Re_sumsOfOrder_7 rfl ?_
    rcases zite h with ⟨c2, h⟩ | ⟨c2, h⟩
    · refine z_if_nef C 15 c2 d_Re_sumsOfOrder_8 (by decide) ?_
      refine z_iconst C (1 : Int32) (by decide) d_Re_sumsOfOrder_11 ?_
      refine z_goto C 16 d_Re_sumsOfOrder_12 (by decide) ?_
      cases h
      exact z_iret C .int hret rfl ⟨Nat.zero_le _, Nat.zero_le _⟩ d_Re_sumsOfOrder_16
    · refine z_if_net C 15 c2 d_Re_sumsOfOrder_8 (by decide) ?_
      refine z_iconst C (2 : Int32) (by decide) d_Re_sumsOfOrder_15 ?_
      cases h
      exact z_iret C .int hret rfl ⟨Nat.zero_le _, Nat.zero_le _⟩ d_Re_sumsOfOrder_16
def f_Re_sumsOfLaw (a0 : Int32) : Option Int32 := if a0 = (3 : Int32) then some (0 : Int32) else some (1 : Int32)
set_option maxRecDepth 100000 in
set_option maxHeartbeats 4000000 in
theorem m_Re_sumsOfLaw (l : Launch) {a0 : Int32} {S : zSt} {r : Int32} (h : f_Re_sumsOfLaw a0 = some r) : zPM l y_Re_sumsOfLaw b_Re_sumsOfLaw 1 (some .int) rm_Re_sumsOfLaw true true [zi a0] S (some (zi r)) S := by
  refine zPM_of (by decide) (Nat.le_of_ble_eq_true rfl) (fun p e s m args below meth c G C hret hname => ?_)
  unfold f_Re_sumsOfLaw at h
  refine (?_ : zJ p l e rm_Re_sumsOfLaw s m args below meth c G true 1 0 0 (zQm below G args s rm_Re_sumsOfLaw true (some (zi r)) S) S 0 [(0, zi a0)] [])
  refine z_iload_n C 0 rfl d_Re_sumsOfLaw_0 rfl ?_
  refine z_iconst C (3 : Int32) (by decide) d_Re_sumsOfLaw_1 ?_
  rcases zite h with ⟨c1, h⟩ | ⟨c1, h⟩
  · refine z_icmp_nef C 9 c1 d_Re_sumsOfLaw_2 (by decide) ?_
    refine z_iconst C (0 : Int32) (by decide) d_Re_sumsOfLaw_5 ?_
    refine z_goto C 10 d_Re_sumsOfLaw_6 (by decide) ?_
    cases h
    exact z_iret C .int hret rfl ⟨Nat.zero_le _, Nat.zero_le _⟩ d_Re_sumsOfLaw_10
  · refine z_icmp_net C 9 c1 d_Re_sumsOfLaw_2 (by decide) ?_
    refine z_iconst C (1 : Int32) (by decide) d_Re_sumsOfLaw_9 ?_
    cases h
    exact z_iret C .int hret rfl ⟨Nat.zero_le _, Nat.zero_le _⟩ d_Re_sumsOfLaw_10
def f_Tx_start (a0 : Nat) (a1 : Int32) (S : zSt) : Option zSt := if ((((zI S a0 2) - (1 : Int32)) * (3 : Int32)) + a1) < 0 then some S else if (36 : Int32) ≤ ((((zI S a0 2) - (1 : Int32)) * (3 : Int32)) + a1) then some S else zgd (0 ≤ ((((zI S a0 2) - (1 : Int32)) * (3 : Int32)) + a1) ∧ ((((zI S a0 2) - (1 : Int32)) * (3 : Int32)) + a1).toNatClampNeg < 36) (some (zwI S (a0 + 3) ((((zI S a0 2) - (1 : Int32)) * (3 : Int32)) + a1).toNatClampNeg (zI S a0 1)))
set_option maxRecDepth 100000 in
set_option maxHeartbeats 4000000 in
theorem m_Tx_start (l : Launch) {a0 : Nat} {a1 : Int32} {S : zSt} {S1 : zSt} (ha0 : zK a0 = 10) (ga0 : a0 < zN S) (h : f_Tx_start a0 a1 S = some S1) : zPM l y_Tx_start b_Tx_start 3 none rm_Tx_start true true [zr (some a0), zi a1] S none S1 := by
  refine zPM_of (by decide) (Nat.le_of_ble_eq_true rfl) (fun p e s m args below meth c G C hret hname => ?_)
  unfold f_Tx_start at h
  refine (?_ : zJ p l e rm_Tx_start s m args below meth c G true 3 0 0 (zQm below G args s rm_Tx_start true none S1) S 0 [(0, zr (some a0)), (1, zi a1)] [])
  refine z_aload_n C 0 rfl d_Tx_start_0 rfl ?_
  refine z_getI C 10 (by decide) 2 (by decide) rfl (Or.inr ga0) ha0 zfl_10_15 d_Tx_start_1 ?_
  refine z_iconst C (1 : Int32) (by decide) d_Tx_start_4 ?_
  refine z_isub C d_Tx_start_5 ?_
  refine z_iconst C (3 : Int32) (by decide) d_Tx_start_6 ?_
  refine z_imul C d_Tx_start_7 ?_
  refine z_iload_n C 1 rfl d_Tx_start_8 rfl ?_
  refine z_iadd C d_Tx_start_9 ?_
  refine z_istore_n C [(2, zi ((((zI S a0 2) - (1 : Int32)) * (3 : Int32)) + a1)), (0, zr (some a0)), (1, zi a1)] d_Tx_start_10 rfl (by decide) rfl ?_
  refine z_iload_n C 0 rfl d_Tx_start_11 rfl ?_
  rcases zite h with ⟨c1, h⟩ | ⟨c1, h⟩
  · refine z_if_ltt C 34 c1 d_Tx_start_12 (by decide) ?_
    cases h
    exact z_vret C hret ⟨Nat.zero_le _, Nat.zero_le _⟩ d_Tx_start_34
  · refine z_if_ltf C 34 c1 d_Tx_start_12 (by decide) ?_
    refine z_iload_n C 0 rfl d_Tx_start_15 rfl ?_
    refine z_aload_n C 1 rfl d_Tx_start_16 rfl ?_
    refine z_getF2 C 10 (by decide) 6 (by decide) rfl 3 36 rfl (a0 + 3) rfl (Or.inr ga0) ha0 zfl_10_29 d_Tx_start_17 ?_
    refine z_fact (fun hSR => ?_)
    refine z_alen50S C (36 : Int32) (by decide) (Or.inr (ztx_3 hSR ha0 ga0).1) (ztk_3 ha0) (ztx_3 hSR ha0 ga0).2 d_Tx_start_20 ?_
    rcases zite h with ⟨c2, h⟩ | ⟨c2, h⟩
    · refine z_icmp_get C 34 c2 d_Tx_start_21 (by decide) ?_
      cases h
      exact z_vret C hret ⟨Nat.zero_le _, Nat.zero_le _⟩ d_Tx_start_34
    · refine z_icmp_gef C 34 c2 d_Tx_start_21 (by decide) ?_
      refine z_aload_n C 1 rfl d_Tx_start_24 rfl ?_
      refine z_getF2 C 10 (by decide) 6 (by decide) rfl 3 36 rfl (a0 + 3) rfl (Or.inr ga0) ha0 zfl_10_29 d_Tx_start_25 ?_
      refine z_iload_n C 0 rfl d_Tx_start_28 rfl ?_
      refine z_aload_n C 1 rfl d_Tx_start_29 rfl ?_
      refine z_getI C 10 (by decide) 1 (by decide) rfl (Or.inr ga0) ha0 zfl_10_9 d_Tx_start_30 ?_
      refine z_fact (fun hSR => ?_)
      obtain ⟨g3, h⟩ := zgd_some h
      refine z_iastoreS C (Or.inr (ztx_3 hSR ha0 ga0).1) (ztk_3 ha0) (ztx_3 hSR ha0 ga0).2 g3 d_Tx_start_33 ?_
      cases h
      exact z_vret C hret ⟨Nat.zero_le _, Nat.zero_le _⟩ d_Tx_start_34
def f_Ta_isSign (a1 : Int32) (S : zSt) : Option Int32 := if (zI S 44 4) = (3 : Int32) then zb1 (f_Ta_byteAt (zI S 44 2) S) (fun r3 => if r3 = a1 then some (1 : Int32) else some (0 : Int32)) else some (0 : Int32)
set_option maxRecDepth 100000 in
set_option maxHeartbeats 4000000 in
theorem m_Ta_isSign (l : Launch) {a1 : Int32} {S : zSt} {r : Int32} (h : f_Ta_isSign a1 S = some r) : zPM l y_Ta_isSign b_Ta_isSign 2 (some .boolean) rm_Ta_isSign true true [zr (some 44), zi a1] S (some (zi r)) S := by
  refine zPM_of (by decide) (Nat.le_of_ble_eq_true rfl) (fun p e s m args below meth c G C hret hname => ?_)
  unfold f_Ta_isSign at h
  refine (?_ : zJ p l e rm_Ta_isSign s m args below meth c G true 2 0 0 (zQm below G args s rm_Ta_isSign true (some (zi r)) S) S 0 [(0, zr (some 44)), (1, zi a1)] [])
  refine z_aload_n C 0 rfl d_Ta_isSign_0 rfl ?_
  refine z_getI C 9 (by decide) 4 (by decide) rfl zo_44 zk_44 zfl_9_25 d_Ta_isSign_1 ?_
  refine z_iconst C (3 : Int32) (by decide) d_Ta_isSign_4 ?_
  rcases zite h with ⟨c1, h⟩ | ⟨c1, h⟩
  · refine z_icmp_nef C 24 c1 d_Ta_isSign_5 (by decide) ?_
    refine z_aload_n C 0 rfl d_Ta_isSign_8 rfl ?_
    refine z_aload_n C 0 rfl d_Ta_isSign_9 rfl ?_
    refine z_getI C 9 (by decide) 2 (by decide) rfl zo_44 zk_44 zfl_9_19 d_Ta_isSign_10 ?_
    obtain ⟨r3, h2, h⟩ := zb1_some h
    refine z_cV C 9 (by decide) (m_Ta_byteAt l h2) mf_Ta_byteAt lk_9_46 in_Ta_byteAt se_Ta_byteAt rfl zo_44 zk_44 ⟨rfl, rfl⟩ ⟨by decide, by decide⟩ ⟨Nat.zero_le _, Nat.zero_le _⟩ rfl _ [] rfl (Nat.le_of_ble_eq_true rfl) d_Ta_isSign_13 ?_
    refine z_iload_n C 1 rfl d_Ta_isSign_16 rfl ?_
    rcases zite h with ⟨c4, h⟩ | ⟨c4, h⟩
    · refine z_icmp_nef C 24 c4 d_Ta_isSign_17 (by decide) ?_
      refine z_iconst C (1 : Int32) (by decide) d_Ta_isSign_20 ?_
      refine z_goto C 25 d_Ta_isSign_21 (by decide) ?_
      cases h
      exact z_iret C .boolean hret rfl ⟨Nat.zero_le _, Nat.zero_le _⟩ d_Ta_isSign_25
    · refine z_icmp_net C 24 c4 d_Ta_isSign_17 (by decide) ?_
      refine z_iconst C (0 : Int32) (by decide) d_Ta_isSign_24 ?_
      cases h
      exact z_iret C .boolean hret rfl ⟨Nat.zero_le _, Nat.zero_le _⟩ d_Ta_isSign_25
  · refine z_icmp_net C 24 c1 d_Ta_isSign_5 (by decide) ?_
    refine z_iconst C (0 : Int32) (by decide) d_Ta_isSign_24 ?_
    cases h
    exact z_iret C .boolean hret rfl ⟨Nat.zero_le _, Nat.zero_le _⟩ d_Ta_isSign_25
def f_Ta_takeSign (fu : Nat) (a1 : Int32) (S : zSt) : Option (Int32 × zSt) := zb1 (f_Ta_isSign a1 S) (fun r2 => if r2 = 0 then zgd (r2 = 0 ∨ r2 = 1) (some (r2, S)) else zb1 (f_Ta_next fu S) (fun S6 => zgd (r2 = 0 ∨ r2 = 1) (some (r2, S6))))
set_option maxRecDepth 100000 in
set_option maxHeartbeats 4000000 in
theorem m_Ta_takeSign (l : Launch) {fu : Nat} {a1 : Int32} {S : zSt} {r : Int32} {S1 : zSt} (h : f_Ta_takeSign fu a1 S = some (r, S1)) : zPM l y_Ta_takeSign b_Ta_takeSign 3 (some .boolean) rm_Ta_takeSign true true [zr (some 44), zi a1] S (some (zi r)) S1 := by
  refine zPM_of (by decide) (Nat.le_of_ble_eq_true rfl) (fun p e s m args below meth c G C hret hname => ?_)
  unfold f_Ta_takeSign at h
  refine (?_ : zJ p l e rm_Ta_takeSign s m args below meth c G true 3 0 0 (zQm below G args s rm_Ta_takeSign true (some (zi r)) S1) S 0 [(0, zr (some 44)), (1, zi a1)] [])
  refine z_aload_n C 0 rfl d_Ta_takeSign_0 rfl ?_
  refine z_iload_n C 1 rfl d_Ta_takeSign_1 rfl ?_
  obtain ⟨r2, h1, h⟩ := zb1_some h
  refine z_cV C 9 (by decide) (m_Ta_isSign l h1) mf_Ta_isSign lk_9_57 in_Ta_isSign se_Ta_isSign rfl zo_44 zk_44 ⟨rfl, rfl⟩ ⟨by decide, by decide⟩ ⟨Nat.zero_le _, Nat.zero_le _⟩ rfl _ [] rfl (Nat.le_of_ble_eq_true rfl) d_Ta_takeSign_2 ?_
  refine z_istore_n C [(2, zi r2), (0, zr (some 44)), (1, zi a1)] d_Ta_takeSign_5 rfl (by decide) rfl ?_
  refine z_iload_n C 0 rfl d_Ta_takeSign_6 rfl ?_
  rcases zite h with ⟨c3, h⟩ | ⟨c3, h⟩
  · refine z_if_eqt C 14 c3 d_Ta_takeSign_7 (by decide) ?_
    refine z_iload_n C 0 rfl d_Ta_takeSign_14 rfl ?_
    obtain ⟨g4, h⟩ := zgd_some h
    cases h
    exact z_iret C .boolean hret (by rcases g4 with e | e <;> rw [e] <;> rfl) ⟨Nat.zero_le _, Nat.zero_le _⟩ d_Ta_takeSign_15
  · refine z_if_eqf C 14 c3 d_Ta_takeSign_7 (by decide) ?_
    refine z_aload_n C 1 rfl d_Ta_takeSign_10 rfl ?_
    obtain ⟨S6, h5, h⟩ := zb1_some h
    refine z_cV C 9 (by decide) (m_Ta_next l h5) mf_Ta_next lk_9_31 in_Ta_next se_Ta_next rfl zo_44 zk_44 ⟨rfl, rfl⟩ ⟨by decide, by decide⟩ ⟨Nat.zero_le _, Nat.zero_le _⟩ rfl _ [] rfl (Nat.le_of_ble_eq_true rfl) d_Ta_takeSign_11 ?_
    refine z_iload_n C 0 rfl d_Ta_takeSign_14 rfl ?_
    obtain ⟨g7, h⟩ := zgd_some h
    cases h
    exact z_iret C .boolean hret (by rcases g7 with e | e <;> rw [e] <;> rfl) ⟨Nat.zero_le _, Nat.zero_le _⟩ d_Ta_takeSign_15
def f_Tx_emit (a0 : Nat) (a1 : Int32) (a2 : Int32) (S : zSt) : Option zSt := if (zI S a0 1) < 0 then some S else if ((zA S (a0 + 4)).toInt32) ≤ (zI S a0 1) then some S else zgd (0 ≤ (zI S a0 1) ∧ (zI S a0 1).toNatClampNeg < zA S (a0 + 4)) (some (zwI (zwI S (a0 + 4) (zI S a0 1).toNatClampNeg ((a2 <<< ((4 : Int32) &&& 31)) ||| a1)) a0 1 ((zI (zwI S (a0 + 4) (zI S a0 1).toNatClampNeg ((a2 <<< ((4 : Int32) &&& 31)) ||| a1)) a0 1) + (1 : Int32))))
set_option maxRecDepth 100000 in
set_option maxHeartbeats 4000000 in
theorem m_Tx_emit (l : Launch) {a0 : Nat} {a1 : Int32} {a2 : Int32} {S : zSt} {S1 : zSt} (ha0 : zK a0 = 10) (ga0 : a0 < zN S) (h : f_Tx_emit a0 a1 a2 S = some S1) : zPM l y_Tx_emit b_Tx_emit 3 none rm_Tx_emit true true [zr (some a0), zi a1, zi a2] S none S1 := by
  refine zPM_of (by decide) (Nat.le_of_ble_eq_true rfl) (fun p e s m args below meth c G C hret hname => ?_)
  unfold f_Tx_emit at h
  refine (?_ : zJ p l e rm_Tx_emit s m args below meth c G true 3 0 0 (zQm below G args s rm_Tx_emit true none S1) S 0 [(0, zr (some a0)), (1, zi a1), (2, zi a2)] [])
  refine z_aload_n C 0 rfl d_Tx_emit_0 rfl ?_
  refine z_getI C 10 (by decide) 1 (by decide) rfl (Or.inr ga0) ha0 zfl_10_9 d_Tx_emit_1 ?_
  rcases zite h with ⟨c1, h⟩ | ⟨c1, h⟩
  · refine z_if_ltt C 43 c1 d_Tx_emit_4 (by decide) ?_
    cases h
    exact z_vret C hret ⟨Nat.zero_le _, Nat.zero_le _⟩ d_Tx_emit_43
  · refine z_if_ltf C 43 c1 d_Tx_emit_4 (by decide) ?_
    refine z_aload_n C 0 rfl d_Tx_emit_7 rfl ?_
    refine z_getI C 10 (by decide) 1 (by decide) rfl (Or.inr ga0) ha0 zfl_10_9 d_Tx_emit_8 ?_
    refine z_aload_n C 0 rfl d_Tx_emit_11 rfl ?_
    refine z_getF2 C 10 (by decide) 0 (by decide) rfl 4 0 rfl (a0 + 4) rfl (Or.inr ga0) ha0 zfl_10_32 d_Tx_emit_12 ?_
    refine z_fact (fun hSR => ?_)
    refine z_alen50 C (Or.inr (ztx_4 hSR ha0 ga0).1) (ztk_4 ha0) d_Tx_emit_15 ?_
    rcases zite h with ⟨c2, h⟩ | ⟨c2, h⟩
    · refine z_icmp_get C 43 c2 d_Tx_emit_16 (by decide) ?_
      cases h
      exact z_vret C hret ⟨Nat.zero_le _, Nat.zero_le _⟩ d_Tx_emit_43
    · refine z_icmp_gef C 43 c2 d_Tx_emit_16 (by decide) ?_
      refine z_aload_n C 0 rfl d_Tx_emit_19 rfl ?_
      refine z_getF2 C 10 (by decide) 0 (by decide) rfl 4 0 rfl (a0 + 4) rfl (Or.inr ga0) ha0 zfl_10_32 d_Tx_emit_20 ?_
      refine z_aload_n C 0 rfl d_Tx_emit_23 rfl ?_
      refine z_getI C 10 (by decide) 1 (by decide) rfl (Or.inr ga0) ha0 zfl_10_9 d_Tx_emit_24 ?_
      refine z_iload_n C 2 rfl d_Tx_emit_27 rfl ?_
      refine z_iconst C (4 : Int32) (by decide) d_Tx_emit_28 ?_
      refine z_ishl C d_Tx_emit_29 ?_
      refine z_iload_n C 1 rfl d_Tx_emit_30 rfl ?_
      refine z_ior C d_Tx_emit_31 ?_
      refine z_fact (fun hSR => ?_)
      obtain ⟨g3, h⟩ := zgd_some h
      refine z_iastoreS C (Or.inr (ztx_4 hSR ha0 ga0).1) (ztk_4 ha0) rfl g3 d_Tx_emit_32 ?_
      refine z_aload_n C 0 rfl d_Tx_emit_33 rfl ?_
      refine z_dup C rfl d_Tx_emit_34 ?_
      refine z_getI C 10 (by decide) 1 (by decide) rfl (Or.inr ga0) ha0 zfl_10_9 d_Tx_emit_35 ?_
      refine z_iconst C (1 : Int32) (by decide) d_Tx_emit_38 ?_
      refine z_iadd C d_Tx_emit_39 ?_
      refine z_putI C 10 (by decide) 1 (by decide) rfl (Or.inl rfl) (Or.inr ga0) ha0 zfl_10_9 (Or.inl rfl) d_Tx_emit_40 ?_
      cases h
      exact z_vret C hret ⟨Nat.zero_le _, Nat.zero_le _⟩ d_Tx_emit_43
def f_Tx_land (a0 : Nat) (a1 : Int32) (a2 : Int32) (S : zSt) : Option zSt := if a1 < 0 then some S else if ((zA S (a0 + 4)).toInt32) ≤ a1 then some S else zgd (0 ≤ a1 ∧ a1.toNatClampNeg < zA S (a0 + 4)) (some (zwI S (a0 + 4) a1.toNatClampNeg (((zI S a0 1) <<< ((4 : Int32) &&& 31)) ||| a2)))
set_option maxRecDepth 100000 in
set_option maxHeartbeats 4000000 in
theorem m_Tx_land (l : Launch) {a0 : Nat} {a1 : Int32} {a2 : Int32} {S : zSt} {S1 : zSt} (ha0 : zK a0 = 10) (ga0 : a0 < zN S) (h : f_Tx_land a0 a1 a2 S = some S1) : zPM l y_Tx_land b_Tx_land 3 none rm_Tx_land true true [zr (some a0), zi a1, zi a2] S none S1 := by
  refine zPM_of (by decide) (Nat.le_of_ble_eq_true rfl) (fun p e s m args below meth c G C hret hname => ?_)
  unfold f_Tx_land at h
  refine (?_ : zJ p l e rm_Tx_land s m args below meth c G true 3 0 0 (zQm below G args s rm_Tx_land true none S1) S 0 [(0, zr (some a0)), (1, zi a1), (2, zi a2)] [])
  refine z_iload_n C 1 rfl d_Tx_land_0 rfl ?_
  rcases zite h with ⟨c1, h⟩ | ⟨c1, h⟩
  · refine z_if_ltt C 27 c1 d_Tx_land_1 (by decide) ?_
    cases h
    exact z_vret C hret ⟨Nat.zero_le _, Nat.zero_le _⟩ d_Tx_land_27
  · refine z_if_ltf C 27 c1 d_Tx_land_1 (by decide) ?_
    refine z_iload_n C 1 rfl d_Tx_land_4 rfl ?_
    refine z_aload_n C 0 rfl d_Tx_land_5 rfl ?_
    refine z_getF2 C 10 (by decide) 0 (by decide) rfl 4 0 rfl (a0 + 4) rfl (Or.inr ga0) ha0 zfl_10_32 d_Tx_land_6 ?_
    refine z_fact (fun hSR => ?_)
    refine z_alen50 C (Or.inr (ztx_4 hSR ha0 ga0).1) (ztk_4 ha0) d_Tx_land_9 ?_
    rcases zite h with ⟨c2, h⟩ | ⟨c2, h⟩
    · refine z_icmp_get C 27 c2 d_Tx_land_10 (by decide) ?_
      cases h
      exact z_vret C hret ⟨Nat.zero_le _, Nat.zero_le _⟩ d_Tx_land_27
    · refine z_icmp_gef C 27 c2 d_Tx_land_10 (by decide) ?_
      refine z_aload_n C 0 rfl d_Tx_land_13 rfl ?_
      refine z_getF2 C 10 (by decide) 0 (by decide) rfl 4 0 rfl (a0 + 4) rfl (Or.inr ga0) ha0 zfl_10_32 d_Tx_land_14 ?_
      refine z_iload_n C 1 rfl d_Tx_land_17 rfl ?_
      refine z_aload_n C 0 rfl d_Tx_land_18 rfl ?_
      refine z_getI C 10 (by decide) 1 (by decide) rfl (Or.inr ga0) ha0 zfl_10_9 d_Tx_land_19 ?_
      refine z_iconst C (4 : Int32) (by decide) d_Tx_land_22 ?_
      refine z_ishl C d_Tx_land_23 ?_
      refine z_iload_n C 2 rfl d_Tx_land_24 rfl ?_
      refine z_ior C d_Tx_land_25 ?_
      refine z_fact (fun hSR => ?_)
      obtain ⟨g3, h⟩ := zgd_some h
      refine z_iastoreS C (Or.inr (ztx_4 hSR ha0 ga0).1) (ztk_4 ha0) rfl g3 d_Tx_land_26 ?_
      cases h
      exact z_vret C hret ⟨Nat.zero_le _, Nat.zero_le _⟩ d_Tx_land_27
def f_Ta_isNumber (S : zSt) : Option Int32 := if (zI S 44 4) = (2 : Int32) then if (1000 : Int32) < (zI S 44 5) then some (0 : Int32) else some (1 : Int32) else some (0 : Int32)
set_option maxRecDepth 100000 in
set_option maxHeartbeats 4000000 in
theorem m_Ta_isNumber (l : Launch) {S : zSt} {r : Int32} (h : f_Ta_isNumber  S = some r) : zPM l y_Ta_isNumber b_Ta_isNumber 1 (some .boolean) rm_Ta_isNumber true true [zr (some 44)] S (some (zi r)) S := by
  refine zPM_of (by decide) (Nat.le_of_ble_eq_true rfl) (fun p e s m args below meth c G C hret hname => ?_)
  unfold f_Ta_isNumber at h
  refine (?_ : zJ p l e rm_Ta_isNumber s m args below meth c G true 1 0 0 (zQm below G args s rm_Ta_isNumber true (some (zi r)) S) S 0 [(0, zr (some 44))] [])
  refine z_aload_n C 0 rfl d_Ta_isNumber_0 rfl ?_
  refine z_getI C 9 (by decide) 4 (by decide) rfl zo_44 zk_44 zfl_9_25 d_Ta_isNumber_1 ?_
  refine z_iconst C (2 : Int32) (by decide) d_Ta_isNumber_4 ?_
  rcases zite h with ⟨c1, h⟩ | ⟨c1, h⟩
  · refine z_icmp_nef C 22 c1 d_Ta_isNumber_5 (by decide) ?_
    refine z_aload_n C 0 rfl d_Ta_isNumber_8 rfl ?_
    refine z_getI C 9 (by decide) 5 (by decide) rfl zo_44 zk_44 zfl_9_28 d_Ta_isNumber_9 ?_
    refine z_sipush C (1000 : Int32) (by decide) d_Ta_isNumber_12 ?_
    rcases zite h with ⟨c2, h⟩ | ⟨c2, h⟩
    · refine z_icmp_gtt C 22 c2 d_Ta_isNumber_15 (by decide) ?_
      refine z_iconst C (0 : Int32) (by decide) d_Ta_isNumber_22 ?_
      cases h
      exact z_iret C .boolean hret rfl ⟨Nat.zero_le _, Nat.zero_le _⟩ d_Ta_isNumber_23
    · refine z_icmp_gtf C 22 c2 d_Ta_isNumber_15 (by decide) ?_
      refine z_iconst C (1 : Int32) (by decide) d_Ta_isNumber_18 ?_
      refine z_goto C 23 d_Ta_isNumber_19 (by decide) ?_
      cases h
      exact z_iret C .boolean hret rfl ⟨Nat.zero_le _, Nat.zero_le _⟩ d_Ta_isNumber_23
  · refine z_icmp_net C 22 c1 d_Ta_isNumber_5 (by decide) ?_
    refine z_iconst C (0 : Int32) (by decide) d_Ta_isNumber_22 ?_
    cases h
    exact z_iret C .boolean hret rfl ⟨Nat.zero_le _, Nat.zero_le _⟩ d_Ta_isNumber_23
def f_Re_readWhich (fu : Nat) (a2 : Int32) (S : zSt) : Option (Int32 × zSt) := zb1 (f_Ta_isNumber S) (fun r2 => if r2 = 0 then some ((0 : Int32), S) else if (zI S 44 5) < (9 : Int32) then zb1 (f_Tx_emit 47 (1 : Int32) (a2 + (zI S 44 5)) S) (fun S6 => zb1 (f_Ta_next fu S6) (fun S8 => some ((1 : Int32), S8))) else some ((0 : Int32), S))
set_option maxRecDepth 100000 in
set_option maxHeartbeats 4000000 in
theorem m_Re_readWhich (l : Launch) {fu : Nat} {a2 : Int32} {S : zSt} {r : Int32} {S1 : zSt} (h : f_Re_readWhich fu a2 S = some (r, S1)) : zPM l y_Re_readWhich b_Re_readWhich 3 (some .boolean) rm_Re_readWhich true true [zr (some 46), zr (some 44), zi a2] S (some (zi r)) S1 := by
  refine zPM_of (by decide) (Nat.le_of_ble_eq_true rfl) (fun p e s m args below meth c G C hret hname => ?_)
  unfold f_Re_readWhich at h
  refine (?_ : zJ p l e rm_Re_readWhich s m args below meth c G true 3 0 0 (zQm below G args s rm_Re_readWhich true (some (zi r)) S1) S 0 [(0, zr (some 46)), (1, zr (some 44)), (2, zi a2)] [])
  refine z_aload_n C 1 rfl d_Re_readWhich_0 rfl ?_
  obtain ⟨r2, h1, h⟩ := zb1_some h
  refine z_cV C 9 (by decide) (m_Ta_isNumber l h1) mf_Ta_isNumber lk_6_111 in_Ta_isNumber se_Ta_isNumber rfl zo_44 zk_44 ⟨rfl, rfl⟩ ⟨by decide, by decide⟩ ⟨Nat.zero_le _, Nat.zero_le _⟩ rfl _ [] rfl (Nat.le_of_ble_eq_true rfl) d_Re_readWhich_1 ?_
  rcases zite h with ⟨c3, h⟩ | ⟨c3, h⟩
  · refine z_if_eqt C 16 c3 d_Re_readWhich_4 (by decide) ?_
    refine z_iconst C (0 : Int32) (by decide) d_Re_readWhich_16 ?_
    cases h
    exact z_iret C .boolean hret rfl ⟨Nat.zero_le _, Nat.zero_le _⟩ d_Re_readWhich_17
  · refine z_if_eqf C 16 c3 d_Re_readWhich_4 (by decide) ?_
    refine z_aload_n C 1 rfl d_Re_readWhich_7 rfl ?_
    refine z_getI C 9 (by decide) 5 (by decide) rfl zo_44 zk_44 zfl_6_115 d_Re_readWhich_8 ?_
    refine z_bipush C (9 : Int32) (by decide) d_Re_readWhich_11 ?_
    rcases zite h with ⟨c4, h⟩ | ⟨c4, h⟩
    · refine z_icmp_ltt C 18 c4 d_Re_readWhich_13 (by decide) ?_
      refine z_aload_n C 0 rfl d_Re_readWhich_18 rfl ?_
      refine z_getF2 C 6 (by decide) 0 (by decide) rfl 1 0 rfl (47) rfl zp_46 zk_46 zfl_6_14 d_Re_readWhich_19 ?_
      refine z_iconst C (1 : Int32) (by decide) d_Re_readWhich_22 ?_
      refine z_iload_n C 2 rfl d_Re_readWhich_23 rfl ?_
      refine z_aload_n C 1 rfl d_Re_readWhich_24 rfl ?_
      refine z_getI C 9 (by decide) 5 (by decide) rfl zo_44 zk_44 zfl_6_115 d_Re_readWhich_25 ?_
      refine z_iadd C d_Re_readWhich_28 ?_
      refine z_fact (fun hSR => ?_)
      obtain ⟨S6, h5, h⟩ := zb1_some h
      refine z_cV C 10 (by decide) (m_Tx_emit l zk_47 (Nat.lt_of_lt_of_le (Nat.le_of_ble_eq_true rfl) hSR.1) h5) mf_Tx_emit lk_6_81 in_Tx_emit se_Tx_emit rfl zo_47 zk_47 ⟨rfl, rfl⟩ ⟨by decide, by decide⟩ ⟨Nat.zero_le _, Nat.zero_le _⟩ rfl _ [] rfl (Nat.le_of_ble_eq_true rfl) d_Re_readWhich_29 ?_
      refine z_aload_n C 1 rfl d_Re_readWhich_32 rfl ?_
      obtain ⟨S8, h7, h⟩ := zb1_some h
      refine z_cV C 9 (by decide) (m_Ta_next l h7) mf_Ta_next lk_6_121 in_Ta_next se_Ta_next rfl zo_44 zk_44 ⟨rfl, rfl⟩ ⟨by decide, by decide⟩ ⟨Nat.zero_le _, Nat.zero_le _⟩ rfl _ [] rfl (Nat.le_of_ble_eq_true rfl) d_Re_readWhich_33 ?_
      refine z_iconst C (1 : Int32) (by decide) d_Re_readWhich_36 ?_
      cases h
      exact z_iret C .boolean hret rfl ⟨Nat.zero_le _, Nat.zero_le _⟩ d_Re_readWhich_37
    · refine z_icmp_ltf C 18 c4 d_Re_readWhich_13 (by decide) ?_
      refine z_iconst C (0 : Int32) (by decide) d_Re_readWhich_16 ?_
      cases h
      exact z_iret C .boolean hret rfl ⟨Nat.zero_le _, Nat.zero_le _⟩ d_Re_readWhich_17
def f_Re_orderWord (fu : Nat) (S : zSt) : Option Int32 := zb1 (f_Ta_isWord fu 14 S) (fun r2 => if r2 = 0 then zb1 (f_Ta_isWord fu 15 S) (fun r5 => if r5 = 0 then zb1 (f_Ta_isWord fu 16 S) (fun r8 => if r8 = 0 then zb1 (f_Ta_isWord fu 17 S) (fun r11 => if r11 = 0 then zb1 (f_Ta_isWord fu 18 S) (fun r14 => if r14 = 0 then some (-1 : Int32) else some (4 : Int32)) else some (3 : Int32)) else some (2 : Int32)) else some (1 : Int32)) else some (0 : Int32))
set_option maxRecDepth 100000 in
set_option maxHeartbeats 4000000 in
theorem m_Re_orderWord (l : Launch) {fu : Nat} {S : zSt} {r : Int32} (h : f_Re_orderWord fu  S = some r) : zPM l y_Re_orderWord b_Re_orderWord 1 (some .int) rm_Re_orderWord true true [zr (some 44)] S (some (zi r)) S := by
  refine zPM_of (by decide) (Nat.le_of_ble_eq_true rfl) (fun p e s m args below meth c G C hret hname => ?_)
  unfold f_Re_orderWord at h
  refine (?_ : zJ p l e rm_Re_orderWord s m args below meth c G true 1 0 0 (zQm below G args s rm_Re_orderWord true (some (zi r)) S) S 0 [(0, zr (some 44))] [])
  refine z_aload_n C 0 rfl d_Re_orderWord_0 rfl ?_
  refine z_ldcS C 14 (by decide) rfl rfl d_Re_orderWord_1 ?_
  obtain ⟨r2, h1, h⟩ := zb1_some h
  refine z_cV C 9 (by decide) (m_Ta_isWord l (by decide) h1) mf_Ta_isWord lk_6_176 in_Ta_isWord se_Ta_isWord rfl zo_44 zk_44 ⟨rfl, rfl⟩ ⟨by decide, by decide⟩ ⟨Nat.zero_le _, Nat.zero_le _⟩ rfl _ [] rfl (Nat.le_of_ble_eq_true rfl) d_Re_orderWord_3 ?_
  rcases zite h with ⟨c3, h⟩ | ⟨c3, h⟩
  · refine z_if_eqt C 11 c3 d_Re_orderWord_6 (by decide) ?_
    refine z_aload_n C 0 rfl d_Re_orderWord_11 rfl ?_
    refine z_ldcS C 15 (by decide) rfl rfl d_Re_orderWord_12 ?_
    obtain ⟨r5, h4, h⟩ := zb1_some h
    refine z_cV C 9 (by decide) (m_Ta_isWord l (by decide) h4) mf_Ta_isWord lk_6_176 in_Ta_isWord se_Ta_isWord rfl zo_44 zk_44 ⟨rfl, rfl⟩ ⟨by decide, by decide⟩ ⟨Nat.zero_le _, Nat.zero_le _⟩ rfl _ [] rfl (Nat.le_of_ble_eq_true rfl) d_Re_orderWord_14 ?_
    rcases zite h with ⟨c6, h⟩ | ⟨c6, h⟩
    · refine z_if_eqt C 22 c6 d_Re_orderWord_17 (by decide) ?_
      refine z_aload_n C 0 rfl d_Re_orderWord_22 rfl ?_
      refine z_ldcS C 16 (by decide) rfl rfl d_Re_orderWord_23 ?_
      obtain ⟨r8, h7, h⟩ := zb1_some h
      refine z_cV C 9 (by decide) (m_Ta_isWord l (by decide) h7) mf_Ta_isWord lk_6_176 in_Ta_isWord se_Ta_isWord rfl zo_44 zk_44 ⟨rfl, rfl⟩ ⟨by decide, by decide⟩ ⟨Nat.zero_le _, Nat.zero_le _⟩ rfl _ [] rfl (Nat.le_of_ble_eq_true rfl) d_Re_orderWord_25 ?_
      rcases zite h with ⟨c9, h⟩ | ⟨c9, h⟩
      · refine z_if_eqt C 33 c9 d_Re_orderWord_28 (by decide) ?_
        refine z_aload_n C 0 rfl d_Re_orderWord_33 rfl ?_
        refine z_ldcS C 17 (by decide) rfl rfl d_Re_orderWord_34 ?_
        obtain ⟨r11, h10, h⟩ := zb1_some h
        refine z_cV C 9 (by decide) (m_Ta_isWord l (by decide) h10) mf_Ta_isWord lk_6_176 in_Ta_isWord se_Ta_isWord rfl zo_44 zk_44 ⟨rfl, rfl⟩ ⟨by decide, by decide⟩ ⟨Nat.zero_le _, Nat.zero_le _⟩ rfl _ [] rfl (Nat.le_of_ble_eq_true rfl) d_Re_orderWord_36 ?_
        rcases zite h with ⟨c12, h⟩ | ⟨c12, h⟩
        · refine z_if_eqt C 44 c12 d_Re_orderWord_39 (by decide) ?_
          refine z_aload_n C 0 rfl d_Re_orderWord_44 rfl ?_
          refine z_ldcS C 18 (by decide) rfl rfl d_Re_orderWord_45 ?_
          obtain ⟨r14, h13, h⟩ := zb1_some h
          refine z_cV C 9 (by decide) (m_Ta_isWord l (by decide) h13) mf_Ta_isWord lk_6_176 in_Ta_isWord se_Ta_isWord rfl zo_44 zk_44 ⟨rfl, rfl⟩ ⟨by decide, by decide⟩ ⟨Nat.zero_le _, Nat.zero_le _⟩ rfl _ [] rfl (Nat.le_of_ble_eq_true rfl) d_Re_orderWord_47 ?_
          rcases zite h with ⟨c15, h⟩ | ⟨c15, h⟩
          · refine z_if_eqt C 57 c15 d_Re_orderWord_50 (by decide) ?_
            refine z_iconst C (-1 : Int32) (by decide) d_Re_orderWord_57 ?_
            cases h
            exact z_iret C .int hret rfl ⟨Nat.zero_le _, Nat.zero_le _⟩ d_Re_orderWord_58
          · refine z_if_eqf C 57 c15 d_Re_orderWord_50 (by decide) ?_
            refine z_iconst C (4 : Int32) (by decide) d_Re_orderWord_53 ?_
            refine z_goto C 58 d_Re_orderWord_54 (by decide) ?_
            cases h
            exact z_iret C .int hret rfl ⟨Nat.zero_le _, Nat.zero_le _⟩ d_Re_orderWord_58
        · refine z_if_eqf C 44 c12 d_Re_orderWord_39 (by decide) ?_
          refine z_iconst C (3 : Int32) (by decide) d_Re_orderWord_42 ?_
          cases h
          exact z_iret C .int hret rfl ⟨Nat.zero_le _, Nat.zero_le _⟩ d_Re_orderWord_43
      · refine z_if_eqf C 33 c9 d_Re_orderWord_28 (by decide) ?_
        refine z_iconst C (2 : Int32) (by decide) d_Re_orderWord_31 ?_
        cases h
        exact z_iret C .int hret rfl ⟨Nat.zero_le _, Nat.zero_le _⟩ d_Re_orderWord_32
    · refine z_if_eqf C 22 c6 d_Re_orderWord_17 (by decide) ?_
      refine z_iconst C (1 : Int32) (by decide) d_Re_orderWord_20 ?_
      cases h
      exact z_iret C .int hret rfl ⟨Nat.zero_le _, Nat.zero_le _⟩ d_Re_orderWord_21
  · refine z_if_eqf C 11 c3 d_Re_orderWord_6 (by decide) ?_
    refine z_iconst C (0 : Int32) (by decide) d_Re_orderWord_9 ?_
    cases h
    exact z_iret C .int hret rfl ⟨Nat.zero_le _, Nat.zero_le _⟩ d_Re_orderWord_10
def f_Re_lawWord (fu : Nat) (S : zSt) : Option Int32 := zb1 (f_Ta_isWord fu 19 S) (fun r2 => if r2 = 0 then zb1 (f_Ta_isWord fu 8 S) (fun r5 => if r5 = 0 then zb1 (f_Ta_isWord fu 20 S) (fun r8 => if r8 = 0 then zb1 (f_Ta_isWord fu 21 S) (fun r11 => if r11 = 0 then zb1 (f_Ta_isWord fu 12 S) (fun r14 => if r14 = 0 then zb1 (f_Ta_isWord fu 14 S) (fun r17 => if r17 = 0 then zb1 (f_Ta_isWord fu 22 S) (fun r20 => if r20 = 0 then some (-1 : Int32) else some (6 : Int32)) else some (5 : Int32)) else some (4 : Int32)) else some (3 : Int32)) else some (2 : Int32)) else some (1 : Int32)) else some (0 : Int32))
set_option maxRecDepth 100000 in
set_option maxHeartbeats 4000000 in
theorem m_Re_lawWord (l : Launch) {fu : Nat} {S : zSt} {r : Int32} (h : f_Re_lawWord fu  S = some r) : zPM l y_Re_lawWord b_Re_lawWord 1 (some .int) rm_Re_lawWord true true [zr (some 44)] S (some (zi r)) S := by
  refine zPM_of (by decide) (Nat.le_of_ble_eq_true rfl) (fun p e s m args below meth c G C hret hname => ?_)
  unfold f_Re_lawWord at h
  refine (?_ : zJ p l e rm_Re_lawWord s m args below meth c G true 1 0 0 (zQm below G args s rm_Re_lawWord true (some (zi r)) S) S 0 [(0, zr (some 44))] [])
  refine z_aload_n C 0 rfl d_Re_lawWord_0 rfl ?_
  refine z_ldcS C 19 (by decide) rfl rfl d_Re_lawWord_1 ?_
  obtain ⟨r2, h1, h⟩ := zb1_some h
  refine z_cV C 9 (by decide) (m_Ta_isWord l (by decide) h1) mf_Ta_isWord lk_6_176 in_Ta_isWord se_Ta_isWord rfl zo_44 zk_44 ⟨rfl, rfl⟩ ⟨by decide, by decide⟩ ⟨Nat.zero_le _, Nat.zero_le _⟩ rfl _ [] rfl (Nat.le_of_ble_eq_true rfl) d_Re_lawWord_3 ?_
  rcases zite h with ⟨c3, h⟩ | ⟨c3, h⟩
  · refine z_if_eqt C 11 c3 d_Re_lawWord_6 (by decide) ?_
    refine z_aload_n C 0 rfl d_Re_lawWord_11 rfl ?_
    refine z_ldcS C 8 (by decide) rfl rfl d_Re_lawWord_12 ?_
    obtain ⟨r5, h4, h⟩ := zb1_some h
    refine z_cV C 9 (by decide) (m_Ta_isWord l (by decide) h4) mf_Ta_isWord lk_6_176 in_Ta_isWord se_Ta_isWord rfl zo_44 zk_44 ⟨rfl, rfl⟩ ⟨by decide, by decide⟩ ⟨Nat.zero_le _, Nat.zero_le _⟩ rfl _ [] rfl (Nat.le_of_ble_eq_true rfl) d_Re_lawWord_14 ?_
    rcases zite h with ⟨c6, h⟩ | ⟨c6, h⟩
    · refine z_if_eqt C 22 c6 d_Re_lawWord_17 (by decide) ?_
      refine z_aload_n C 0 rfl d_Re_lawWord_22 rfl ?_
      refine z_ldcS C 20 (by decide) rfl rfl d_Re_lawWord_23 ?_
      obtain ⟨r8, h7, h⟩ := zb1_some h
      refine z_cV C 9 (by decide) (m_Ta_isWord l (by decide) h7) mf_Ta_isWord lk_6_176 in_Ta_isWord se_Ta_isWord rfl zo_44 zk_44 ⟨rfl, rfl⟩ ⟨by decide, by decide⟩ ⟨Nat.zero_le _, Nat.zero_le _⟩ rfl _ [] rfl (Nat.le_of_ble_eq_true rfl) d_Re_lawWord_25 ?_
      rcases zite h with ⟨c9, h⟩ | ⟨c9, h⟩
      · refine z_if_eqt C 33 c9 d_Re_lawWord_28 (by decide) ?_
        refine z_aload_n C 0 rfl d_Re_lawWord_33 rfl ?_
        refine z_ldcS C 21 (by decide) rfl rfl d_Re_lawWord_34 ?_
        obtain ⟨r11, h10, h⟩ := zb1_some h
        refine z_cV C 9 (by decide) (m_Ta_isWord l (by decide) h10) mf_Ta_isWord lk_6_176 in_Ta_isWord se_Ta_isWord rfl zo_44 zk_44 ⟨rfl, rfl⟩ ⟨by decide, by decide⟩ ⟨Nat.zero_le _, Nat.zero_le _⟩ rfl _ [] rfl (Nat.le_of_ble_eq_true rfl) d_Re_lawWord_36 ?_
        rcases zite h with ⟨c12, h⟩ | ⟨c12, h⟩
        · refine z_if_eqt C 44 c12 d_Re_lawWord_39 (by decide) ?_
          refine z_aload_n C 0 rfl d_Re_lawWord_44 rfl ?_
          refine z_ldcS C 12 (by decide) rfl rfl d_Re_lawWord_45 ?_
          obtain ⟨r14, h13, h⟩ := zb1_some h
          refine z_cV C 9 (by decide) (m_Ta_isWord l (by decide) h13) mf_Ta_isWord lk_6_176 in_Ta_isWord se_Ta_isWord rfl zo_44 zk_44 ⟨rfl, rfl⟩ ⟨by decide, by decide⟩ ⟨Nat.zero_le _, Nat.zero_le _⟩ rfl _ [] rfl (Nat.le_of_ble_eq_true rfl) d_Re_lawWord_47 ?_
          rcases zite h with ⟨c15, h⟩ | ⟨c15, h⟩
          · refine z_if_eqt C 55 c15 d_Re_lawWord_50 (by decide) ?_
            refine z_aload_n C 0 rfl d_Re_lawWord_55 rfl ?_
            refine z_ldcS C 14 (by decide) rfl rfl d_Re_lawWord_56 ?_
            obtain ⟨r17, h16, h⟩ := zb1_some h
            refine z_cV C 9 (by decide) (m_Ta_isWord l (by decide) h16) mf_Ta_isWord lk_6_176 in_Ta_isWord se_Ta_isWord rfl zo_44 zk_44 ⟨rfl, rfl⟩ ⟨by decide, by decide⟩ ⟨Nat.zero_le _, Nat.zero_le _⟩ rfl _ [] rfl (Nat.le_of_ble_eq_true rfl) d_Re_lawWord_58 ?_
            rcases zite h with ⟨c18, h⟩ | ⟨c18, h⟩
            · refine z_if_eqt C 66 c18 d_Re_lawWord_61 (by decide) ?_
              refine z_aload_n C 0 rfl d_Re_lawWord_66 rfl ?_
              refine z_ldcS C 22 (by decide) rfl rfl d_Re_lawWord_67 ?_
              obtain ⟨r20, h19, h⟩ := zb1_some h
              refine z_cV C 9 (by decide) (m_Ta_isWord l (by decide) h19) mf_Ta_isWord lk_6_176 in_Ta_isWord se_Ta_isWord rfl zo_44 zk_44 ⟨rfl, rfl⟩ ⟨by decide, by decide⟩ ⟨Nat.zero_le _, Nat.zero_le _⟩ rfl _ [] rfl (Nat.le_of_ble_eq_true rfl) d_Re_lawWord_69 ?_
              rcases zite h with ⟨c21, h⟩ | ⟨c21, h⟩
              · refine z_if_eqt C 80 c21 d_Re_lawWord_72 (by decide) ?_
                refine z_iconst C (-1 : Int32) (by decide) d_Re_lawWord_80 ?_
                cases h
                exact z_iret C .int hret rfl ⟨Nat.zero_le _, Nat.zero_le _⟩ d_Re_lawWord_81
              · refine z_if_eqf C 80 c21 d_Re_lawWord_72 (by decide) ?_
                refine z_bipush C (6 : Int32) (by decide) d_Re_lawWord_75 ?_
                refine z_goto C 81 d_Re_lawWord_77 (by decide) ?_
                cases h
                exact z_iret C .int hret rfl ⟨Nat.zero_le _, Nat.zero_le _⟩ d_Re_lawWord_81
            · refine z_if_eqf C 66 c18 d_Re_lawWord_61 (by decide) ?_
              refine z_iconst C (5 : Int32) (by decide) d_Re_lawWord_64 ?_
              cases h
              exact z_iret C .int hret rfl ⟨Nat.zero_le _, Nat.zero_le _⟩ d_Re_lawWord_65
          · refine z_if_eqf C 55 c15 d_Re_lawWord_50 (by decide) ?_
            refine z_iconst C (4 : Int32) (by decide) d_Re_lawWord_53 ?_
            cases h
            exact z_iret C .int hret rfl ⟨Nat.zero_le _, Nat.zero_le _⟩ d_Re_lawWord_54
        · refine z_if_eqf C 44 c12 d_Re_lawWord_39 (by decide) ?_
          refine z_iconst C (3 : Int32) (by decide) d_Re_lawWord_42 ?_
          cases h
          exact z_iret C .int hret rfl ⟨Nat.zero_le _, Nat.zero_le _⟩ d_Re_lawWord_43
      · refine z_if_eqf C 33 c9 d_Re_lawWord_28 (by decide) ?_
        refine z_iconst C (2 : Int32) (by decide) d_Re_lawWord_31 ?_
        cases h
        exact z_iret C .int hret rfl ⟨Nat.zero_le _, Nat.zero_le _⟩ d_Re_lawWord_32
    · refine z_if_eqf C 22 c6 d_Re_lawWord_17 (by decide) ?_
      refine z_iconst C (1 : Int32) (by decide) d_Re_lawWord_20 ?_
      cases h
      exact z_iret C .int hret rfl ⟨Nat.zero_le _, Nat.zero_le _⟩ d_Re_lawWord_21
  · refine z_if_eqf C 11 c3 d_Re_lawWord_6 (by decide) ?_
    refine z_iconst C (0 : Int32) (by decide) d_Re_lawWord_9 ?_
    cases h
    exact z_iret C .int hret rfl ⟨Nat.zero_le _, Nat.zero_le _⟩ d_Re_lawWord_10
def f_Re_readComparison_54 (c_Re_readSum : zSt → Option (Int32 × zSt)) (fu : Nat) (a2 : Int32) (S : zSt) : Option (Int32 × zSt) := zb1 (f_Ta_next fu S) (fun S2 => zb2 (c_Re_readSum S2) (fun r4 S5 => if r4 = 0 then some ((0 : Int32), S5) else zb1 (f_Tx_emit 47 a2 (0 : Int32) S5) (fun S8 => some ((1 : Int32), S8))))
def f_Re_readComparison_o (c_Re_readSum : zSt → Option (Int32 × zSt)) (fu : Nat) (S : zSt) : Option (Int32 × zSt) := zb2 (c_Re_readSum S) (fun r2 S3 => if r2 = 0 then some ((0 : Int32), S3) else zb1 (f_Ta_isSign (60 : Int32) S3) (fun r6 => if r6 = 0 then zb1 (f_Ta_isSign (62 : Int32) S3) (fun r9 => if r9 = 0 then zb1 (f_Ta_isSign (61 : Int32) S3) (fun r12 => if r12 = 0 then some ((0 : Int32), S3) else f_Re_readComparison_54 c_Re_readSum fu (12 : Int32) S3) else f_Re_readComparison_54 c_Re_readSum fu (11 : Int32) S3) else f_Re_readComparison_54 c_Re_readSum fu (10 : Int32) S3))
set_option maxRecDepth 100000 in
set_option maxHeartbeats 4000000 in
theorem c_Re_readComparison_54 {p : Program} {l : Launch} {e : Env} {s : State} {m : MethodId} {args : Array Value} {below : List Frame} {meth : Method} {c : Code} {G : zG} (C : zC p s m args meth c G b_Re_readComparison 3 y_Re_readComparison.cls) (hret : meth.sig.returnType = (some .boolean)) {c_Re_readSum : zSt → Option (Int32 × zSt)} {dp : Nat} {fu : Nat} {r : Int32} {S1 : zSt} (hc_Re_readSum : ∀ (S : zSt) (r : Int32) (S1 : zSt), c_Re_readSum  S = some (r, S1) → zPM l y_Re_readSum b_Re_readSum 4 (some .boolean) (rm_g0 dp) true true [zr (some 46), zr (some 44)] S (some (zi r)) S1) : ∀ (a2 : Int32) (S : zSt) , f_Re_readComparison_54 c_Re_readSum fu a2 S = some (r, S1) → zJ p l e (rm_g0 (dp + 1)) s m args below meth c G true 3 0 0 (zQm below G args s (rm_g0 (dp + 1)) true (some (zi r)) S1) S 54 [(0, zr (some 46)), (1, zr (some 44)), (2, zi a2)] [] := by
  intro a2 S h
  unfold f_Re_readComparison_54 at h
  refine z_aload_n C 1 rfl d_Re_readComparison_54 rfl ?_
  obtain ⟨S2, h1, h⟩ := zb1_some h
  refine z_cV C 9 (by decide) (m_Ta_next l h1) mf_Ta_next lk_6_121 in_Ta_next se_Ta_next rfl zo_44 zk_44 ⟨rfl, rfl⟩ ⟨rm_le_Re_readComparison_Ta_next.1, rm_le_Re_readComparison_Ta_next.2⟩ ⟨Nat.zero_le _, Nat.zero_le _⟩ rfl _ [] rfl (Nat.le_of_ble_eq_true rfl) d_Re_readComparison_55 ?_
  refine z_aload_n C 0 rfl d_Re_readComparison_58 rfl ?_
  refine z_aload_n C 1 rfl d_Re_readComparison_59 rfl ?_
  obtain ⟨r4, S5, h3, h⟩ := zb2_some h
  refine z_cV C 6 (by decide) (hc_Re_readSum S2 _ _ h3) mf_Re_readSum lk_6_78 in_Re_readSum se_Re_readSum rfl zo_46 zk_46 ⟨rfl, rfl⟩ ⟨rm_le_Re_readComparison_Re_readSum.1, rm_le_Re_readComparison_Re_readSum.2⟩ ⟨Nat.zero_le _, Nat.zero_le _⟩ rfl _ [] rfl (Nat.le_of_ble_eq_true rfl) d_Re_readComparison_60 ?_
  rcases zite h with ⟨c6, h⟩ | ⟨c6, h⟩
  · refine z_if_nef C 68 c6 d_Re_readComparison_63 (by decide) ?_
    refine z_iconst C (0 : Int32) (by decide) d_Re_readComparison_66 ?_
    cases h
    exact z_iret C .boolean hret rfl ⟨Nat.zero_le _, Nat.zero_le _⟩ d_Re_readComparison_67
  · refine z_if_net C 68 c6 d_Re_readComparison_63 (by decide) ?_
    refine z_aload_n C 0 rfl d_Re_readComparison_68 rfl ?_
    refine z_getF2 C 6 (by decide) 0 (by decide) rfl 1 0 rfl (47) rfl zp_46 zk_46 zfl_6_14 d_Re_readComparison_69 ?_
    refine z_iload_n C 2 rfl d_Re_readComparison_72 rfl ?_
    refine z_iconst C (0 : Int32) (by decide) d_Re_readComparison_73 ?_
    refine z_fact (fun hSR => ?_)
    obtain ⟨S8, h7, h⟩ := zb1_some h
    refine z_cV C 10 (by decide) (m_Tx_emit l zk_47 (Nat.lt_of_lt_of_le (Nat.le_of_ble_eq_true rfl) hSR.1) h7) mf_Tx_emit lk_6_81 in_Tx_emit se_Tx_emit rfl zo_47 zk_47 ⟨rfl, rfl⟩ ⟨rm_le_Re_readComparison_Tx_emit.1, rm_le_Re_readComparison_Tx_emit.2⟩ ⟨Nat.zero_le _, Nat.zero_le _⟩ rfl _ [] rfl (Nat.le_of_ble_eq_true rfl) d_Re_readComparison_74 ?_
    refine z_iconst C (1 : Int32) (by decide) d_Re_readComparison_77 ?_
    cases h
    exact z_iret C .boolean hret rfl ⟨Nat.zero_le _, Nat.zero_le _⟩ d_Re_readComparison_78
set_option maxRecDepth 100000 in
set_option maxHeartbeats 4000000 in
theorem m_Re_readComparison_o (l : Launch) {c_Re_readSum : zSt → Option (Int32 × zSt)} {dp : Nat} {fu : Nat} {S : zSt} {r : Int32} {S1 : zSt} (hc_Re_readSum : ∀ (S : zSt) (r : Int32) (S1 : zSt), c_Re_readSum  S = some (r, S1) → zPM l y_Re_readSum b_Re_readSum 4 (some .boolean) (rm_g0 dp) true true [zr (some 46), zr (some 44)] S (some (zi r)) S1) (h : f_Re_readComparison_o c_Re_readSum fu  S = some (r, S1)) : zPM l y_Re_readComparison b_Re_readComparison 3 (some .boolean) (rm_g0 (dp + 1)) true true [zr (some 46), zr (some 44)] S (some (zi r)) S1 := by
  refine zPM_of (by decide) (Nat.le_of_ble_eq_true rfl) (fun p e s m args below meth c G C hret hname => ?_)
  unfold f_Re_readComparison_o at h
  refine (?_ : zJ p l e (rm_g0 (dp + 1)) s m args below meth c G true 3 0 0 (zQm below G args s (rm_g0 (dp + 1)) true (some (zi r)) S1) S 0 [(0, zr (some 46)), (1, zr (some 44))] [])
  refine z_aload_n C 0 rfl d_Re_readComparison_0 rfl ?_
  refine z_aload_n C 1 rfl d_Re_readComparison_1 rfl ?_
  obtain ⟨r2, S3, h1, h⟩ := zb2_some h
  refine z_cV C 6 (by decide) (hc_Re_readSum S _ _ h1) mf_Re_readSum lk_6_78 in_Re_readSum se_Re_readSum rfl zo_46 zk_46 ⟨rfl, rfl⟩ ⟨rm_le_Re_readComparison_Re_readSum.1, rm_le_Re_readComparison_Re_readSum.2⟩ ⟨Nat.zero_le _, Nat.zero_le _⟩ rfl _ [] rfl (Nat.le_of_ble_eq_true rfl) d_Re_readComparison_2 ?_
  rcases zite h with ⟨c4, h⟩ | ⟨c4, h⟩
  · refine z_if_nef C 10 c4 d_Re_readComparison_5 (by decide) ?_
    refine z_iconst C (0 : Int32) (by decide) d_Re_readComparison_8 ?_
    cases h
    exact z_iret C .boolean hret rfl ⟨Nat.zero_le _, Nat.zero_le _⟩ d_Re_readComparison_9
  · refine z_if_net C 10 c4 d_Re_readComparison_5 (by decide) ?_
    refine z_bipush C (12 : Int32) (by decide) d_Re_readComparison_10 ?_
    refine z_istore_n C [(2, zi (12 : Int32)), (0, zr (some 46)), (1, zr (some 44))] d_Re_readComparison_12 rfl (by decide) rfl ?_
    refine z_aload_n C 2 rfl d_Re_readComparison_13 rfl ?_
    refine z_bipush C (60 : Int32) (by decide) d_Re_readComparison_14 ?_
    obtain ⟨r6, h5, h⟩ := zb1_some h
    refine z_cV C 9 (by decide) (m_Ta_isSign l h5) mf_Ta_isSign lk_6_142 in_Ta_isSign se_Ta_isSign rfl zo_44 zk_44 ⟨rfl, rfl⟩ ⟨rm_le_Re_readComparison_Ta_isSign.1, rm_le_Re_readComparison_Ta_isSign.2⟩ ⟨Nat.zero_le _, Nat.zero_le _⟩ rfl _ [] rfl (Nat.le_of_ble_eq_true rfl) d_Re_readComparison_16 ?_
    rcases zite h with ⟨c7, h⟩ | ⟨c7, h⟩
    · refine z_if_eqt C 28 c7 d_Re_readComparison_19 (by decide) ?_
      refine z_aload_n C 2 rfl d_Re_readComparison_28 rfl ?_
      refine z_bipush C (62 : Int32) (by decide) d_Re_readComparison_29 ?_
      obtain ⟨r9, h8, h⟩ := zb1_some h
      refine z_cV C 9 (by decide) (m_Ta_isSign l h8) mf_Ta_isSign lk_6_142 in_Ta_isSign se_Ta_isSign rfl zo_44 zk_44 ⟨rfl, rfl⟩ ⟨rm_le_Re_readComparison_Ta_isSign.1, rm_le_Re_readComparison_Ta_isSign.2⟩ ⟨Nat.zero_le _, Nat.zero_le _⟩ rfl _ [] rfl (Nat.le_of_ble_eq_true rfl) d_Re_readComparison_31 ?_
      rcases zite h with ⟨c10, h⟩ | ⟨c10, h⟩
      · refine z_if_eqt C 43 c10 d_Re_readComparison_34 (by decide) ?_
        refine z_aload_n C 2 rfl d_Re_readComparison_43 rfl ?_
        refine z_bipush C (61 : Int32) (by decide) d_Re_readComparison_44 ?_
        obtain ⟨r12, h11, h⟩ := zb1_some h
        refine z_cV C 9 (by decide) (m_Ta_isSign l h11) mf_Ta_isSign lk_6_142 in_Ta_isSign se_Ta_isSign rfl zo_44 zk_44 ⟨rfl, rfl⟩ ⟨rm_le_Re_readComparison_Ta_isSign.1, rm_le_Re_readComparison_Ta_isSign.2⟩ ⟨Nat.zero_le _, Nat.zero_le _⟩ rfl _ [] rfl (Nat.le_of_ble_eq_true rfl) d_Re_readComparison_46 ?_
        rcases zite h with ⟨c13, h⟩ | ⟨c13, h⟩
        · refine z_if_nef C 54 c13 d_Re_readComparison_49 (by decide) ?_
          refine z_iconst C (0 : Int32) (by decide) d_Re_readComparison_52 ?_
          cases h
          exact z_iret C .boolean hret rfl ⟨Nat.zero_le _, Nat.zero_le _⟩ d_Re_readComparison_53
        · refine z_if_net C 54 c13 d_Re_readComparison_49 (by decide) ?_
          refine zq_lsub [1, 2, 0] [(0, zr (some 46)), (1, zr (some 44)), (2, zi (12 : Int32))] rfl ?_
          exact c_Re_readComparison_54 C hret hc_Re_readSum  (12 : Int32) S3 h
      · refine z_if_eqf C 43 c10 d_Re_readComparison_34 (by decide) ?_
        refine z_bipush C (11 : Int32) (by decide) d_Re_readComparison_37 ?_
        refine z_istore_n C [(2, zi (11 : Int32)), (0, zr (some 46)), (1, zr (some 44))] d_Re_readComparison_39 rfl (by decide) rfl ?_
        refine z_goto C 54 d_Re_readComparison_40 (by decide) ?_
        refine zq_lsub [1, 2, 0] [(0, zr (some 46)), (1, zr (some 44)), (2, zi (11 : Int32))] rfl ?_
        exact c_Re_readComparison_54 C hret hc_Re_readSum  (11 : Int32) S3 h
    · refine z_if_eqf C 28 c7 d_Re_readComparison_19 (by decide) ?_
      refine z_bipush C (10 : Int32) (by decide) d_Re_readComparison_22 ?_
      refine z_istore_n C [(2, zi (10 : Int32)), (0, zr (some 46)), (1, zr (some 44))] d_Re_readComparison_24 rfl (by decide) rfl ?_
      refine z_goto C 54 d_Re_readComparison_25 (by decide) ?_
      refine zq_lsub [1, 2, 0] [(0, zr (some 46)), (1, zr (some 44)), (2, zi (10 : Int32))] rfl ?_
      exact c_Re_readComparison_54 C hret hc_Re_readSum  (10 : Int32) S3 h
def f_Re_readPlain_62 (c_Re_readBracketed : Int32 → Int32 → zSt → Option (Int32 × zSt)) (c_Re_readComparison : zSt → Option (Int32 × zSt)) (fu : Nat) (a2 : Int32) (k0 : Int32) (S : zSt) : Option (Int32 × zSt) := if k0 = 0 then zgd (k0 = 0 ∨ k0 = 1) (some (k0, S)) else if a2 = 0 then zgd (k0 = 0 ∨ k0 = 1) (some (k0, S)) else zb1 (f_Tx_emit 47 (4 : Int32) (0 : Int32) S) (fun S6 => zgd (k0 = 0 ∨ k0 = 1) (some (k0, S6)))
def f_Re_readPlain_36 (c_Re_readBracketed : Int32 → Int32 → zSt → Option (Int32 × zSt)) (c_Re_readComparison : zSt → Option (Int32 × zSt)) (fu : Nat) (a2 : Int32) (S : zSt) : Option (Int32 × zSt) := zb1 (f_Ta_isSign (40 : Int32) S) (fun r2 => if r2 = 0 then zb2 (c_Re_readComparison S) (fun r5 S6 => f_Re_readPlain_62 c_Re_readBracketed c_Re_readComparison fu a2 r5 S6) else zb2 (c_Re_readBracketed (40 : Int32) (41 : Int32) S) (fun r8 S9 => f_Re_readPlain_62 c_Re_readBracketed c_Re_readComparison fu a2 r8 S9))
def f_Re_readPlain_4 (c_Re_readBracketed : Int32 → Int32 → zSt → Option (Int32 × zSt)) (c_Re_readComparison : zSt → Option (Int32 × zSt)) (fu : Nat) : Nat → Int32 → Int32 → zSt → Option (Int32 × zSt)
  | 0, _, _, _ => none
  | n + 1, a2, a3, S => if (400 : Int32) ≤ a3 then f_Re_readPlain_36 c_Re_readBracketed c_Re_readComparison fu a2 S else zb2 (f_Ta_takeWord fu 9 S) (fun r3 S4 => if r3 = 0 then f_Re_readPlain_36 c_Re_readBracketed c_Re_readComparison fu a2 S4 else if a2 = 0 then f_Re_readPlain_4 c_Re_readBracketed c_Re_readComparison fu n (1 : Int32) (a3 + (1 : Int32)) S4 else f_Re_readPlain_4 c_Re_readBracketed c_Re_readComparison fu n (0 : Int32) (a3 + (1 : Int32)) S4)
def f_Re_readPlain_o (c_Re_readBracketed : Int32 → Int32 → zSt → Option (Int32 × zSt)) (c_Re_readComparison : zSt → Option (Int32 × zSt)) (fu : Nat) (S : zSt) : Option (Int32 × zSt) := f_Re_readPlain_4 c_Re_readBracketed c_Re_readComparison fu fu (0 : Int32) (0 : Int32) S
set_option maxRecDepth 100000 in
set_option maxHeartbeats 4000000 in
theorem c_Re_readPlain_62 {p : Program} {l : Launch} {e : Env} {s : State} {m : MethodId} {args : Array Value} {below : List Frame} {meth : Method} {c : Code} {G : zG} (C : zC p s m args meth c G b_Re_readPlain 4 y_Re_readPlain.cls) (hret : meth.sig.returnType = (some .boolean)) {c_Re_readBracketed : Int32 → Int32 → zSt → Option (Int32 × zSt)} {c_Re_readComparison : zSt → Option (Int32 × zSt)} {dp : Nat} {fu : Nat} {r : Int32} {S1 : zSt} (hc_Re_readBracketed : ∀ (a2 : Int32) (a3 : Int32) (S : zSt) (r : Int32) (S1 : zSt), c_Re_readBracketed a2 a3 S = some (r, S1) → zPM l y_Re_readBracketed b_Re_readBracketed 5 (some .boolean) (rm_g0 dp) true true [zr (some 46), zr (some 44), zi a2, zi a3] S (some (zi r)) S1) (hc_Re_readComparison : ∀ (S : zSt) (r : Int32) (S1 : zSt), c_Re_readComparison  S = some (r, S1) → zPM l y_Re_readComparison b_Re_readComparison 3 (some .boolean) (rm_g0 dp) true true [zr (some 46), zr (some 44)] S (some (zi r)) S1) : ∀ (a2 : Int32) (k0 : Int32) (S : zSt) , f_Re_readPlain_62 c_Re_readBracketed c_Re_readComparison fu a2 k0 S = some (r, S1) → zJ p l e (rm_g0 (dp + 1)) s m args below meth c G true 4 0 0 (zQm below G args s (rm_g0 (dp + 1)) true (some (zi r)) S1) S 62 [(0, zr (some 46)), (2, zi a2)] [zi k0] := by
  intro a2 k0 S h
  unfold f_Re_readPlain_62 at h
  refine z_istore_n C [(3, zi k0), (0, zr (some 46)), (2, zi a2)] d_Re_readPlain_62 rfl (by decide) rfl ?_
  refine z_iload_n C 0 rfl d_Re_readPlain_63 rfl ?_
  rcases zite h with ⟨c1, h⟩ | ⟨c1, h⟩
  · refine z_if_eqt C 80 c1 d_Re_readPlain_64 (by decide) ?_
    refine z_iload_n C 0 rfl d_Re_readPlain_80 rfl ?_
    obtain ⟨g2, h⟩ := zgd_some h
    cases h
    exact z_iret C .boolean hret (by rcases g2 with e | e <;> rw [e] <;> rfl) ⟨Nat.zero_le _, Nat.zero_le _⟩ d_Re_readPlain_81
  · refine z_if_eqf C 80 c1 d_Re_readPlain_64 (by decide) ?_
    refine z_iload_n C 2 rfl d_Re_readPlain_67 rfl ?_
    rcases zite h with ⟨c3, h⟩ | ⟨c3, h⟩
    · refine z_if_eqt C 80 c3 d_Re_readPlain_68 (by decide) ?_
      refine z_iload_n C 0 rfl d_Re_readPlain_80 rfl ?_
      obtain ⟨g4, h⟩ := zgd_some h
      cases h
      exact z_iret C .boolean hret (by rcases g4 with e | e <;> rw [e] <;> rfl) ⟨Nat.zero_le _, Nat.zero_le _⟩ d_Re_readPlain_81
    · refine z_if_eqf C 80 c3 d_Re_readPlain_68 (by decide) ?_
      refine z_aload_n C 1 rfl d_Re_readPlain_71 rfl ?_
      refine z_getF2 C 6 (by decide) 0 (by decide) rfl 1 0 rfl (47) rfl zp_46 zk_46 zfl_6_14 d_Re_readPlain_72 ?_
      refine z_iconst C (4 : Int32) (by decide) d_Re_readPlain_75 ?_
      refine z_iconst C (0 : Int32) (by decide) d_Re_readPlain_76 ?_
      refine z_fact (fun hSR => ?_)
      obtain ⟨S6, h5, h⟩ := zb1_some h
      refine z_cV C 10 (by decide) (m_Tx_emit l zk_47 (Nat.lt_of_lt_of_le (Nat.le_of_ble_eq_true rfl) hSR.1) h5) mf_Tx_emit lk_6_81 in_Tx_emit se_Tx_emit rfl zo_47 zk_47 ⟨rfl, rfl⟩ ⟨rm_le_Re_readPlain_Tx_emit.1, rm_le_Re_readPlain_Tx_emit.2⟩ ⟨Nat.zero_le _, Nat.zero_le _⟩ rfl _ [] rfl (Nat.le_of_ble_eq_true rfl) d_Re_readPlain_77 ?_
      refine z_iload_n C 0 rfl d_Re_readPlain_80 rfl ?_
      obtain ⟨g7, h⟩ := zgd_some h
      cases h
      exact z_iret C .boolean hret (by rcases g7 with e | e <;> rw [e] <;> rfl) ⟨Nat.zero_le _, Nat.zero_le _⟩ d_Re_readPlain_81
set_option maxRecDepth 100000 in
set_option maxHeartbeats 4000000 in
theorem c_Re_readPlain_36 {p : Program} {l : Launch} {e : Env} {s : State} {m : MethodId} {args : Array Value} {below : List Frame} {meth : Method} {c : Code} {G : zG} (C : zC p s m args meth c G b_Re_readPlain 4 y_Re_readPlain.cls) (hret : meth.sig.returnType = (some .boolean)) {c_Re_readBracketed : Int32 → Int32 → zSt → Option (Int32 × zSt)} {c_Re_readComparison : zSt → Option (Int32 × zSt)} {dp : Nat} {fu : Nat} {r : Int32} {S1 : zSt} (hc_Re_readBracketed : ∀ (a2 : Int32) (a3 : Int32) (S : zSt) (r : Int32) (S1 : zSt), c_Re_readBracketed a2 a3 S = some (r, S1) → zPM l y_Re_readBracketed b_Re_readBracketed 5 (some .boolean) (rm_g0 dp) true true [zr (some 46), zr (some 44), zi a2, zi a3] S (some (zi r)) S1) (hc_Re_readComparison : ∀ (S : zSt) (r : Int32) (S1 : zSt), c_Re_readComparison  S = some (r, S1) → zPM l y_Re_readComparison b_Re_readComparison 3 (some .boolean) (rm_g0 dp) true true [zr (some 46), zr (some 44)] S (some (zi r)) S1) : ∀ (a2 : Int32) (S : zSt) , f_Re_readPlain_36 c_Re_readBracketed c_Re_readComparison fu a2 S = some (r, S1) → zJ p l e (rm_g0 (dp + 1)) s m args below meth c G true 4 0 0 (zQm below G args s (rm_g0 (dp + 1)) true (some (zi r)) S1) S 36 [(0, zr (some 46)), (1, zr (some 44)), (2, zi a2)] [] := by
  intro a2 S h
  unfold f_Re_readPlain_36 at h
  refine z_aload_n C 1 rfl d_Re_readPlain_36 rfl ?_
  refine z_bipush C (40 : Int32) (by decide) d_Re_readPlain_37 ?_
  obtain ⟨r2, h1, h⟩ := zb1_some h
  refine z_cV C 9 (by decide) (m_Ta_isSign l h1) mf_Ta_isSign lk_6_142 in_Ta_isSign se_Ta_isSign rfl zo_44 zk_44 ⟨rfl, rfl⟩ ⟨rm_le_Re_readPlain_Ta_isSign.1, rm_le_Re_readPlain_Ta_isSign.2⟩ ⟨Nat.zero_le _, Nat.zero_le _⟩ rfl _ [] rfl (Nat.le_of_ble_eq_true rfl) d_Re_readPlain_39 ?_
  rcases zite h with ⟨c3, h⟩ | ⟨c3, h⟩
  · refine z_if_eqt C 57 c3 d_Re_readPlain_42 (by decide) ?_
    refine z_aload_n C 0 rfl d_Re_readPlain_57 rfl ?_
    refine z_aload_n C 1 rfl d_Re_readPlain_58 rfl ?_
    obtain ⟨r5, S6, h4, h⟩ := zb2_some h
    refine z_cV C 6 (by decide) (hc_Re_readComparison S _ _ h4) mf_Re_readComparison lk_6_149 in_Re_readComparison se_Re_readComparison rfl zo_46 zk_46 ⟨rfl, rfl⟩ ⟨rm_le_Re_readPlain_Re_readComparison.1, rm_le_Re_readPlain_Re_readComparison.2⟩ ⟨Nat.zero_le _, Nat.zero_le _⟩ rfl _ [] rfl (Nat.le_of_ble_eq_true rfl) d_Re_readPlain_59 ?_
    refine zq_lsub [0, 2] [(0, zr (some 46)), (2, zi a2)] rfl ?_
    exact c_Re_readPlain_62 C hret hc_Re_readBracketed hc_Re_readComparison  a2 r5 S6 h
  · refine z_if_eqf C 57 c3 d_Re_readPlain_42 (by decide) ?_
    refine z_aload_n C 0 rfl d_Re_readPlain_45 rfl ?_
    refine z_aload_n C 1 rfl d_Re_readPlain_46 rfl ?_
    refine z_bipush C (40 : Int32) (by decide) d_Re_readPlain_47 ?_
    refine z_bipush C (41 : Int32) (by decide) d_Re_readPlain_49 ?_
    obtain ⟨r8, S9, h7, h⟩ := zb2_some h
    refine z_cV C 6 (by decide) (hc_Re_readBracketed (40 : Int32) (41 : Int32) S _ _ h7) mf_Re_readBracketed lk_6_145 in_Re_readBracketed se_Re_readBracketed rfl zo_46 zk_46 ⟨rfl, rfl⟩ ⟨rm_le_Re_readPlain_Re_readBracketed.1, rm_le_Re_readPlain_Re_readBracketed.2⟩ ⟨Nat.zero_le _, Nat.zero_le _⟩ rfl _ [] rfl (Nat.le_of_ble_eq_true rfl) d_Re_readPlain_51 ?_
    refine z_goto C 62 d_Re_readPlain_54 (by decide) ?_
    refine zq_lsub [0, 2] [(0, zr (some 46)), (2, zi a2)] rfl ?_
    exact c_Re_readPlain_62 C hret hc_Re_readBracketed hc_Re_readComparison  a2 r8 S9 h
set_option maxRecDepth 100000 in
set_option maxHeartbeats 4000000 in
theorem c_Re_readPlain_4 {p : Program} {l : Launch} {e : Env} {s : State} {m : MethodId} {args : Array Value} {below : List Frame} {meth : Method} {c : Code} {G : zG} (C : zC p s m args meth c G b_Re_readPlain 4 y_Re_readPlain.cls) (hret : meth.sig.returnType = (some .boolean)) {c_Re_readBracketed : Int32 → Int32 → zSt → Option (Int32 × zSt)} {c_Re_readComparison : zSt → Option (Int32 × zSt)} {dp : Nat} {fu : Nat} {r : Int32} {S1 : zSt} (hc_Re_readBracketed : ∀ (a2 : Int32) (a3 : Int32) (S : zSt) (r : Int32) (S1 : zSt), c_Re_readBracketed a2 a3 S = some (r, S1) → zPM l y_Re_readBracketed b_Re_readBracketed 5 (some .boolean) (rm_g0 dp) true true [zr (some 46), zr (some 44), zi a2, zi a3] S (some (zi r)) S1) (hc_Re_readComparison : ∀ (S : zSt) (r : Int32) (S1 : zSt), c_Re_readComparison  S = some (r, S1) → zPM l y_Re_readComparison b_Re_readComparison 3 (some .boolean) (rm_g0 dp) true true [zr (some 46), zr (some 44)] S (some (zi r)) S1) : ∀ (n : Nat) (a2 : Int32) (a3 : Int32) (S : zSt) , f_Re_readPlain_4 c_Re_readBracketed c_Re_readComparison fu n a2 a3 S = some (r, S1) → zJ p l e (rm_g0 (dp + 1)) s m args below meth c G true 4 0 0 (zQm below G args s (rm_g0 (dp + 1)) true (some (zi r)) S1) S 4 [(0, zr (some 46)), (1, zr (some 44)), (2, zi a2), (3, zi a3)] [] := by
  intro n
  induction n with
  | zero =>
    intro a2 a3 S h
    cases h
  | succ n ih =>
    intro a2 a3 S h
    rw [f_Re_readPlain_4] at h
    refine z_iload_n C 3 rfl d_Re_readPlain_4 rfl ?_
    refine z_sipush C (400 : Int32) (by decide) d_Re_readPlain_5 ?_
    rcases zite h with ⟨c1, h⟩ | ⟨c1, h⟩
    · refine z_icmp_get C 36 c1 d_Re_readPlain_8 (by decide) ?_
      refine zq_lsub [0, 1, 2] [(0, zr (some 46)), (1, zr (some 44)), (2, zi a2)] rfl ?_
      exact c_Re_readPlain_36 C hret hc_Re_readBracketed hc_Re_readComparison  a2 S h
    · refine z_icmp_gef C 36 c1 d_Re_readPlain_8 (by decide) ?_
      refine z_aload_n C 1 rfl d_Re_readPlain_11 rfl ?_
      refine z_ldcS C 9 (by decide) rfl rfl d_Re_readPlain_12 ?_
      obtain ⟨r3, S4, h2, h⟩ := zb2_some h
      refine z_cV C 9 (by decide) (m_Ta_takeWord l (by decide) h2) mf_Ta_takeWord lk_6_71 in_Ta_takeWord se_Ta_takeWord rfl zo_44 zk_44 ⟨rfl, rfl⟩ ⟨rm_le_Re_readPlain_Ta_takeWord.1, rm_le_Re_readPlain_Ta_takeWord.2⟩ ⟨Nat.zero_le _, Nat.zero_le _⟩ rfl _ [] rfl (Nat.le_of_ble_eq_true rfl) d_Re_readPlain_14 ?_
      rcases zite h with ⟨c5, h⟩ | ⟨c5, h⟩
      · refine z_if_eqt C 36 c5 d_Re_readPlain_17 (by decide) ?_
        refine zq_lsub [0, 1, 2] [(0, zr (some 46)), (1, zr (some 44)), (2, zi a2)] rfl ?_
        exact c_Re_readPlain_36 C hret hc_Re_readBracketed hc_Re_readComparison  a2 S4 h
      · refine z_if_eqf C 36 c5 d_Re_readPlain_17 (by decide) ?_
        refine z_iload_n C 2 rfl d_Re_readPlain_20 rfl ?_
        rcases zite h with ⟨c6, h⟩ | ⟨c6, h⟩
        · refine z_if_nef C 28 c6 d_Re_readPlain_21 (by decide) ?_
          refine z_iconst C (1 : Int32) (by decide) d_Re_readPlain_24 ?_
          refine z_goto C 29 d_Re_readPlain_25 (by decide) ?_
          refine z_istore_n C [(2, zi (1 : Int32)), (0, zr (some 46)), (1, zr (some 44)), (3, zi a3)] d_Re_readPlain_29 rfl (by decide) rfl ?_
          refine z_iinc C 3 (a3 + (1 : Int32)) [(3, zi (a3 + (1 : Int32))), (2, zi (1 : Int32)), (0, zr (some 46)), (1, zr (some 44))] rfl d_Re_readPlain_30 (by first | rfl | decide) (by decide) rfl ?_
          refine z_goto C 4 d_Re_readPlain_33 (by decide) ?_
          refine zq_lsub [2, 3, 1, 0] [(0, zr (some 46)), (1, zr (some 44)), (2, zi (1 : Int32)), (3, zi (a3 + (1 : Int32)))] rfl ?_
          exact ih (1 : Int32) (a3 + (1 : Int32)) S4 h
        · refine z_if_net C 28 c6 d_Re_readPlain_21 (by decide) ?_
          refine z_iconst C (0 : Int32) (by decide) d_Re_readPlain_28 ?_
          refine z_istore_n C [(2, zi (0 : Int32)), (0, zr (some 46)), (1, zr (some 44)), (3, zi a3)] d_Re_readPlain_29 rfl (by decide) rfl ?_
          refine z_iinc C 3 (a3 + (1 : Int32)) [(3, zi (a3 + (1 : Int32))), (2, zi (0 : Int32)), (0, zr (some 46)), (1, zr (some 44))] rfl d_Re_readPlain_30 (by first | rfl | decide) (by decide) rfl ?_
          refine z_goto C 4 d_Re_readPlain_33 (by decide) ?_
          refine zq_lsub [2, 3, 1, 0] [(0, zr (some 46)), (1, zr (some 44)), (2, zi (0 : Int32)), (3, zi (a3 + (1 : Int32)))] rfl ?_
          exact ih (0 : Int32) (a3 + (1 : Int32)) S4 h
set_option maxRecDepth 100000 in
set_option maxHeartbeats 4000000 in
theorem m_Re_readPlain_o (l : Launch) {c_Re_readBracketed : Int32 → Int32 → zSt → Option (Int32 × zSt)} {c_Re_readComparison : zSt → Option (Int32 × zSt)} {dp : Nat} {fu : Nat} {S : zSt} {r : Int32} {S1 : zSt} (hc_Re_readBracketed : ∀ (a2 : Int32) (a3 : Int32) (S : zSt) (r : Int32) (S1 : zSt), c_Re_readBracketed a2 a3 S = some (r, S1) → zPM l y_Re_readBracketed b_Re_readBracketed 5 (some .boolean) (rm_g0 dp) true true [zr (some 46), zr (some 44), zi a2, zi a3] S (some (zi r)) S1) (hc_Re_readComparison : ∀ (S : zSt) (r : Int32) (S1 : zSt), c_Re_readComparison  S = some (r, S1) → zPM l y_Re_readComparison b_Re_readComparison 3 (some .boolean) (rm_g0 dp) true true [zr (some 46), zr (some 44)] S (some (zi r)) S1) (h : f_Re_readPlain_o c_Re_readBracketed c_Re_readComparison fu  S = some (r, S1)) : zPM l y_Re_readPlain b_Re_readPlain 4 (some .boolean) (rm_g0 (dp + 1)) true true [zr (some 46), zr (some 44)] S (some (zi r)) S1 := by
  refine zPM_of (by decide) (Nat.le_of_ble_eq_true rfl) (fun p e s m args below meth c G C hret hname => ?_)
  unfold f_Re_readPlain_o at h
  refine (?_ : zJ p l e (rm_g0 (dp + 1)) s m args below meth c G true 4 0 0 (zQm below G args s (rm_g0 (dp + 1)) true (some (zi r)) S1) S 0 [(0, zr (some 46)), (1, zr (some 44))] [])
  refine z_iconst C (0 : Int32) (by decide) d_Re_readPlain_0 ?_
  refine z_istore_n C [(2, zi (0 : Int32)), (0, zr (some 46)), (1, zr (some 44))] d_Re_readPlain_1 rfl (by decide) rfl ?_
  refine z_iconst C (0 : Int32) (by decide) d_Re_readPlain_2 ?_
  refine z_istore_n C [(3, zi (0 : Int32)), (2, zi (0 : Int32)), (0, zr (some 46)), (1, zr (some 44))] d_Re_readPlain_3 rfl (by decide) rfl ?_
  refine zq_lsub [2, 3, 1, 0] [(0, zr (some 46)), (1, zr (some 44)), (2, zi (0 : Int32)), (3, zi (0 : Int32))] rfl ?_
  exact c_Re_readPlain_4 C hret hc_Re_readBracketed hc_Re_readComparison fu  (0 : Int32) (0 : Int32) S h
def f_Re_readBoth_12 (c_Re_readPlain : zSt → Option (Int32 × zSt)) (fu : Nat) : Nat → Int32 → zSt → Option (Int32 × zSt)
  | 0, _, _ => none
  | n + 1, a2, S => if (400 : Int32) ≤ a2 then some ((1 : Int32), S) else zb2 (f_Ta_takeWord fu 10 S) (fun r3 S4 => if r3 = 0 then some ((1 : Int32), S4) else zb1 (f_Tx_emit 47 (2 : Int32) (0 : Int32) S4) (fun S7 => zb2 (c_Re_readPlain S7) (fun r9 S10 => if r9 = 0 then some ((0 : Int32), S10) else zb1 (f_Tx_land 47 (zI S4 47 1) (2 : Int32) S10) (fun S13 => f_Re_readBoth_12 c_Re_readPlain fu n (a2 + (1 : Int32)) S13))))
def f_Re_readBoth_o (c_Re_readPlain : zSt → Option (Int32 × zSt)) (fu : Nat) (S : zSt) : Option (Int32 × zSt) := zb2 (c_Re_readPlain S) (fun r2 S3 => if r2 = 0 then some ((0 : Int32), S3) else f_Re_readBoth_12 c_Re_readPlain fu fu (0 : Int32) S3)
set_option maxRecDepth 100000 in
set_option maxHeartbeats 4000000 in
theorem c_Re_readBoth_12 {p : Program} {l : Launch} {e : Env} {s : State} {m : MethodId} {args : Array Value} {below : List Frame} {meth : Method} {c : Code} {G : zG} (C : zC p s m args meth c G b_Re_readBoth 4 y_Re_readBoth.cls) (hret : meth.sig.returnType = (some .boolean)) {c_Re_readPlain : zSt → Option (Int32 × zSt)} {dp : Nat} {fu : Nat} {r : Int32} {S1 : zSt} (hc_Re_readPlain : ∀ (S : zSt) (r : Int32) (S1 : zSt), c_Re_readPlain  S = some (r, S1) → zPM l y_Re_readPlain b_Re_readPlain 4 (some .boolean) (rm_g0 dp) true true [zr (some 46), zr (some 44)] S (some (zi r)) S1) : ∀ (n : Nat) (a2 : Int32) (S : zSt) , f_Re_readBoth_12 c_Re_readPlain fu n a2 S = some (r, S1) → zJ p l e (rm_g0 (dp + 1)) s m args below meth c G true 4 0 0 (zQm below G args s (rm_g0 (dp + 1)) true (some (zi r)) S1) S 12 [(0, zr (some 46)), (1, zr (some 44)), (2, zi a2)] [] := by
  intro n
  induction n with
  | zero =>
    intro a2 S h
    cases h
  | succ n ih =>
    intro a2 S h
    rw [f_Re_readBoth_12] at h
    refine z_iload_n C 2 rfl d_Re_readBoth_12 rfl ?_
    refine z_sipush C (400 : Int32) (by decide) d_Re_readBoth_13 ?_
    rcases zite h with ⟨c1, h⟩ | ⟨c1, h⟩
    · refine z_icmp_get C 70 c1 d_Re_readBoth_16 (by decide) ?_
      refine z_iconst C (1 : Int32) (by decide) d_Re_readBoth_70 ?_
      cases h
      exact z_iret C .boolean hret rfl ⟨Nat.zero_le _, Nat.zero_le _⟩ d_Re_readBoth_71
    · refine z_icmp_gef C 70 c1 d_Re_readBoth_16 (by decide) ?_
      refine z_aload_n C 1 rfl d_Re_readBoth_19 rfl ?_
      refine z_ldcS C 10 (by decide) rfl rfl d_Re_readBoth_20 ?_
      obtain ⟨r3, S4, h2, h⟩ := zb2_some h
      refine z_cV C 9 (by decide) (m_Ta_takeWord l (by decide) h2) mf_Ta_takeWord lk_6_71 in_Ta_takeWord se_Ta_takeWord rfl zo_44 zk_44 ⟨rfl, rfl⟩ ⟨rm_le_Re_readBoth_Ta_takeWord.1, rm_le_Re_readBoth_Ta_takeWord.2⟩ ⟨Nat.zero_le _, Nat.zero_le _⟩ rfl _ [] rfl (Nat.le_of_ble_eq_true rfl) d_Re_readBoth_22 ?_
      rcases zite h with ⟨c5, h⟩ | ⟨c5, h⟩
      · refine z_if_eqt C 70 c5 d_Re_readBoth_25 (by decide) ?_
        refine z_iconst C (1 : Int32) (by decide) d_Re_readBoth_70 ?_
        cases h
        exact z_iret C .boolean hret rfl ⟨Nat.zero_le _, Nat.zero_le _⟩ d_Re_readBoth_71
      · refine z_if_eqf C 70 c5 d_Re_readBoth_25 (by decide) ?_
        refine z_aload_n C 0 rfl d_Re_readBoth_28 rfl ?_
        refine z_getF2 C 6 (by decide) 0 (by decide) rfl 1 0 rfl (47) rfl zp_46 zk_46 zfl_6_14 d_Re_readBoth_29 ?_
        refine z_getI C 10 (by decide) 1 (by decide) rfl zo_47 zk_47 zfl_6_129 d_Re_readBoth_32 ?_
        refine z_istore_n C [(3, zi (zI S4 47 1)), (0, zr (some 46)), (1, zr (some 44)), (2, zi a2)] d_Re_readBoth_35 rfl (by decide) rfl ?_
        refine z_aload_n C 1 rfl d_Re_readBoth_36 rfl ?_
        refine z_getF2 C 6 (by decide) 0 (by decide) rfl 1 0 rfl (47) rfl zp_46 zk_46 zfl_6_14 d_Re_readBoth_37 ?_
        refine z_iconst C (2 : Int32) (by decide) d_Re_readBoth_40 ?_
        refine z_iconst C (0 : Int32) (by decide) d_Re_readBoth_41 ?_
        refine z_fact (fun hSR => ?_)
        obtain ⟨S7, h6, h⟩ := zb1_some h
        refine z_cV C 10 (by decide) (m_Tx_emit l zk_47 (Nat.lt_of_lt_of_le (Nat.le_of_ble_eq_true rfl) hSR.1) h6) mf_Tx_emit lk_6_81 in_Tx_emit se_Tx_emit rfl zo_47 zk_47 ⟨rfl, rfl⟩ ⟨rm_le_Re_readBoth_Tx_emit.1, rm_le_Re_readBoth_Tx_emit.2⟩ ⟨Nat.zero_le _, Nat.zero_le _⟩ rfl _ [] rfl (Nat.le_of_ble_eq_true rfl) d_Re_readBoth_42 ?_
        refine z_aload_n C 1 rfl d_Re_readBoth_45 rfl ?_
        refine z_aload_n C 2 rfl d_Re_readBoth_46 rfl ?_
        obtain ⟨r9, S10, h8, h⟩ := zb2_some h
        refine z_cV C 6 (by decide) (hc_Re_readPlain S7 _ _ h8) mf_Re_readPlain lk_6_135 in_Re_readPlain se_Re_readPlain rfl zo_46 zk_46 ⟨rfl, rfl⟩ ⟨rm_le_Re_readBoth_Re_readPlain.1, rm_le_Re_readBoth_Re_readPlain.2⟩ ⟨Nat.zero_le _, Nat.zero_le _⟩ rfl _ [] rfl (Nat.le_of_ble_eq_true rfl) d_Re_readBoth_47 ?_
        rcases zite h with ⟨c11, h⟩ | ⟨c11, h⟩
        · refine z_if_nef C 55 c11 d_Re_readBoth_50 (by decide) ?_
          refine z_iconst C (0 : Int32) (by decide) d_Re_readBoth_53 ?_
          cases h
          exact z_iret C .boolean hret rfl ⟨Nat.zero_le _, Nat.zero_le _⟩ d_Re_readBoth_54
        · refine z_if_net C 55 c11 d_Re_readBoth_50 (by decide) ?_
          refine z_aload_n C 1 rfl d_Re_readBoth_55 rfl ?_
          refine z_getF2 C 6 (by decide) 0 (by decide) rfl 1 0 rfl (47) rfl zp_46 zk_46 zfl_6_14 d_Re_readBoth_56 ?_
          refine z_iload_n C 0 rfl d_Re_readBoth_59 rfl ?_
          refine z_iconst C (2 : Int32) (by decide) d_Re_readBoth_60 ?_
          refine z_fact (fun hSR => ?_)
          obtain ⟨S13, h12, h⟩ := zb1_some h
          refine z_cV C 10 (by decide) (m_Tx_land l zk_47 (Nat.lt_of_lt_of_le (Nat.le_of_ble_eq_true rfl) hSR.1) h12) mf_Tx_land lk_6_132 in_Tx_land se_Tx_land rfl zo_47 zk_47 ⟨rfl, rfl⟩ ⟨rm_le_Re_readBoth_Tx_land.1, rm_le_Re_readBoth_Tx_land.2⟩ ⟨Nat.zero_le _, Nat.zero_le _⟩ rfl _ [] rfl (Nat.le_of_ble_eq_true rfl) d_Re_readBoth_61 ?_
          refine z_iinc C 3 (a2 + (1 : Int32)) [(2, zi (a2 + (1 : Int32))), (3, zi (zI S4 47 1)), (0, zr (some 46)), (1, zr (some 44))] rfl d_Re_readBoth_64 (by first | rfl | decide) (by decide) rfl ?_
          refine z_goto C 12 d_Re_readBoth_67 (by decide) ?_
          refine zq_lsub [2, 3, 0] [(0, zr (some 46)), (1, zr (some 44)), (2, zi (a2 + (1 : Int32)))] rfl ?_
          exact ih (a2 + (1 : Int32)) S13 h
set_option maxRecDepth 100000 in
set_option maxHeartbeats 4000000 in
theorem m_Re_readBoth_o (l : Launch) {c_Re_readPlain : zSt → Option (Int32 × zSt)} {dp : Nat} {fu : Nat} {S : zSt} {r : Int32} {S1 : zSt} (hc_Re_readPlain : ∀ (S : zSt) (r : Int32) (S1 : zSt), c_Re_readPlain  S = some (r, S1) → zPM l y_Re_readPlain b_Re_readPlain 4 (some .boolean) (rm_g0 dp) true true [zr (some 46), zr (some 44)] S (some (zi r)) S1) (h : f_Re_readBoth_o c_Re_readPlain fu  S = some (r, S1)) : zPM l y_Re_readBoth b_Re_readBoth 4 (some .boolean) (rm_g0 (dp + 1)) true true [zr (some 46), zr (some 44)] S (some (zi r)) S1 := by
  refine zPM_of (by decide) (Nat.le_of_ble_eq_true rfl) (fun p e s m args below meth c G C hret hname => ?_)
  unfold f_Re_readBoth_o at h
  refine (?_ : zJ p l e (rm_g0 (dp + 1)) s m args below meth c G true 4 0 0 (zQm below G args s (rm_g0 (dp + 1)) true (some (zi r)) S1) S 0 [(0, zr (some 46)), (1, zr (some 44))] [])
  refine z_aload_n C 0 rfl d_Re_readBoth_0 rfl ?_
  refine z_aload_n C 1 rfl d_Re_readBoth_1 rfl ?_
  obtain ⟨r2, S3, h1, h⟩ := zb2_some h
  refine z_cV C 6 (by decide) (hc_Re_readPlain S _ _ h1) mf_Re_readPlain lk_6_135 in_Re_readPlain se_Re_readPlain rfl zo_46 zk_46 ⟨rfl, rfl⟩ ⟨rm_le_Re_readBoth_Re_readPlain.1, rm_le_Re_readBoth_Re_readPlain.2⟩ ⟨Nat.zero_le _, Nat.zero_le _⟩ rfl _ [] rfl (Nat.le_of_ble_eq_true rfl) d_Re_readBoth_2 ?_
  rcases zite h with ⟨c4, h⟩ | ⟨c4, h⟩
  · refine z_if_nef C 10 c4 d_Re_readBoth_5 (by decide) ?_
    refine z_iconst C (0 : Int32) (by decide) d_Re_readBoth_8 ?_
    cases h
    exact z_iret C .boolean hret rfl ⟨Nat.zero_le _, Nat.zero_le _⟩ d_Re_readBoth_9
  · refine z_if_net C 10 c4 d_Re_readBoth_5 (by decide) ?_
    refine z_iconst C (0 : Int32) (by decide) d_Re_readBoth_10 ?_
    refine z_istore_n C [(2, zi (0 : Int32)), (0, zr (some 46)), (1, zr (some 44))] d_Re_readBoth_11 rfl (by decide) rfl ?_
    refine zq_lsub [1, 2, 0] [(0, zr (some 46)), (1, zr (some 44)), (2, zi (0 : Int32))] rfl ?_
    exact c_Re_readBoth_12 C hret hc_Re_readPlain fu  (0 : Int32) S3 h
def f_Re_readTest_12 (c_Re_readBoth : zSt → Option (Int32 × zSt)) (fu : Nat) : Nat → Int32 → zSt → Option (Int32 × zSt)
  | 0, _, _ => none
  | n + 1, a2, S => if (400 : Int32) ≤ a2 then some ((1 : Int32), S) else zb2 (f_Ta_takeWord fu 11 S) (fun r3 S4 => if r3 = 0 then some ((1 : Int32), S4) else zb1 (f_Tx_emit 47 (3 : Int32) (0 : Int32) S4) (fun S7 => zb2 (c_Re_readBoth S7) (fun r9 S10 => if r9 = 0 then some ((0 : Int32), S10) else zb1 (f_Tx_land 47 (zI S4 47 1) (3 : Int32) S10) (fun S13 => f_Re_readTest_12 c_Re_readBoth fu n (a2 + (1 : Int32)) S13))))
def f_Re_readTest_o (c_Re_readBoth : zSt → Option (Int32 × zSt)) (fu : Nat) (S : zSt) : Option (Int32 × zSt) := zb2 (c_Re_readBoth S) (fun r2 S3 => if r2 = 0 then some ((0 : Int32), S3) else f_Re_readTest_12 c_Re_readBoth fu fu (0 : Int32) S3)
set_option maxRecDepth 100000 in
set_option maxHeartbeats 4000000 in
theorem c_Re_readTest_12 {p : Program} {l : Launch} {e : Env} {s : State} {m : MethodId} {args : Array Value} {below : List Frame} {meth : Method} {c : Code} {G : zG} (C : zC p s m args meth c G b_Re_readTest 4 y_Re_readTest.cls) (hret : meth.sig.returnType = (some .boolean)) {c_Re_readBoth : zSt → Option (Int32 × zSt)} {dp : Nat} {fu : Nat} {r : Int32} {S1 : zSt} (hc_Re_readBoth : ∀ (S : zSt) (r : Int32) (S1 : zSt), c_Re_readBoth  S = some (r, S1) → zPM l y_Re_readBoth b_Re_readBoth 4 (some .boolean) (rm_g0 dp) true true [zr (some 46), zr (some 44)] S (some (zi r)) S1) : ∀ (n : Nat) (a2 : Int32) (S : zSt) , f_Re_readTest_12 c_Re_readBoth fu n a2 S = some (r, S1) → zJ p l e (rm_g0 (dp + 1)) s m args below meth c G true 4 0 0 (zQm below G args s (rm_g0 (dp + 1)) true (some (zi r)) S1) S 12 [(0, zr (some 46)), (1, zr (some 44)), (2, zi a2)] [] := by
  intro n
  induction n with
  | zero =>
    intro a2 S h
    cases h
  | succ n ih =>
    intro a2 S h
    rw [f_Re_readTest_12] at h
    refine z_iload_n C 2 rfl d_Re_readTest_12 rfl ?_
    refine z_sipush C (400 : Int32) (by decide) d_Re_readTest_13 ?_
    rcases zite h with ⟨c1, h⟩ | ⟨c1, h⟩
    · refine z_icmp_get C 70 c1 d_Re_readTest_16 (by decide) ?_
      refine z_iconst C (1 : Int32) (by decide) d_Re_readTest_70 ?_
      cases h
      exact z_iret C .boolean hret rfl ⟨Nat.zero_le _, Nat.zero_le _⟩ d_Re_readTest_71
    · refine z_icmp_gef C 70 c1 d_Re_readTest_16 (by decide) ?_
      refine z_aload_n C 1 rfl d_Re_readTest_19 rfl ?_
      refine z_ldcS C 11 (by decide) rfl rfl d_Re_readTest_20 ?_
      obtain ⟨r3, S4, h2, h⟩ := zb2_some h
      refine z_cV C 9 (by decide) (m_Ta_takeWord l (by decide) h2) mf_Ta_takeWord lk_6_71 in_Ta_takeWord se_Ta_takeWord rfl zo_44 zk_44 ⟨rfl, rfl⟩ ⟨rm_le_Re_readTest_Ta_takeWord.1, rm_le_Re_readTest_Ta_takeWord.2⟩ ⟨Nat.zero_le _, Nat.zero_le _⟩ rfl _ [] rfl (Nat.le_of_ble_eq_true rfl) d_Re_readTest_22 ?_
      rcases zite h with ⟨c5, h⟩ | ⟨c5, h⟩
      · refine z_if_eqt C 70 c5 d_Re_readTest_25 (by decide) ?_
        refine z_iconst C (1 : Int32) (by decide) d_Re_readTest_70 ?_
        cases h
        exact z_iret C .boolean hret rfl ⟨Nat.zero_le _, Nat.zero_le _⟩ d_Re_readTest_71
      · refine z_if_eqf C 70 c5 d_Re_readTest_25 (by decide) ?_
        refine z_aload_n C 0 rfl d_Re_readTest_28 rfl ?_
        refine z_getF2 C 6 (by decide) 0 (by decide) rfl 1 0 rfl (47) rfl zp_46 zk_46 zfl_6_14 d_Re_readTest_29 ?_
        refine z_getI C 10 (by decide) 1 (by decide) rfl zo_47 zk_47 zfl_6_129 d_Re_readTest_32 ?_
        refine z_istore_n C [(3, zi (zI S4 47 1)), (0, zr (some 46)), (1, zr (some 44)), (2, zi a2)] d_Re_readTest_35 rfl (by decide) rfl ?_
        refine z_aload_n C 1 rfl d_Re_readTest_36 rfl ?_
        refine z_getF2 C 6 (by decide) 0 (by decide) rfl 1 0 rfl (47) rfl zp_46 zk_46 zfl_6_14 d_Re_readTest_37 ?_
        refine z_iconst C (3 : Int32) (by decide) d_Re_readTest_40 ?_
        refine z_iconst C (0 : Int32) (by decide) d_Re_readTest_41 ?_
        refine z_fact (fun hSR => ?_)
        obtain ⟨S7, h6, h⟩ := zb1_some h
        refine z_cV C 10 (by decide) (m_Tx_emit l zk_47 (Nat.lt_of_lt_of_le (Nat.le_of_ble_eq_true rfl) hSR.1) h6) mf_Tx_emit lk_6_81 in_Tx_emit se_Tx_emit rfl zo_47 zk_47 ⟨rfl, rfl⟩ ⟨rm_le_Re_readTest_Tx_emit.1, rm_le_Re_readTest_Tx_emit.2⟩ ⟨Nat.zero_le _, Nat.zero_le _⟩ rfl _ [] rfl (Nat.le_of_ble_eq_true rfl) d_Re_readTest_42 ?_
        refine z_aload_n C 1 rfl d_Re_readTest_45 rfl ?_
        refine z_aload_n C 2 rfl d_Re_readTest_46 rfl ?_
        obtain ⟨r9, S10, h8, h⟩ := zb2_some h
        refine z_cV C 6 (by decide) (hc_Re_readBoth S7 _ _ h8) mf_Re_readBoth lk_6_124 in_Re_readBoth se_Re_readBoth rfl zo_46 zk_46 ⟨rfl, rfl⟩ ⟨rm_le_Re_readTest_Re_readBoth.1, rm_le_Re_readTest_Re_readBoth.2⟩ ⟨Nat.zero_le _, Nat.zero_le _⟩ rfl _ [] rfl (Nat.le_of_ble_eq_true rfl) d_Re_readTest_47 ?_
        rcases zite h with ⟨c11, h⟩ | ⟨c11, h⟩
        · refine z_if_nef C 55 c11 d_Re_readTest_50 (by decide) ?_
          refine z_iconst C (0 : Int32) (by decide) d_Re_readTest_53 ?_
          cases h
          exact z_iret C .boolean hret rfl ⟨Nat.zero_le _, Nat.zero_le _⟩ d_Re_readTest_54
        · refine z_if_net C 55 c11 d_Re_readTest_50 (by decide) ?_
          refine z_aload_n C 1 rfl d_Re_readTest_55 rfl ?_
          refine z_getF2 C 6 (by decide) 0 (by decide) rfl 1 0 rfl (47) rfl zp_46 zk_46 zfl_6_14 d_Re_readTest_56 ?_
          refine z_iload_n C 0 rfl d_Re_readTest_59 rfl ?_
          refine z_iconst C (3 : Int32) (by decide) d_Re_readTest_60 ?_
          refine z_fact (fun hSR => ?_)
          obtain ⟨S13, h12, h⟩ := zb1_some h
          refine z_cV C 10 (by decide) (m_Tx_land l zk_47 (Nat.lt_of_lt_of_le (Nat.le_of_ble_eq_true rfl) hSR.1) h12) mf_Tx_land lk_6_132 in_Tx_land se_Tx_land rfl zo_47 zk_47 ⟨rfl, rfl⟩ ⟨rm_le_Re_readTest_Tx_land.1, rm_le_Re_readTest_Tx_land.2⟩ ⟨Nat.zero_le _, Nat.zero_le _⟩ rfl _ [] rfl (Nat.le_of_ble_eq_true rfl) d_Re_readTest_61 ?_
          refine z_iinc C 3 (a2 + (1 : Int32)) [(2, zi (a2 + (1 : Int32))), (3, zi (zI S4 47 1)), (0, zr (some 46)), (1, zr (some 44))] rfl d_Re_readTest_64 (by first | rfl | decide) (by decide) rfl ?_
          refine z_goto C 12 d_Re_readTest_67 (by decide) ?_
          refine zq_lsub [2, 3, 0] [(0, zr (some 46)), (1, zr (some 44)), (2, zi (a2 + (1 : Int32)))] rfl ?_
          exact ih (a2 + (1 : Int32)) S13 h
set_option maxRecDepth 100000 in
set_option maxHeartbeats 4000000 in
theorem m_Re_readTest_o (l : Launch) {c_Re_readBoth : zSt → Option (Int32 × zSt)} {dp : Nat} {fu : Nat} {S : zSt} {r : Int32} {S1 : zSt} (hc_Re_readBoth : ∀ (S : zSt) (r : Int32) (S1 : zSt), c_Re_readBoth  S = some (r, S1) → zPM l y_Re_readBoth b_Re_readBoth 4 (some .boolean) (rm_g0 dp) true true [zr (some 46), zr (some 44)] S (some (zi r)) S1) (h : f_Re_readTest_o c_Re_readBoth fu  S = some (r, S1)) : zPM l y_Re_readTest b_Re_readTest 4 (some .boolean) (rm_g0 (dp + 1)) true true [zr (some 46), zr (some 44)] S (some (zi r)) S1 := by
  refine zPM_of (by decide) (Nat.le_of_ble_eq_true rfl) (fun p e s m args below meth c G C hret hname => ?_)
  unfold f_Re_readTest_o at h
  refine (?_ : zJ p l e (rm_g0 (dp + 1)) s m args below meth c G true 4 0 0 (zQm below G args s (rm_g0 (dp + 1)) true (some (zi r)) S1) S 0 [(0, zr (some 46)), (1, zr (some 44))] [])
  refine z_aload_n C 0 rfl d_Re_readTest_0 rfl ?_
  refine z_aload_n C 1 rfl d_Re_readTest_1 rfl ?_
  obtain ⟨r2, S3, h1, h⟩ := zb2_some h
  refine z_cV C 6 (by decide) (hc_Re_readBoth S _ _ h1) mf_Re_readBoth lk_6_124 in_Re_readBoth se_Re_readBoth rfl zo_46 zk_46 ⟨rfl, rfl⟩ ⟨rm_le_Re_readTest_Re_readBoth.1, rm_le_Re_readTest_Re_readBoth.2⟩ ⟨Nat.zero_le _, Nat.zero_le _⟩ rfl _ [] rfl (Nat.le_of_ble_eq_true rfl) d_Re_readTest_2 ?_
  rcases zite h with ⟨c4, h⟩ | ⟨c4, h⟩
  · refine z_if_nef C 10 c4 d_Re_readTest_5 (by decide) ?_
    refine z_iconst C (0 : Int32) (by decide) d_Re_readTest_8 ?_
    cases h
    exact z_iret C .boolean hret rfl ⟨Nat.zero_le _, Nat.zero_le _⟩ d_Re_readTest_9
  · refine z_if_net C 10 c4 d_Re_readTest_5 (by decide) ?_
    refine z_iconst C (0 : Int32) (by decide) d_Re_readTest_10 ?_
    refine z_istore_n C [(2, zi (0 : Int32)), (0, zr (some 46)), (1, zr (some 44))] d_Re_readTest_11 rfl (by decide) rfl ?_
    refine zq_lsub [1, 2, 0] [(0, zr (some 46)), (1, zr (some 44)), (2, zi (0 : Int32))] rfl ?_
    exact c_Re_readTest_12 C hret hc_Re_readBoth fu  (0 : Int32) S3 h
def f_Re_readBracketed_48 (c_Re_readSum : zSt → Option (Int32 × zSt)) (c_Re_readTest : zSt → Option (Int32 × zSt)) (fu : Nat) (a3 : Int32) (k0 : Int32) (S : zSt) : Option (Int32 × zSt) := if k0 = 0 then some ((0 : Int32), zwI S 46 3 ((zI S 46 3) - (1 : Int32))) else zb2 (f_Ta_takeSign fu a3 (zwI S 46 3 ((zI S 46 3) - (1 : Int32)))) (fun r3 S4 => if r3 = 0 then some ((0 : Int32), S4) else some ((1 : Int32), S4))
def f_Re_readBracketed_o (c_Re_readSum : zSt → Option (Int32 × zSt)) (c_Re_readTest : zSt → Option (Int32 × zSt)) (fu : Nat) (a2 : Int32) (a3 : Int32) (S : zSt) : Option (Int32 × zSt) := if (8 : Int32) ≤ (zI S 46 3) then some ((0 : Int32), S) else zb2 (f_Ta_takeSign fu a2 S) (fun r3 S4 => if r3 = 0 then some ((0 : Int32), S4) else if a2 = (40 : Int32) then zb2 (c_Re_readTest (zwI S4 46 3 ((zI S4 46 3) + (1 : Int32)))) (fun r11 S12 => f_Re_readBracketed_48 c_Re_readSum c_Re_readTest fu a3 r11 S12) else zb2 (c_Re_readSum (zwI S4 46 3 ((zI S4 46 3) + (1 : Int32)))) (fun r8 S9 => f_Re_readBracketed_48 c_Re_readSum c_Re_readTest fu a3 r8 S9))
set_option maxRecDepth 100000 in
set_option maxHeartbeats 4000000 in
theorem c_Re_readBracketed_48 {p : Program} {l : Launch} {e : Env} {s : State} {m : MethodId} {args : Array Value} {below : List Frame} {meth : Method} {c : Code} {G : zG} (C : zC p s m args meth c G b_Re_readBracketed 5 y_Re_readBracketed.cls) (hret : meth.sig.returnType = (some .boolean)) {c_Re_readSum : zSt → Option (Int32 × zSt)} {c_Re_readTest : zSt → Option (Int32 × zSt)} {dp : Nat} {fu : Nat} {r : Int32} {S1 : zSt} (hc_Re_readSum : ∀ (S : zSt) (r : Int32) (S1 : zSt), c_Re_readSum  S = some (r, S1) → zPM l y_Re_readSum b_Re_readSum 4 (some .boolean) (rm_g0 dp) true true [zr (some 46), zr (some 44)] S (some (zi r)) S1) (hc_Re_readTest : ∀ (S : zSt) (r : Int32) (S1 : zSt), c_Re_readTest  S = some (r, S1) → zPM l y_Re_readTest b_Re_readTest 4 (some .boolean) (rm_g0 dp) true true [zr (some 46), zr (some 44)] S (some (zi r)) S1) : ∀ (a3 : Int32) (k0 : Int32) (S : zSt) , f_Re_readBracketed_48 c_Re_readSum c_Re_readTest fu a3 k0 S = some (r, S1) → zJ p l e (rm_g0 (dp + 1)) s m args below meth c G true 5 0 0 (zQm below G args s (rm_g0 (dp + 1)) true (some (zi r)) S1) S 48 [(0, zr (some 46)), (1, zr (some 44)), (3, zi a3)] [zi k0] := by
  intro a3 k0 S h
  unfold f_Re_readBracketed_48 at h
  refine z_istore C [(4, zi k0), (0, zr (some 46)), (1, zr (some 44)), (3, zi a3)] d_Re_readBracketed_48 (by decide) rfl ?_
  refine z_aload_n C 1 rfl d_Re_readBracketed_50 rfl ?_
  refine z_dup C rfl d_Re_readBracketed_51 ?_
  refine z_getI C 6 (by decide) 3 (by decide) rfl zo_46 zk_46 zfl_6_28 d_Re_readBracketed_52 ?_
  refine z_iconst C (1 : Int32) (by decide) d_Re_readBracketed_55 ?_
  refine z_isub C d_Re_readBracketed_56 ?_
  refine z_putI C 6 (by decide) 3 (by decide) rfl (Or.inl rfl) zo_46 zk_46 zfl_6_28 (Or.inl rfl) d_Re_readBracketed_57 ?_
  refine z_iload C 0 rfl d_Re_readBracketed_60 ?_
  rcases zite h with ⟨c1, h⟩ | ⟨c1, h⟩
  · refine z_if_eqt C 77 c1 d_Re_readBracketed_62 (by decide) ?_
    refine z_iconst C (0 : Int32) (by decide) d_Re_readBracketed_77 ?_
    cases h
    exact z_iret C .boolean hret rfl ⟨Nat.zero_le _, Nat.zero_le _⟩ d_Re_readBracketed_78
  · refine z_if_eqf C 77 c1 d_Re_readBracketed_62 (by decide) ?_
    refine z_aload_n C 2 rfl d_Re_readBracketed_65 rfl ?_
    refine z_iload_n C 3 rfl d_Re_readBracketed_66 rfl ?_
    obtain ⟨r3, S4, h2, h⟩ := zb2_some h
    refine z_cV C 9 (by decide) (m_Ta_takeSign l h2) mf_Ta_takeSign lk_6_49 in_Ta_takeSign se_Ta_takeSign rfl zo_44 zk_44 ⟨rfl, rfl⟩ ⟨rm_le_Re_readBracketed_Ta_takeSign.1, rm_le_Re_readBracketed_Ta_takeSign.2⟩ ⟨Nat.zero_le _, Nat.zero_le _⟩ rfl _ [] rfl (Nat.le_of_ble_eq_true rfl) d_Re_readBracketed_67 ?_
    rcases zite h with ⟨c5, h⟩ | ⟨c5, h⟩
    · refine z_if_eqt C 77 c5 d_Re_readBracketed_70 (by decide) ?_
      refine z_iconst C (0 : Int32) (by decide) d_Re_readBracketed_77 ?_
      cases h
      exact z_iret C .boolean hret rfl ⟨Nat.zero_le _, Nat.zero_le _⟩ d_Re_readBracketed_78
    · refine z_if_eqf C 77 c5 d_Re_readBracketed_70 (by decide) ?_
      refine z_iconst C (1 : Int32) (by decide) d_Re_readBracketed_73 ?_
      refine z_goto C 78 d_Re_readBracketed_74 (by decide) ?_
      cases h
      exact z_iret C .boolean hret rfl ⟨Nat.zero_le _, Nat.zero_le _⟩ d_Re_readBracketed_78
set_option maxRecDepth 100000 in
set_option maxHeartbeats 4000000 in
theorem m_Re_readBracketed_o (l : Launch) {c_Re_readSum : zSt → Option (Int32 × zSt)} {c_Re_readTest : zSt → Option (Int32 × zSt)} {dp : Nat} {fu : Nat} {a2 : Int32} {a3 : Int32} {S : zSt} {r : Int32} {S1 : zSt} (hc_Re_readSum : ∀ (S : zSt) (r : Int32) (S1 : zSt), c_Re_readSum  S = some (r, S1) → zPM l y_Re_readSum b_Re_readSum 4 (some .boolean) (rm_g0 dp) true true [zr (some 46), zr (some 44)] S (some (zi r)) S1) (hc_Re_readTest : ∀ (S : zSt) (r : Int32) (S1 : zSt), c_Re_readTest  S = some (r, S1) → zPM l y_Re_readTest b_Re_readTest 4 (some .boolean) (rm_g0 dp) true true [zr (some 46), zr (some 44)] S (some (zi r)) S1) (h : f_Re_readBracketed_o c_Re_readSum c_Re_readTest fu a2 a3 S = some (r, S1)) : zPM l y_Re_readBracketed b_Re_readBracketed 5 (some .boolean) (rm_g0 (dp + 1)) true true [zr (some 46), zr (some 44), zi a2, zi a3] S (some (zi r)) S1 := by
  refine zPM_of (by decide) (Nat.le_of_ble_eq_true rfl) (fun p e s m args below meth c G C hret hname => ?_)
  unfold f_Re_readBracketed_o at h
  refine (?_ : zJ p l e (rm_g0 (dp + 1)) s m args below meth c G true 5 0 0 (zQm below G args s (rm_g0 (dp + 1)) true (some (zi r)) S1) S 0 [(0, zr (some 46)), (1, zr (some 44)), (2, zi a2), (3, zi a3)] [])
  refine z_aload_n C 0 rfl d_Re_readBracketed_0 rfl ?_
  refine z_getI C 6 (by decide) 3 (by decide) rfl zo_46 zk_46 zfl_6_28 d_Re_readBracketed_1 ?_
  refine z_bipush C (8 : Int32) (by decide) d_Re_readBracketed_4 ?_
  rcases zite h with ⟨c1, h⟩ | ⟨c1, h⟩
  · refine z_icmp_get C 17 c1 d_Re_readBracketed_6 (by decide) ?_
    refine z_iconst C (0 : Int32) (by decide) d_Re_readBracketed_17 ?_
    cases h
    exact z_iret C .boolean hret rfl ⟨Nat.zero_le _, Nat.zero_le _⟩ d_Re_readBracketed_18
  · refine z_icmp_gef C 17 c1 d_Re_readBracketed_6 (by decide) ?_
    refine z_aload_n C 1 rfl d_Re_readBracketed_9 rfl ?_
    refine z_iload_n C 2 rfl d_Re_readBracketed_10 rfl ?_
    obtain ⟨r3, S4, h2, h⟩ := zb2_some h
    refine z_cV C 9 (by decide) (m_Ta_takeSign l h2) mf_Ta_takeSign lk_6_49 in_Ta_takeSign se_Ta_takeSign rfl zo_44 zk_44 ⟨rfl, rfl⟩ ⟨rm_le_Re_readBracketed_Ta_takeSign.1, rm_le_Re_readBracketed_Ta_takeSign.2⟩ ⟨Nat.zero_le _, Nat.zero_le _⟩ rfl _ [] rfl (Nat.le_of_ble_eq_true rfl) d_Re_readBracketed_11 ?_
    rcases zite h with ⟨c5, h⟩ | ⟨c5, h⟩
    · refine z_if_nef C 19 c5 d_Re_readBracketed_14 (by decide) ?_
      refine z_iconst C (0 : Int32) (by decide) d_Re_readBracketed_17 ?_
      cases h
      exact z_iret C .boolean hret rfl ⟨Nat.zero_le _, Nat.zero_le _⟩ d_Re_readBracketed_18
    · refine z_if_net C 19 c5 d_Re_readBracketed_14 (by decide) ?_
      refine z_aload_n C 0 rfl d_Re_readBracketed_19 rfl ?_
      refine z_dup C rfl d_Re_readBracketed_20 ?_
      refine z_getI C 6 (by decide) 3 (by decide) rfl zo_46 zk_46 zfl_6_28 d_Re_readBracketed_21 ?_
      refine z_iconst C (1 : Int32) (by decide) d_Re_readBracketed_24 ?_
      refine z_iadd C d_Re_readBracketed_25 ?_
      refine z_putI C 6 (by decide) 3 (by decide) rfl (Or.inl rfl) zo_46 zk_46 zfl_6_28 (Or.inl rfl) d_Re_readBracketed_26 ?_
      refine z_iload_n C 2 rfl d_Re_readBracketed_29 rfl ?_
      refine z_bipush C (40 : Int32) (by decide) d_Re_readBracketed_30 ?_
      rcases zite h with ⟨c6, h⟩ | ⟨c6, h⟩
      · refine z_icmp_nef C 43 c6 d_Re_readBracketed_32 (by decide) ?_
        refine z_aload_n C 0 rfl d_Re_readBracketed_35 rfl ?_
        refine z_aload_n C 1 rfl d_Re_readBracketed_36 rfl ?_
        obtain ⟨r11, S12, h10, h⟩ := zb2_some h
        refine z_cV C 6 (by decide) (hc_Re_readTest (zwI S4 46 3 ((zI S4 46 3) + (1 : Int32))) _ _ h10) mf_Re_readTest lk_6_92 in_Re_readTest se_Re_readTest rfl zo_46 zk_46 ⟨rfl, rfl⟩ ⟨rm_le_Re_readBracketed_Re_readTest.1, rm_le_Re_readBracketed_Re_readTest.2⟩ ⟨Nat.zero_le _, Nat.zero_le _⟩ rfl _ [] rfl (Nat.le_of_ble_eq_true rfl) d_Re_readBracketed_37 ?_
        refine z_goto C 48 d_Re_readBracketed_40 (by decide) ?_
        refine zq_lsub [0, 1, 3] [(0, zr (some 46)), (1, zr (some 44)), (3, zi a3)] rfl ?_
        exact c_Re_readBracketed_48 C hret hc_Re_readSum hc_Re_readTest  a3 r11 S12 h
      · refine z_icmp_net C 43 c6 d_Re_readBracketed_32 (by decide) ?_
        refine z_aload_n C 0 rfl d_Re_readBracketed_43 rfl ?_
        refine z_aload_n C 1 rfl d_Re_readBracketed_44 rfl ?_
        obtain ⟨r8, S9, h7, h⟩ := zb2_some h
        refine z_cV C 6 (by decide) (hc_Re_readSum (zwI S4 46 3 ((zI S4 46 3) + (1 : Int32))) _ _ h7) mf_Re_readSum lk_6_78 in_Re_readSum se_Re_readSum rfl zo_46 zk_46 ⟨rfl, rfl⟩ ⟨rm_le_Re_readBracketed_Re_readSum.1, rm_le_Re_readBracketed_Re_readSum.2⟩ ⟨Nat.zero_le _, Nat.zero_le _⟩ rfl _ [] rfl (Nat.le_of_ble_eq_true rfl) d_Re_readBracketed_45 ?_
        refine zq_lsub [0, 1, 3] [(0, zr (some 46)), (1, zr (some 44)), (3, zi a3)] rfl ?_
        exact c_Re_readBracketed_48 C hret hc_Re_readSum hc_Re_readTest  a3 r8 S9 h
def f_Re_readPart_138 (c_Re_readBracketed : Int32 → Int32 → zSt → Option (Int32 × zSt)) (fu : Nat) (k0 : Int32) (S : zSt) : Option (Int32 × zSt) := if k0 = (-1 : Int32) then some ((0 : Int32), S) else zb1 (f_Tx_emit 47 (1 : Int32) k0 S) (fun S3 => zb1 (f_Ta_next fu S3) (fun S5 => some ((1 : Int32), S5)))
def f_Re_readPart_88 (c_Re_readBracketed : Int32 → Int32 → zSt → Option (Int32 × zSt)) (fu : Nat) (S : zSt) : Option (Int32 × zSt) := if (zI S 46 1) = 0 then if (zI S 46 1) = 0 then zb1 (f_Re_lawWord fu S) (fun r4 => f_Re_readPart_138 c_Re_readBracketed fu r4 S) else zb1 (f_Re_orderWord fu S) (fun r6 => f_Re_readPart_138 c_Re_readBracketed fu r6 S) else zb2 (f_Ta_takeWord fu 13 S) (fun r8 S9 => if r8 = 0 then if (zI S9 46 1) = 0 then zb1 (f_Re_lawWord fu S9) (fun r13 => f_Re_readPart_138 c_Re_readBracketed fu r13 S9) else zb1 (f_Re_orderWord fu S9) (fun r15 => f_Re_readPart_138 c_Re_readBracketed fu r15 S9) else zb2 (f_Re_readWhich fu (14 : Int32) (zwI S9 47 3 (1 : Int32))) (fun r17 S18 => zgd (r17 = 0 ∨ r17 = 1) (some (r17, S18))))
def f_Re_readPart_o (c_Re_readBracketed : Int32 → Int32 → zSt → Option (Int32 × zSt)) (fu : Nat) (S : zSt) : Option (Int32 × zSt) := zb1 (f_Ta_isSign (91 : Int32) S) (fun r2 => if r2 = 0 then if (zI S 46 2) < (50 : Int32) then zb1 (f_Ta_isNumber (zwI S 46 2 ((zI S 46 2) + (1 : Int32)))) (fun r6 => if r6 = 0 then if (zI (zwI S 46 2 ((zI S 46 2) + (1 : Int32))) 46 1) = 0 then f_Re_readPart_88 c_Re_readBracketed fu (zwI S 46 2 ((zI S 46 2) + (1 : Int32))) else zb2 (f_Ta_takeWord fu 12 (zwI S 46 2 ((zI S 46 2) + (1 : Int32)))) (fun r10 S11 => if r10 = 0 then f_Re_readPart_88 c_Re_readBracketed fu S11 else zb2 (f_Re_readWhich fu (5 : Int32) S11) (fun r14 S15 => zgd (r14 = 0 ∨ r14 = 1) (some (r14, S15)))) else zb1 (f_Tx_emit 47 (0 : Int32) (zI (zwI S 46 2 ((zI S 46 2) + (1 : Int32))) 44 5) (zwI S 46 2 ((zI S 46 2) + (1 : Int32)))) (fun S18 => zb1 (f_Ta_next fu S18) (fun S20 => some ((1 : Int32), S20)))) else some ((0 : Int32), S) else zb2 (c_Re_readBracketed (91 : Int32) (93 : Int32) S) (fun r22 S23 => zgd (r22 = 0 ∨ r22 = 1) (some (r22, S23))))
set_option maxRecDepth 100000 in
set_option maxHeartbeats 4000000 in
theorem c_Re_readPart_138 {p : Program} {l : Launch} {e : Env} {s : State} {m : MethodId} {args : Array Value} {below : List Frame} {meth : Method} {c : Code} {G : zG} (C : zC p s m args meth c G b_Re_readPart 3 y_Re_readPart.cls) (hret : meth.sig.returnType = (some .boolean)) {c_Re_readBracketed : Int32 → Int32 → zSt → Option (Int32 × zSt)} {dp : Nat} {fu : Nat} {r : Int32} {S1 : zSt} (hc_Re_readBracketed : ∀ (a2 : Int32) (a3 : Int32) (S : zSt) (r : Int32) (S1 : zSt), c_Re_readBracketed a2 a3 S = some (r, S1) → zPM l y_Re_readBracketed b_Re_readBracketed 5 (some .boolean) (rm_g0 dp) true true [zr (some 46), zr (some 44), zi a2, zi a3] S (some (zi r)) S1) : ∀ (k0 : Int32) (S : zSt) , f_Re_readPart_138 c_Re_readBracketed fu k0 S = some (r, S1) → zJ p l e (rm_g0 (dp + 1)) s m args below meth c G true 3 0 0 (zQm below G args s (rm_g0 (dp + 1)) true (some (zi r)) S1) S 138 [(0, zr (some 46)), (1, zr (some 44))] [zi k0] := by
  intro k0 S h
  unfold f_Re_readPart_138 at h
  refine z_istore_n C [(2, zi k0), (0, zr (some 46)), (1, zr (some 44))] d_Re_readPart_138 rfl (by decide) rfl ?_
  refine z_iload_n C 0 rfl d_Re_readPart_139 rfl ?_
  refine z_iconst C (-1 : Int32) (by decide) d_Re_readPart_140 ?_
  rcases zite h with ⟨c1, h⟩ | ⟨c1, h⟩
  · refine z_icmp_nef C 146 c1 d_Re_readPart_141 (by decide) ?_
    refine z_iconst C (0 : Int32) (by decide) d_Re_readPart_144 ?_
    cases h
    exact z_iret C .boolean hret rfl ⟨Nat.zero_le _, Nat.zero_le _⟩ d_Re_readPart_145
  · refine z_icmp_net C 146 c1 d_Re_readPart_141 (by decide) ?_
    refine z_aload_n C 1 rfl d_Re_readPart_146 rfl ?_
    refine z_getF2 C 6 (by decide) 0 (by decide) rfl 1 0 rfl (47) rfl zp_46 zk_46 zfl_6_14 d_Re_readPart_147 ?_
    refine z_iconst C (1 : Int32) (by decide) d_Re_readPart_150 ?_
    refine z_iload_n C 0 rfl d_Re_readPart_151 rfl ?_
    refine z_fact (fun hSR => ?_)
    obtain ⟨S3, h2, h⟩ := zb1_some h
    refine z_cV C 10 (by decide) (m_Tx_emit l zk_47 (Nat.lt_of_lt_of_le (Nat.le_of_ble_eq_true rfl) hSR.1) h2) mf_Tx_emit lk_6_81 in_Tx_emit se_Tx_emit rfl zo_47 zk_47 ⟨rfl, rfl⟩ ⟨rm_le_Re_readPart_Tx_emit.1, rm_le_Re_readPart_Tx_emit.2⟩ ⟨Nat.zero_le _, Nat.zero_le _⟩ rfl _ [] rfl (Nat.le_of_ble_eq_true rfl) d_Re_readPart_152 ?_
    refine z_aload_n C 2 rfl d_Re_readPart_155 rfl ?_
    obtain ⟨S5, h4, h⟩ := zb1_some h
    refine z_cV C 9 (by decide) (m_Ta_next l h4) mf_Ta_next lk_6_121 in_Ta_next se_Ta_next rfl zo_44 zk_44 ⟨rfl, rfl⟩ ⟨rm_le_Re_readPart_Ta_next.1, rm_le_Re_readPart_Ta_next.2⟩ ⟨Nat.zero_le _, Nat.zero_le _⟩ rfl _ [] rfl (Nat.le_of_ble_eq_true rfl) d_Re_readPart_156 ?_
    refine z_iconst C (1 : Int32) (by decide) d_Re_readPart_159 ?_
    cases h
    exact z_iret C .boolean hret rfl ⟨Nat.zero_le _, Nat.zero_le _⟩ d_Re_readPart_160
set_option maxRecDepth 100000 in
set_option maxHeartbeats 4000000 in
theorem c_Re_readPart_88 {p : Program} {l : Launch} {e : Env} {s : State} {m : MethodId} {args : Array Value} {below : List Frame} {meth : Method} {c : Code} {G : zG} (C : zC p s m args meth c G b_Re_readPart 3 y_Re_readPart.cls) (hret : meth.sig.returnType = (some .boolean)) {c_Re_readBracketed : Int32 → Int32 → zSt → Option (Int32 × zSt)} {dp : Nat} {fu : Nat} {r : Int32} {S1 : zSt} (hc_Re_readBracketed : ∀ (a2 : Int32) (a3 : Int32) (S : zSt) (r : Int32) (S1 : zSt), c_Re_readBracketed a2 a3 S = some (r, S1) → zPM l y_Re_readBracketed b_Re_readBracketed 5 (some .boolean) (rm_g0 dp) true true [zr (some 46), zr (some 44), zi a2, zi a3] S (some (zi r)) S1) : ∀ (S : zSt) , f_Re_readPart_88 c_Re_readBracketed fu  S = some (r, S1) → zJ p l e (rm_g0 (dp + 1)) s m args below meth c G true 3 0 0 (zQm below G args s (rm_g0 (dp + 1)) true (some (zi r)) S1) S 88 [(0, zr (some 46)), (1, zr (some 44))] [] := by
  intro S h
  unfold f_Re_readPart_88 at h
  refine z_aload_n C 0 rfl d_Re_readPart_88 rfl ?_
  refine z_getI C 6 (by decide) 1 (by decide) rfl zo_46 zk_46 zfl_6_20 d_Re_readPart_89 ?_
  rcases zite h with ⟨c1, h⟩ | ⟨c1, h⟩
  · refine z_if_eqt C 120 c1 d_Re_readPart_92 (by decide) ?_
    refine z_aload_n C 0 rfl d_Re_readPart_120 rfl ?_
    refine z_getI C 6 (by decide) 1 (by decide) rfl zo_46 zk_46 zfl_6_20 d_Re_readPart_121 ?_
    rcases zite h with ⟨c2, h⟩ | ⟨c2, h⟩
    · refine z_if_eqt C 134 c2 d_Re_readPart_124 (by decide) ?_
      refine z_aload_n C 1 rfl d_Re_readPart_134 rfl ?_
      obtain ⟨r4, h3, h⟩ := zb1_some h
      refine z_cS C (m_Re_lawWord l h3) mf_Re_lawWord lk_6_172 st_Re_lawWord ⟨rfl, rfl⟩ ⟨rm_le_Re_readPart_Re_lawWord.1, rm_le_Re_readPart_Re_lawWord.2⟩ ⟨Nat.zero_le _, Nat.zero_le _⟩ rfl _ [] rfl (Nat.le_of_ble_eq_true rfl) d_Re_readPart_135 ?_
      refine zq_lsub [0, 1] [(0, zr (some 46)), (1, zr (some 44))] rfl ?_
      exact c_Re_readPart_138 C hret hc_Re_readBracketed  r4 S h
    · refine z_if_eqf C 134 c2 d_Re_readPart_124 (by decide) ?_
      refine z_aload_n C 1 rfl d_Re_readPart_127 rfl ?_
      obtain ⟨r6, h5, h⟩ := zb1_some h
      refine z_cS C (m_Re_orderWord l h5) mf_Re_orderWord lk_6_169 st_Re_orderWord ⟨rfl, rfl⟩ ⟨rm_le_Re_readPart_Re_orderWord.1, rm_le_Re_readPart_Re_orderWord.2⟩ ⟨Nat.zero_le _, Nat.zero_le _⟩ rfl _ [] rfl (Nat.le_of_ble_eq_true rfl) d_Re_readPart_128 ?_
      refine z_goto C 138 d_Re_readPart_131 (by decide) ?_
      refine zq_lsub [0, 1] [(0, zr (some 46)), (1, zr (some 44))] rfl ?_
      exact c_Re_readPart_138 C hret hc_Re_readBracketed  r6 S h
  · refine z_if_eqf C 120 c1 d_Re_readPart_92 (by decide) ?_
    refine z_aload_n C 1 rfl d_Re_readPart_95 rfl ?_
    refine z_ldcS C 13 (by decide) rfl rfl d_Re_readPart_96 ?_
    obtain ⟨r8, S9, h7, h⟩ := zb2_some h
    refine z_cV C 9 (by decide) (m_Ta_takeWord l (by decide) h7) mf_Ta_takeWord lk_6_71 in_Ta_takeWord se_Ta_takeWord rfl zo_44 zk_44 ⟨rfl, rfl⟩ ⟨rm_le_Re_readPart_Ta_takeWord.1, rm_le_Re_readPart_Ta_takeWord.2⟩ ⟨Nat.zero_le _, Nat.zero_le _⟩ rfl _ [] rfl (Nat.le_of_ble_eq_true rfl) d_Re_readPart_98 ?_
    rcases zite h with ⟨c10, h⟩ | ⟨c10, h⟩
    · refine z_if_eqt C 120 c10 d_Re_readPart_101 (by decide) ?_
      refine z_aload_n C 0 rfl d_Re_readPart_120 rfl ?_
      refine z_getI C 6 (by decide) 1 (by decide) rfl zo_46 zk_46 zfl_6_20 d_Re_readPart_121 ?_
      rcases zite h with ⟨c11, h⟩ | ⟨c11, h⟩
      · refine z_if_eqt C 134 c11 d_Re_readPart_124 (by decide) ?_
        refine z_aload_n C 1 rfl d_Re_readPart_134 rfl ?_
        obtain ⟨r13, h12, h⟩ := zb1_some h
        refine z_cS C (m_Re_lawWord l h12) mf_Re_lawWord lk_6_172 st_Re_lawWord ⟨rfl, rfl⟩ ⟨rm_le_Re_readPart_Re_lawWord.1, rm_le_Re_readPart_Re_lawWord.2⟩ ⟨Nat.zero_le _, Nat.zero_le _⟩ rfl _ [] rfl (Nat.le_of_ble_eq_true rfl) d_Re_readPart_135 ?_
        refine zq_lsub [0, 1] [(0, zr (some 46)), (1, zr (some 44))] rfl ?_
        exact c_Re_readPart_138 C hret hc_Re_readBracketed  r13 S9 h
      · refine z_if_eqf C 134 c11 d_Re_readPart_124 (by decide) ?_
        refine z_aload_n C 1 rfl d_Re_readPart_127 rfl ?_
        obtain ⟨r15, h14, h⟩ := zb1_some h
        refine z_cS C (m_Re_orderWord l h14) mf_Re_orderWord lk_6_169 st_Re_orderWord ⟨rfl, rfl⟩ ⟨rm_le_Re_readPart_Re_orderWord.1, rm_le_Re_readPart_Re_orderWord.2⟩ ⟨Nat.zero_le _, Nat.zero_le _⟩ rfl _ [] rfl (Nat.le_of_ble_eq_true rfl) d_Re_readPart_128 ?_
        refine z_goto C 138 d_Re_readPart_131 (by decide) ?_
        refine zq_lsub [0, 1] [(0, zr (some 46)), (1, zr (some 44))] rfl ?_
        exact c_Re_readPart_138 C hret hc_Re_readBracketed  r15 S9 h
    · refine z_if_eqf C 120 c10 d_Re_readPart_101 (by decide) ?_
      refine z_aload_n C 0 rfl d_Re_readPart_104 rfl ?_
      refine z_getF2 C 6 (by decide) 0 (by decide) rfl 1 0 rfl (47) rfl zp_46 zk_46 zfl_6_14 d_Re_readPart_105 ?_
      refine z_iconst C (1 : Int32) (by decide) d_Re_readPart_108 ?_
      refine z_putI C 10 (by decide) 3 (by decide) rfl (Or.inr (Or.inr rfl)) zo_47 zk_47 zfl_6_166 (Or.inl rfl) d_Re_readPart_109 ?_
      refine z_aload_n C 0 rfl d_Re_readPart_112 rfl ?_
      refine z_aload_n C 1 rfl d_Re_readPart_113 rfl ?_
      refine z_bipush C (14 : Int32) (by decide) d_Re_readPart_114 ?_
      obtain ⟨r17, S18, h16, h⟩ := zb2_some h
      refine z_cV C 6 (by decide) (m_Re_readWhich l h16) mf_Re_readWhich lk_6_160 in_Re_readWhich se_Re_readWhich rfl zo_46 zk_46 ⟨rfl, rfl⟩ ⟨rm_le_Re_readPart_Re_readWhich.1, rm_le_Re_readPart_Re_readWhich.2⟩ ⟨Nat.zero_le _, Nat.zero_le _⟩ rfl _ [] rfl (Nat.le_of_ble_eq_true rfl) d_Re_readPart_116 ?_
      obtain ⟨g19, h⟩ := zgd_some h
      cases h
      exact z_iret C .boolean hret (by rcases g19 with e | e <;> rw [e] <;> rfl) ⟨Nat.zero_le _, Nat.zero_le _⟩ d_Re_readPart_119
set_option maxRecDepth 100000 in
set_option maxHeartbeats 4000000 in
theorem m_Re_readPart_o (l : Launch) {c_Re_readBracketed : Int32 → Int32 → zSt → Option (Int32 × zSt)} {dp : Nat} {fu : Nat} {S : zSt} {r : Int32} {S1 : zSt} (hc_Re_readBracketed : ∀ (a2 : Int32) (a3 : Int32) (S : zSt) (r : Int32) (S1 : zSt), c_Re_readBracketed a2 a3 S = some (r, S1) → zPM l y_Re_readBracketed b_Re_readBracketed 5 (some .boolean) (rm_g0 dp) true true [zr (some 46), zr (some 44), zi a2, zi a3] S (some (zi r)) S1) (h : f_Re_readPart_o c_Re_readBracketed fu  S = some (r, S1)) : zPM l y_Re_readPart b_Re_readPart 3 (some .boolean) (rm_g0 (dp + 1)) true true [zr (some 46), zr (some 44)] S (some (zi r)) S1 := by
  refine zPM_of (by decide) (Nat.le_of_ble_eq_true rfl) (fun p e s m args below meth c G C hret hname => ?_)
  unfold f_Re_readPart_o at h
  refine (?_ : zJ p l e (rm_g0 (dp + 1)) s m args below meth c G true 3 0 0 (zQm below G args s (rm_g0 (dp + 1)) true (some (zi r)) S1) S 0 [(0, zr (some 46)), (1, zr (some 44))] [])
  refine z_aload_n C 1 rfl d_Re_readPart_0 rfl ?_
  refine z_bipush C (91 : Int32) (by decide) d_Re_readPart_1 ?_
  obtain ⟨r2, h1, h⟩ := zb1_some h
  refine z_cV C 9 (by decide) (m_Ta_isSign l h1) mf_Ta_isSign lk_6_142 in_Ta_isSign se_Ta_isSign rfl zo_44 zk_44 ⟨rfl, rfl⟩ ⟨rm_le_Re_readPart_Ta_isSign.1, rm_le_Re_readPart_Ta_isSign.2⟩ ⟨Nat.zero_le _, Nat.zero_le _⟩ rfl _ [] rfl (Nat.le_of_ble_eq_true rfl) d_Re_readPart_3 ?_
  rcases zite h with ⟨c3, h⟩ | ⟨c3, h⟩
  · refine z_if_eqt C 19 c3 d_Re_readPart_6 (by decide) ?_
    refine z_aload_n C 0 rfl d_Re_readPart_19 rfl ?_
    refine z_getI C 6 (by decide) 2 (by decide) rfl zo_46 zk_46 zfl_6_24 d_Re_readPart_20 ?_
    refine z_bipush C (50 : Int32) (by decide) d_Re_readPart_23 ?_
    rcases zite h with ⟨c4, h⟩ | ⟨c4, h⟩
    · refine z_icmp_ltt C 30 c4 d_Re_readPart_25 (by decide) ?_
      refine z_aload_n C 0 rfl d_Re_readPart_30 rfl ?_
      refine z_dup C rfl d_Re_readPart_31 ?_
      refine z_getI C 6 (by decide) 2 (by decide) rfl zo_46 zk_46 zfl_6_24 d_Re_readPart_32 ?_
      refine z_iconst C (1 : Int32) (by decide) d_Re_readPart_35 ?_
      refine z_iadd C d_Re_readPart_36 ?_
      refine z_putI C 6 (by decide) 2 (by decide) rfl (Or.inl rfl) zo_46 zk_46 zfl_6_24 (Or.inl rfl) d_Re_readPart_37 ?_
      refine z_aload_n C 1 rfl d_Re_readPart_40 rfl ?_
      obtain ⟨r6, h5, h⟩ := zb1_some h
      refine z_cV C 9 (by decide) (m_Ta_isNumber l h5) mf_Ta_isNumber lk_6_111 in_Ta_isNumber se_Ta_isNumber rfl zo_44 zk_44 ⟨rfl, rfl⟩ ⟨rm_le_Re_readPart_Ta_isNumber.1, rm_le_Re_readPart_Ta_isNumber.2⟩ ⟨Nat.zero_le _, Nat.zero_le _⟩ rfl _ [] rfl (Nat.le_of_ble_eq_true rfl) d_Re_readPart_41 ?_
      rcases zite h with ⟨c7, h⟩ | ⟨c7, h⟩
      · refine z_if_eqt C 65 c7 d_Re_readPart_44 (by decide) ?_
        refine z_aload_n C 0 rfl d_Re_readPart_65 rfl ?_
        refine z_getI C 6 (by decide) 1 (by decide) rfl zo_46 zk_46 zfl_6_20 d_Re_readPart_66 ?_
        rcases zite h with ⟨c8, h⟩ | ⟨c8, h⟩
        · refine z_if_eqt C 88 c8 d_Re_readPart_69 (by decide) ?_
          refine zq_lsub [0, 1] [(0, zr (some 46)), (1, zr (some 44))] rfl ?_
          exact c_Re_readPart_88 C hret hc_Re_readBracketed   (zwI S 46 2 ((zI S 46 2) + (1 : Int32))) h
        · refine z_if_eqf C 88 c8 d_Re_readPart_69 (by decide) ?_
          refine z_aload_n C 1 rfl d_Re_readPart_72 rfl ?_
          refine z_ldcS C 12 (by decide) rfl rfl d_Re_readPart_73 ?_
          obtain ⟨r10, S11, h9, h⟩ := zb2_some h
          refine z_cV C 9 (by decide) (m_Ta_takeWord l (by decide) h9) mf_Ta_takeWord lk_6_71 in_Ta_takeWord se_Ta_takeWord rfl zo_44 zk_44 ⟨rfl, rfl⟩ ⟨rm_le_Re_readPart_Ta_takeWord.1, rm_le_Re_readPart_Ta_takeWord.2⟩ ⟨Nat.zero_le _, Nat.zero_le _⟩ rfl _ [] rfl (Nat.le_of_ble_eq_true rfl) d_Re_readPart_75 ?_
          rcases zite h with ⟨c12, h⟩ | ⟨c12, h⟩
          · refine z_if_eqt C 88 c12 d_Re_readPart_78 (by decide) ?_
            refine zq_lsub [0, 1] [(0, zr (some 46)), (1, zr (some 44))] rfl ?_
            exact c_Re_readPart_88 C hret hc_Re_readBracketed   S11 h
          · refine z_if_eqf C 88 c12 d_Re_readPart_78 (by decide) ?_
            refine z_aload_n C 0 rfl d_Re_readPart_81 rfl ?_
            refine z_aload_n C 1 rfl d_Re_readPart_82 rfl ?_
            refine z_iconst C (5 : Int32) (by decide) d_Re_readPart_83 ?_
            obtain ⟨r14, S15, h13, h⟩ := zb2_some h
            refine z_cV C 6 (by decide) (m_Re_readWhich l h13) mf_Re_readWhich lk_6_160 in_Re_readWhich se_Re_readWhich rfl zo_46 zk_46 ⟨rfl, rfl⟩ ⟨rm_le_Re_readPart_Re_readWhich.1, rm_le_Re_readPart_Re_readWhich.2⟩ ⟨Nat.zero_le _, Nat.zero_le _⟩ rfl _ [] rfl (Nat.le_of_ble_eq_true rfl) d_Re_readPart_84 ?_
            obtain ⟨g16, h⟩ := zgd_some h
            cases h
            exact z_iret C .boolean hret (by rcases g16 with e | e <;> rw [e] <;> rfl) ⟨Nat.zero_le _, Nat.zero_le _⟩ d_Re_readPart_87
      · refine z_if_eqf C 65 c7 d_Re_readPart_44 (by decide) ?_
        refine z_aload_n C 0 rfl d_Re_readPart_47 rfl ?_
        refine z_getF2 C 6 (by decide) 0 (by decide) rfl 1 0 rfl (47) rfl zp_46 zk_46 zfl_6_14 d_Re_readPart_48 ?_
        refine z_iconst C (0 : Int32) (by decide) d_Re_readPart_51 ?_
        refine z_aload_n C 1 rfl d_Re_readPart_52 rfl ?_
        refine z_getI C 9 (by decide) 5 (by decide) rfl zo_44 zk_44 zfl_6_115 d_Re_readPart_53 ?_
        refine z_fact (fun hSR => ?_)
        obtain ⟨S18, h17, h⟩ := zb1_some h
        refine z_cV C 10 (by decide) (m_Tx_emit l zk_47 (Nat.lt_of_lt_of_le (Nat.le_of_ble_eq_true rfl) hSR.1) h17) mf_Tx_emit lk_6_81 in_Tx_emit se_Tx_emit rfl zo_47 zk_47 ⟨rfl, rfl⟩ ⟨rm_le_Re_readPart_Tx_emit.1, rm_le_Re_readPart_Tx_emit.2⟩ ⟨Nat.zero_le _, Nat.zero_le _⟩ rfl _ [] rfl (Nat.le_of_ble_eq_true rfl) d_Re_readPart_56 ?_
        refine z_aload_n C 1 rfl d_Re_readPart_59 rfl ?_
        obtain ⟨S20, h19, h⟩ := zb1_some h
        refine z_cV C 9 (by decide) (m_Ta_next l h19) mf_Ta_next lk_6_121 in_Ta_next se_Ta_next rfl zo_44 zk_44 ⟨rfl, rfl⟩ ⟨rm_le_Re_readPart_Ta_next.1, rm_le_Re_readPart_Ta_next.2⟩ ⟨Nat.zero_le _, Nat.zero_le _⟩ rfl _ [] rfl (Nat.le_of_ble_eq_true rfl) d_Re_readPart_60 ?_
        refine z_iconst C (1 : Int32) (by decide) d_Re_readPart_63 ?_
        cases h
        exact z_iret C .boolean hret rfl ⟨Nat.zero_le _, Nat.zero_le _⟩ d_Re_readPart_64
    · refine z_icmp_ltf C 30 c4 d_Re_readPart_25 (by decide) ?_
      refine z_iconst C (0 : Int32) (by decide) d_Re_readPart_28 ?_
      cases h
      exact z_iret C .boolean hret rfl ⟨Nat.zero_le _, Nat.zero_le _⟩ d_Re_readPart_29
  · refine z_if_eqf C 19 c3 d_Re_readPart_6 (by decide) ?_
    refine z_aload_n C 0 rfl d_Re_readPart_9 rfl ?_
    refine z_aload_n C 1 rfl d_Re_readPart_10 rfl ?_
    refine z_bipush C (91 : Int32) (by decide) d_Re_readPart_11 ?_
    refine z_bipush C (93 : Int32) (by decide) d_Re_readPart_13 ?_
    obtain ⟨r22, S23, h21, h⟩ := zb2_some h
    refine z_cV C 6 (by decide) (hc_Re_readBracketed (91 : Int32) (93 : Int32) S _ _ h21) mf_Re_readBracketed lk_6_145 in_Re_readBracketed se_Re_readBracketed rfl zo_46 zk_46 ⟨rfl, rfl⟩ ⟨rm_le_Re_readPart_Re_readBracketed.1, rm_le_Re_readPart_Re_readBracketed.2⟩ ⟨Nat.zero_le _, Nat.zero_le _⟩ rfl _ [] rfl (Nat.le_of_ble_eq_true rfl) d_Re_readPart_15 ?_
    obtain ⟨g24, h⟩ := zgd_some h
    cases h
    exact z_iret C .boolean hret (by rcases g24 with e | e <;> rw [e] <;> rfl) ⟨Nat.zero_le _, Nat.zero_le _⟩ d_Re_readPart_18
def f_Re_readTerm_63 (c_Re_readPart : zSt → Option (Int32 × zSt)) (fu : Nat) (k12 : Int32 → zSt → Option (Int32 × zSt)) (a2 : Int32) (a3 : Int32) (S : zSt) : Option (Int32 × zSt) := zb1 (f_Ta_next fu S) (fun S2 => zb2 (c_Re_readPart S2) (fun r4 S5 => if r4 = 0 then some ((0 : Int32), S5) else zb1 (f_Tx_emit 47 a3 (0 : Int32) S5) (fun S8 => k12 (a2 + (1 : Int32)) S8)))
def f_Re_readTerm_12 (c_Re_readPart : zSt → Option (Int32 × zSt)) (fu : Nat) : Nat → Int32 → zSt → Option (Int32 × zSt)
  | 0, _, _ => none
  | n + 1, a2, S => if (400 : Int32) ≤ a2 then some ((1 : Int32), S) else zb1 (f_Ta_isSign (42 : Int32) S) (fun r3 => if r3 = 0 then zb1 (f_Ta_isSign (47 : Int32) S) (fun r6 => if r6 = 0 then zb1 (f_Ta_isSign (37 : Int32) S) (fun r9 => if r9 = 0 then some ((1 : Int32), S) else f_Re_readTerm_63 c_Re_readPart fu (f_Re_readTerm_12 c_Re_readPart fu n) a2 (9 : Int32) S) else f_Re_readTerm_63 c_Re_readPart fu (f_Re_readTerm_12 c_Re_readPart fu n) a2 (8 : Int32) S) else f_Re_readTerm_63 c_Re_readPart fu (f_Re_readTerm_12 c_Re_readPart fu n) a2 (7 : Int32) S)
def f_Re_readTerm_o (c_Re_readPart : zSt → Option (Int32 × zSt)) (fu : Nat) (S : zSt) : Option (Int32 × zSt) := zb2 (c_Re_readPart S) (fun r2 S3 => if r2 = 0 then some ((0 : Int32), S3) else f_Re_readTerm_12 c_Re_readPart fu fu (0 : Int32) S3)
set_option maxRecDepth 100000 in
set_option maxHeartbeats 4000000 in
theorem c_Re_readTerm_63 {p : Program} {l : Launch} {e : Env} {s : State} {m : MethodId} {args : Array Value} {below : List Frame} {meth : Method} {c : Code} {G : zG} (C : zC p s m args meth c G b_Re_readTerm 4 y_Re_readTerm.cls) (hret : meth.sig.returnType = (some .boolean)) {c_Re_readPart : zSt → Option (Int32 × zSt)} {dp : Nat} {fu : Nat} {r : Int32} {S1 : zSt} (hc_Re_readPart : ∀ (S : zSt) (r : Int32) (S1 : zSt), c_Re_readPart  S = some (r, S1) → zPM l y_Re_readPart b_Re_readPart 3 (some .boolean) (rm_g0 dp) true true [zr (some 46), zr (some 44)] S (some (zi r)) S1) {k12 : Int32 → zSt → Option (Int32 × zSt)} (hk12 : ∀ (a2 : Int32) (S : zSt) , k12 a2 S = some (r, S1) → zJ p l e (rm_g0 (dp + 1)) s m args below meth c G true 4 0 0 (zQm below G args s (rm_g0 (dp + 1)) true (some (zi r)) S1) S 12 [(0, zr (some 46)), (1, zr (some 44)), (2, zi a2)] []) : ∀ (a2 : Int32) (a3 : Int32) (S : zSt) , f_Re_readTerm_63 c_Re_readPart fu k12 a2 a3 S = some (r, S1) → zJ p l e (rm_g0 (dp + 1)) s m args below meth c G true 4 0 0 (zQm below G args s (rm_g0 (dp + 1)) true (some (zi r)) S1) S 63 [(0, zr (some 46)), (1, zr (some 44)), (2, zi a2), (3, zi a3)] [] := by
  intro a2 a3 S h
  unfold f_Re_readTerm_63 at h
  refine z_aload_n C 1 rfl d_Re_readTerm_63 rfl ?_
  obtain ⟨S2, h1, h⟩ := zb1_some h
  refine z_cV C 9 (by decide) (m_Ta_next l h1) mf_Ta_next lk_6_121 in_Ta_next se_Ta_next rfl zo_44 zk_44 ⟨rfl, rfl⟩ ⟨rm_le_Re_readTerm_Ta_next.1, rm_le_Re_readTerm_Ta_next.2⟩ ⟨Nat.zero_le _, Nat.zero_le _⟩ rfl _ [] rfl (Nat.le_of_ble_eq_true rfl) d_Re_readTerm_64 ?_
  refine z_aload_n C 0 rfl d_Re_readTerm_67 rfl ?_
  refine z_aload_n C 1 rfl d_Re_readTerm_68 rfl ?_
  obtain ⟨r4, S5, h3, h⟩ := zb2_some h
  refine z_cV C 6 (by decide) (hc_Re_readPart S2 _ _ h3) mf_Re_readPart lk_6_155 in_Re_readPart se_Re_readPart rfl zo_46 zk_46 ⟨rfl, rfl⟩ ⟨rm_le_Re_readTerm_Re_readPart.1, rm_le_Re_readTerm_Re_readPart.2⟩ ⟨Nat.zero_le _, Nat.zero_le _⟩ rfl _ [] rfl (Nat.le_of_ble_eq_true rfl) d_Re_readTerm_69 ?_
  rcases zite h with ⟨c6, h⟩ | ⟨c6, h⟩
  · refine z_if_nef C 77 c6 d_Re_readTerm_72 (by decide) ?_
    refine z_iconst C (0 : Int32) (by decide) d_Re_readTerm_75 ?_
    cases h
    exact z_iret C .boolean hret rfl ⟨Nat.zero_le _, Nat.zero_le _⟩ d_Re_readTerm_76
  · refine z_if_net C 77 c6 d_Re_readTerm_72 (by decide) ?_
    refine z_aload_n C 0 rfl d_Re_readTerm_77 rfl ?_
    refine z_getF2 C 6 (by decide) 0 (by decide) rfl 1 0 rfl (47) rfl zp_46 zk_46 zfl_6_14 d_Re_readTerm_78 ?_
    refine z_iload_n C 3 rfl d_Re_readTerm_81 rfl ?_
    refine z_iconst C (0 : Int32) (by decide) d_Re_readTerm_82 ?_
    refine z_fact (fun hSR => ?_)
    obtain ⟨S8, h7, h⟩ := zb1_some h
    refine z_cV C 10 (by decide) (m_Tx_emit l zk_47 (Nat.lt_of_lt_of_le (Nat.le_of_ble_eq_true rfl) hSR.1) h7) mf_Tx_emit lk_6_81 in_Tx_emit se_Tx_emit rfl zo_47 zk_47 ⟨rfl, rfl⟩ ⟨rm_le_Re_readTerm_Tx_emit.1, rm_le_Re_readTerm_Tx_emit.2⟩ ⟨Nat.zero_le _, Nat.zero_le _⟩ rfl _ [] rfl (Nat.le_of_ble_eq_true rfl) d_Re_readTerm_83 ?_
    refine z_iinc C 2 (a2 + (1 : Int32)) [(2, zi (a2 + (1 : Int32))), (0, zr (some 46)), (1, zr (some 44)), (3, zi a3)] rfl d_Re_readTerm_86 (by first | rfl | decide) (by decide) rfl ?_
    refine z_goto C 12 d_Re_readTerm_89 (by decide) ?_
    refine zq_lsub [1, 2, 0] [(0, zr (some 46)), (1, zr (some 44)), (2, zi (a2 + (1 : Int32)))] rfl ?_
    exact hk12 (a2 + (1 : Int32)) S8 h
set_option maxRecDepth 100000 in
set_option maxHeartbeats 4000000 in
theorem c_Re_readTerm_12 {p : Program} {l : Launch} {e : Env} {s : State} {m : MethodId} {args : Array Value} {below : List Frame} {meth : Method} {c : Code} {G : zG} (C : zC p s m args meth c G b_Re_readTerm 4 y_Re_readTerm.cls) (hret : meth.sig.returnType = (some .boolean)) {c_Re_readPart : zSt → Option (Int32 × zSt)} {dp : Nat} {fu : Nat} {r : Int32} {S1 : zSt} (hc_Re_readPart : ∀ (S : zSt) (r : Int32) (S1 : zSt), c_Re_readPart  S = some (r, S1) → zPM l y_Re_readPart b_Re_readPart 3 (some .boolean) (rm_g0 dp) true true [zr (some 46), zr (some 44)] S (some (zi r)) S1) : ∀ (n : Nat) (a2 : Int32) (S : zSt) , f_Re_readTerm_12 c_Re_readPart fu n a2 S = some (r, S1) → zJ p l e (rm_g0 (dp + 1)) s m args below meth c G true 4 0 0 (zQm below G args s (rm_g0 (dp + 1)) true (some (zi r)) S1) S 12 [(0, zr (some 46)), (1, zr (some 44)), (2, zi a2)] [] := by
  intro n
  induction n with
  | zero =>
    intro a2 S h
    cases h
  | succ n ih =>
    intro a2 S h
    rw [f_Re_readTerm_12] at h
    refine z_iload_n C 2 rfl d_Re_readTerm_12 rfl ?_
    refine z_sipush C (400 : Int32) (by decide) d_Re_readTerm_13 ?_
    rcases zite h with ⟨c1, h⟩ | ⟨c1, h⟩
    · refine z_icmp_get C 92 c1 d_Re_readTerm_16 (by decide) ?_
      refine z_iconst C (1 : Int32) (by decide) d_Re_readTerm_92 ?_
      cases h
      exact z_iret C .boolean hret rfl ⟨Nat.zero_le _, Nat.zero_le _⟩ d_Re_readTerm_93
    · refine z_icmp_gef C 92 c1 d_Re_readTerm_16 (by decide) ?_
      refine z_bipush C (9 : Int32) (by decide) d_Re_readTerm_19 ?_
      refine z_istore_n C [(3, zi (9 : Int32)), (0, zr (some 46)), (1, zr (some 44)), (2, zi a2)] d_Re_readTerm_21 rfl (by decide) rfl ?_
      refine z_aload_n C 2 rfl d_Re_readTerm_22 rfl ?_
      refine z_bipush C (42 : Int32) (by decide) d_Re_readTerm_23 ?_
      obtain ⟨r3, h2, h⟩ := zb1_some h
      refine z_cV C 9 (by decide) (m_Ta_isSign l h2) mf_Ta_isSign lk_6_142 in_Ta_isSign se_Ta_isSign rfl zo_44 zk_44 ⟨rfl, rfl⟩ ⟨rm_le_Re_readTerm_Ta_isSign.1, rm_le_Re_readTerm_Ta_isSign.2⟩ ⟨Nat.zero_le _, Nat.zero_le _⟩ rfl _ [] rfl (Nat.le_of_ble_eq_true rfl) d_Re_readTerm_25 ?_
      rcases zite h with ⟨c4, h⟩ | ⟨c4, h⟩
      · refine z_if_eqt C 37 c4 d_Re_readTerm_28 (by decide) ?_
        refine z_aload_n C 2 rfl d_Re_readTerm_37 rfl ?_
        refine z_bipush C (47 : Int32) (by decide) d_Re_readTerm_38 ?_
        obtain ⟨r6, h5, h⟩ := zb1_some h
        refine z_cV C 9 (by decide) (m_Ta_isSign l h5) mf_Ta_isSign lk_6_142 in_Ta_isSign se_Ta_isSign rfl zo_44 zk_44 ⟨rfl, rfl⟩ ⟨rm_le_Re_readTerm_Ta_isSign.1, rm_le_Re_readTerm_Ta_isSign.2⟩ ⟨Nat.zero_le _, Nat.zero_le _⟩ rfl _ [] rfl (Nat.le_of_ble_eq_true rfl) d_Re_readTerm_40 ?_
        rcases zite h with ⟨c7, h⟩ | ⟨c7, h⟩
        · refine z_if_eqt C 52 c7 d_Re_readTerm_43 (by decide) ?_
          refine z_aload_n C 2 rfl d_Re_readTerm_52 rfl ?_
          refine z_bipush C (37 : Int32) (by decide) d_Re_readTerm_53 ?_
          obtain ⟨r9, h8, h⟩ := zb1_some h
          refine z_cV C 9 (by decide) (m_Ta_isSign l h8) mf_Ta_isSign lk_6_142 in_Ta_isSign se_Ta_isSign rfl zo_44 zk_44 ⟨rfl, rfl⟩ ⟨rm_le_Re_readTerm_Ta_isSign.1, rm_le_Re_readTerm_Ta_isSign.2⟩ ⟨Nat.zero_le _, Nat.zero_le _⟩ rfl _ [] rfl (Nat.le_of_ble_eq_true rfl) d_Re_readTerm_55 ?_
          rcases zite h with ⟨c10, h⟩ | ⟨c10, h⟩
          · refine z_if_nef C 63 c10 d_Re_readTerm_58 (by decide) ?_
            refine z_iconst C (1 : Int32) (by decide) d_Re_readTerm_61 ?_
            cases h
            exact z_iret C .boolean hret rfl ⟨Nat.zero_le _, Nat.zero_le _⟩ d_Re_readTerm_62
          · refine z_if_net C 63 c10 d_Re_readTerm_58 (by decide) ?_
            refine zq_lsub [1, 2, 3, 0] [(0, zr (some 46)), (1, zr (some 44)), (2, zi a2), (3, zi (9 : Int32))] rfl ?_
            exact c_Re_readTerm_63 C hret hc_Re_readPart (fun z0 zS zh => ih z0 zS zh)  a2 (9 : Int32) S h
        · refine z_if_eqf C 52 c7 d_Re_readTerm_43 (by decide) ?_
          refine z_bipush C (8 : Int32) (by decide) d_Re_readTerm_46 ?_
          refine z_istore_n C [(3, zi (8 : Int32)), (0, zr (some 46)), (1, zr (some 44)), (2, zi a2)] d_Re_readTerm_48 rfl (by decide) rfl ?_
          refine z_goto C 63 d_Re_readTerm_49 (by decide) ?_
          refine zq_lsub [1, 2, 3, 0] [(0, zr (some 46)), (1, zr (some 44)), (2, zi a2), (3, zi (8 : Int32))] rfl ?_
          exact c_Re_readTerm_63 C hret hc_Re_readPart (fun z0 zS zh => ih z0 zS zh)  a2 (8 : Int32) S h
      · refine z_if_eqf C 37 c4 d_Re_readTerm_28 (by decide) ?_
        refine z_bipush C (7 : Int32) (by decide) d_Re_readTerm_31 ?_
        refine z_istore_n C [(3, zi (7 : Int32)), (0, zr (some 46)), (1, zr (some 44)), (2, zi a2)] d_Re_readTerm_33 rfl (by decide) rfl ?_
        refine z_goto C 63 d_Re_readTerm_34 (by decide) ?_
        refine zq_lsub [1, 2, 3, 0] [(0, zr (some 46)), (1, zr (some 44)), (2, zi a2), (3, zi (7 : Int32))] rfl ?_
        exact c_Re_readTerm_63 C hret hc_Re_readPart (fun z0 zS zh => ih z0 zS zh)  a2 (7 : Int32) S h
set_option maxRecDepth 100000 in
set_option maxHeartbeats 4000000 in
theorem m_Re_readTerm_o (l : Launch) {c_Re_readPart : zSt → Option (Int32 × zSt)} {dp : Nat} {fu : Nat} {S : zSt} {r : Int32} {S1 : zSt} (hc_Re_readPart : ∀ (S : zSt) (r : Int32) (S1 : zSt), c_Re_readPart  S = some (r, S1) → zPM l y_Re_readPart b_Re_readPart 3 (some .boolean) (rm_g0 dp) true true [zr (some 46), zr (some 44)] S (some (zi r)) S1) (h : f_Re_readTerm_o c_Re_readPart fu  S = some (r, S1)) : zPM l y_Re_readTerm b_Re_readTerm 4 (some .boolean) (rm_g0 (dp + 1)) true true [zr (some 46), zr (some 44)] S (some (zi r)) S1 := by
  refine zPM_of (by decide) (Nat.le_of_ble_eq_true rfl) (fun p e s m args below meth c G C hret hname => ?_)
  unfold f_Re_readTerm_o at h
  refine (?_ : zJ p l e (rm_g0 (dp + 1)) s m args below meth c G true 4 0 0 (zQm below G args s (rm_g0 (dp + 1)) true (some (zi r)) S1) S 0 [(0, zr (some 46)), (1, zr (some 44))] [])
  refine z_aload_n C 0 rfl d_Re_readTerm_0 rfl ?_
  refine z_aload_n C 1 rfl d_Re_readTerm_1 rfl ?_
  obtain ⟨r2, S3, h1, h⟩ := zb2_some h
  refine z_cV C 6 (by decide) (hc_Re_readPart S _ _ h1) mf_Re_readPart lk_6_155 in_Re_readPart se_Re_readPart rfl zo_46 zk_46 ⟨rfl, rfl⟩ ⟨rm_le_Re_readTerm_Re_readPart.1, rm_le_Re_readTerm_Re_readPart.2⟩ ⟨Nat.zero_le _, Nat.zero_le _⟩ rfl _ [] rfl (Nat.le_of_ble_eq_true rfl) d_Re_readTerm_2 ?_
  rcases zite h with ⟨c4, h⟩ | ⟨c4, h⟩
  · refine z_if_nef C 10 c4 d_Re_readTerm_5 (by decide) ?_
    refine z_iconst C (0 : Int32) (by decide) d_Re_readTerm_8 ?_
    cases h
    exact z_iret C .boolean hret rfl ⟨Nat.zero_le _, Nat.zero_le _⟩ d_Re_readTerm_9
  · refine z_if_net C 10 c4 d_Re_readTerm_5 (by decide) ?_
    refine z_iconst C (0 : Int32) (by decide) d_Re_readTerm_10 ?_
    refine z_istore_n C [(2, zi (0 : Int32)), (0, zr (some 46)), (1, zr (some 44))] d_Re_readTerm_11 rfl (by decide) rfl ?_
    refine zq_lsub [1, 2, 0] [(0, zr (some 46)), (1, zr (some 44)), (2, zi (0 : Int32))] rfl ?_
    exact c_Re_readTerm_12 C hret hc_Re_readPart fu  (0 : Int32) S3 h
def f_Re_readSum_52 (c_Re_readTerm : zSt → Option (Int32 × zSt)) (fu : Nat) (k12 : Int32 → zSt → Option (Int32 × zSt)) (a2 : Int32) (k0 : Int32) (S : zSt) : Option (Int32 × zSt) := zb1 (f_Ta_next fu S) (fun S2 => zb2 (c_Re_readTerm S2) (fun r4 S5 => if r4 = 0 then some ((0 : Int32), S5) else zb1 (f_Tx_emit 47 k0 (0 : Int32) S5) (fun S8 => k12 (a2 + (1 : Int32)) S8)))
def f_Re_readSum_12 (c_Re_readTerm : zSt → Option (Int32 × zSt)) (fu : Nat) : Nat → Int32 → zSt → Option (Int32 × zSt)
  | 0, _, _ => none
  | n + 1, a2, S => if (400 : Int32) ≤ a2 then some ((1 : Int32), S) else zb1 (f_Ta_isSign (43 : Int32) S) (fun r3 => if r3 = 0 then zb1 (f_Ta_isSign (45 : Int32) S) (fun r9 => if r9 = 0 then some ((1 : Int32), S) else zb1 (f_Ta_isSign (43 : Int32) S) (fun r12 => if r12 = 0 then f_Re_readSum_52 c_Re_readTerm fu (f_Re_readSum_12 c_Re_readTerm fu n) a2 (6 : Int32) S else f_Re_readSum_52 c_Re_readTerm fu (f_Re_readSum_12 c_Re_readTerm fu n) a2 (5 : Int32) S)) else zb1 (f_Ta_isSign (43 : Int32) S) (fun r6 => if r6 = 0 then f_Re_readSum_52 c_Re_readTerm fu (f_Re_readSum_12 c_Re_readTerm fu n) a2 (6 : Int32) S else f_Re_readSum_52 c_Re_readTerm fu (f_Re_readSum_12 c_Re_readTerm fu n) a2 (5 : Int32) S))
def f_Re_readSum_o (c_Re_readTerm : zSt → Option (Int32 × zSt)) (fu : Nat) (S : zSt) : Option (Int32 × zSt) := zb2 (c_Re_readTerm S) (fun r2 S3 => if r2 = 0 then some ((0 : Int32), S3) else f_Re_readSum_12 c_Re_readTerm fu fu (0 : Int32) S3)
set_option maxRecDepth 100000 in
set_option maxHeartbeats 4000000 in
theorem c_Re_readSum_52 {p : Program} {l : Launch} {e : Env} {s : State} {m : MethodId} {args : Array Value} {below : List Frame} {meth : Method} {c : Code} {G : zG} (C : zC p s m args meth c G b_Re_readSum 4 y_Re_readSum.cls) (hret : meth.sig.returnType = (some .boolean)) {c_Re_readTerm : zSt → Option (Int32 × zSt)} {dp : Nat} {fu : Nat} {r : Int32} {S1 : zSt} (hc_Re_readTerm : ∀ (S : zSt) (r : Int32) (S1 : zSt), c_Re_readTerm  S = some (r, S1) → zPM l y_Re_readTerm b_Re_readTerm 4 (some .boolean) (rm_g0 dp) true true [zr (some 46), zr (some 44)] S (some (zi r)) S1) {k12 : Int32 → zSt → Option (Int32 × zSt)} (hk12 : ∀ (a2 : Int32) (S : zSt) , k12 a2 S = some (r, S1) → zJ p l e (rm_g0 (dp + 1)) s m args below meth c G true 4 0 0 (zQm below G args s (rm_g0 (dp + 1)) true (some (zi r)) S1) S 12 [(0, zr (some 46)), (1, zr (some 44)), (2, zi a2)] []) : ∀ (a2 : Int32) (k0 : Int32) (S : zSt) , f_Re_readSum_52 c_Re_readTerm fu k12 a2 k0 S = some (r, S1) → zJ p l e (rm_g0 (dp + 1)) s m args below meth c G true 4 0 0 (zQm below G args s (rm_g0 (dp + 1)) true (some (zi r)) S1) S 52 [(0, zr (some 46)), (1, zr (some 44)), (2, zi a2)] [zi k0] := by
  intro a2 k0 S h
  unfold f_Re_readSum_52 at h
  refine z_istore_n C [(3, zi k0), (0, zr (some 46)), (1, zr (some 44)), (2, zi a2)] d_Re_readSum_52 rfl (by decide) rfl ?_
  refine z_aload_n C 2 rfl d_Re_readSum_53 rfl ?_
  obtain ⟨S2, h1, h⟩ := zb1_some h
  refine z_cV C 9 (by decide) (m_Ta_next l h1) mf_Ta_next lk_6_121 in_Ta_next se_Ta_next rfl zo_44 zk_44 ⟨rfl, rfl⟩ ⟨rm_le_Re_readSum_Ta_next.1, rm_le_Re_readSum_Ta_next.2⟩ ⟨Nat.zero_le _, Nat.zero_le _⟩ rfl _ [] rfl (Nat.le_of_ble_eq_true rfl) d_Re_readSum_54 ?_
  refine z_aload_n C 1 rfl d_Re_readSum_57 rfl ?_
  refine z_aload_n C 2 rfl d_Re_readSum_58 rfl ?_
  obtain ⟨r4, S5, h3, h⟩ := zb2_some h
  refine z_cV C 6 (by decide) (hc_Re_readTerm S2 _ _ h3) mf_Re_readTerm lk_6_152 in_Re_readTerm se_Re_readTerm rfl zo_46 zk_46 ⟨rfl, rfl⟩ ⟨rm_le_Re_readSum_Re_readTerm.1, rm_le_Re_readSum_Re_readTerm.2⟩ ⟨Nat.zero_le _, Nat.zero_le _⟩ rfl _ [] rfl (Nat.le_of_ble_eq_true rfl) d_Re_readSum_59 ?_
  rcases zite h with ⟨c6, h⟩ | ⟨c6, h⟩
  · refine z_if_nef C 67 c6 d_Re_readSum_62 (by decide) ?_
    refine z_iconst C (0 : Int32) (by decide) d_Re_readSum_65 ?_
    cases h
    exact z_iret C .boolean hret rfl ⟨Nat.zero_le _, Nat.zero_le _⟩ d_Re_readSum_66
  · refine z_if_net C 67 c6 d_Re_readSum_62 (by decide) ?_
    refine z_aload_n C 1 rfl d_Re_readSum_67 rfl ?_
    refine z_getF2 C 6 (by decide) 0 (by decide) rfl 1 0 rfl (47) rfl zp_46 zk_46 zfl_6_14 d_Re_readSum_68 ?_
    refine z_iload_n C 0 rfl d_Re_readSum_71 rfl ?_
    refine z_iconst C (0 : Int32) (by decide) d_Re_readSum_72 ?_
    refine z_fact (fun hSR => ?_)
    obtain ⟨S8, h7, h⟩ := zb1_some h
    refine z_cV C 10 (by decide) (m_Tx_emit l zk_47 (Nat.lt_of_lt_of_le (Nat.le_of_ble_eq_true rfl) hSR.1) h7) mf_Tx_emit lk_6_81 in_Tx_emit se_Tx_emit rfl zo_47 zk_47 ⟨rfl, rfl⟩ ⟨rm_le_Re_readSum_Tx_emit.1, rm_le_Re_readSum_Tx_emit.2⟩ ⟨Nat.zero_le _, Nat.zero_le _⟩ rfl _ [] rfl (Nat.le_of_ble_eq_true rfl) d_Re_readSum_73 ?_
    refine z_iinc C 3 (a2 + (1 : Int32)) [(2, zi (a2 + (1 : Int32))), (3, zi k0), (0, zr (some 46)), (1, zr (some 44))] rfl d_Re_readSum_76 (by first | rfl | decide) (by decide) rfl ?_
    refine z_goto C 12 d_Re_readSum_79 (by decide) ?_
    refine zq_lsub [2, 3, 0] [(0, zr (some 46)), (1, zr (some 44)), (2, zi (a2 + (1 : Int32)))] rfl ?_
    exact hk12 (a2 + (1 : Int32)) S8 h
set_option maxRecDepth 100000 in
set_option maxHeartbeats 4000000 in
theorem c_Re_readSum_12 {p : Program} {l : Launch} {e : Env} {s : State} {m : MethodId} {args : Array Value} {below : List Frame} {meth : Method} {c : Code} {G : zG} (C : zC p s m args meth c G b_Re_readSum 4 y_Re_readSum.cls) (hret : meth.sig.returnType = (some .boolean)) {c_Re_readTerm : zSt → Option (Int32 × zSt)} {dp : Nat} {fu : Nat} {r : Int32} {S1 : zSt} (hc_Re_readTerm : ∀ (S : zSt) (r : Int32) (S1 : zSt), c_Re_readTerm  S = some (r, S1) → zPM l y_Re_readTerm b_Re_readTerm 4 (some .boolean) (rm_g0 dp) true true [zr (some 46), zr (some 44)] S (some (zi r)) S1) : ∀ (n : Nat) (a2 : Int32) (S : zSt) , f_Re_readSum_12 c_Re_readTerm fu n a2 S = some (r, S1) → zJ p l e (rm_g0 (dp + 1)) s m args below meth c G true 4 0 0 (zQm below G args s (rm_g0 (dp + 1)) true (some (zi r)) S1) S 12 [(0, zr (some 46)), (1, zr (some 44)), (2, zi a2)] [] := by
  intro n
  induction n with
  | zero =>
    intro a2 S h
    cases h
  | succ n ih =>
    intro a2 S h
    rw [f_Re_readSum_12] at h
    refine z_iload_n C 2 rfl d_Re_readSum_12 rfl ?_
    refine z_sipush C (400 : Int32) (by decide) d_Re_readSum_13 ?_
    rcases zite h with ⟨c1, h⟩ | ⟨c1, h⟩
    · refine z_icmp_get C 82 c1 d_Re_readSum_16 (by decide) ?_
      refine z_iconst C (1 : Int32) (by decide) d_Re_readSum_82 ?_
      cases h
      exact z_iret C .boolean hret rfl ⟨Nat.zero_le _, Nat.zero_le _⟩ d_Re_readSum_83
    · refine z_icmp_gef C 82 c1 d_Re_readSum_16 (by decide) ?_
      refine z_aload_n C 1 rfl d_Re_readSum_19 rfl ?_
      refine z_bipush C (43 : Int32) (by decide) d_Re_readSum_20 ?_
      obtain ⟨r3, h2, h⟩ := zb1_some h
      refine z_cV C 9 (by decide) (m_Ta_isSign l h2) mf_Ta_isSign lk_6_142 in_Ta_isSign se_Ta_isSign rfl zo_44 zk_44 ⟨rfl, rfl⟩ ⟨rm_le_Re_readSum_Ta_isSign.1, rm_le_Re_readSum_Ta_isSign.2⟩ ⟨Nat.zero_le _, Nat.zero_le _⟩ rfl _ [] rfl (Nat.le_of_ble_eq_true rfl) d_Re_readSum_22 ?_
      rcases zite h with ⟨c4, h⟩ | ⟨c4, h⟩
      · refine z_if_nef C 37 c4 d_Re_readSum_25 (by decide) ?_
        refine z_aload_n C 1 rfl d_Re_readSum_28 rfl ?_
        refine z_bipush C (45 : Int32) (by decide) d_Re_readSum_29 ?_
        obtain ⟨r9, h8, h⟩ := zb1_some h
        refine z_cV C 9 (by decide) (m_Ta_isSign l h8) mf_Ta_isSign lk_6_142 in_Ta_isSign se_Ta_isSign rfl zo_44 zk_44 ⟨rfl, rfl⟩ ⟨rm_le_Re_readSum_Ta_isSign.1, rm_le_Re_readSum_Ta_isSign.2⟩ ⟨Nat.zero_le _, Nat.zero_le _⟩ rfl _ [] rfl (Nat.le_of_ble_eq_true rfl) d_Re_readSum_31 ?_
        rcases zite h with ⟨c10, h⟩ | ⟨c10, h⟩
        · refine z_if_eqt C 82 c10 d_Re_readSum_34 (by decide) ?_
          refine z_iconst C (1 : Int32) (by decide) d_Re_readSum_82 ?_
          cases h
          exact z_iret C .boolean hret rfl ⟨Nat.zero_le _, Nat.zero_le _⟩ d_Re_readSum_83
        · refine z_if_eqf C 82 c10 d_Re_readSum_34 (by decide) ?_
          refine z_aload_n C 1 rfl d_Re_readSum_37 rfl ?_
          refine z_bipush C (43 : Int32) (by decide) d_Re_readSum_38 ?_
          obtain ⟨r12, h11, h⟩ := zb1_some h
          refine z_cV C 9 (by decide) (m_Ta_isSign l h11) mf_Ta_isSign lk_6_142 in_Ta_isSign se_Ta_isSign rfl zo_44 zk_44 ⟨rfl, rfl⟩ ⟨rm_le_Re_readSum_Ta_isSign.1, rm_le_Re_readSum_Ta_isSign.2⟩ ⟨Nat.zero_le _, Nat.zero_le _⟩ rfl _ [] rfl (Nat.le_of_ble_eq_true rfl) d_Re_readSum_40 ?_
          rcases zite h with ⟨c13, h⟩ | ⟨c13, h⟩
          · refine z_if_eqt C 50 c13 d_Re_readSum_43 (by decide) ?_
            refine z_bipush C (6 : Int32) (by decide) d_Re_readSum_50 ?_
            refine zq_lsub [0, 1, 2] [(0, zr (some 46)), (1, zr (some 44)), (2, zi a2)] rfl ?_
            exact c_Re_readSum_52 C hret hc_Re_readTerm (fun z0 zS zh => ih z0 zS zh)  a2 (6 : Int32) S h
          · refine z_if_eqf C 50 c13 d_Re_readSum_43 (by decide) ?_
            refine z_iconst C (5 : Int32) (by decide) d_Re_readSum_46 ?_
            refine z_goto C 52 d_Re_readSum_47 (by decide) ?_
            refine zq_lsub [0, 1, 2] [(0, zr (some 46)), (1, zr (some 44)), (2, zi a2)] rfl ?_
            exact c_Re_readSum_52 C hret hc_Re_readTerm (fun z0 zS zh => ih z0 zS zh)  a2 (5 : Int32) S h
      · refine z_if_net C 37 c4 d_Re_readSum_25 (by decide) ?_
        refine z_aload_n C 1 rfl d_Re_readSum_37 rfl ?_
        refine z_bipush C (43 : Int32) (by decide) d_Re_readSum_38 ?_
        obtain ⟨r6, h5, h⟩ := zb1_some h
        refine z_cV C 9 (by decide) (m_Ta_isSign l h5) mf_Ta_isSign lk_6_142 in_Ta_isSign se_Ta_isSign rfl zo_44 zk_44 ⟨rfl, rfl⟩ ⟨rm_le_Re_readSum_Ta_isSign.1, rm_le_Re_readSum_Ta_isSign.2⟩ ⟨Nat.zero_le _, Nat.zero_le _⟩ rfl _ [] rfl (Nat.le_of_ble_eq_true rfl) d_Re_readSum_40 ?_
        rcases zite h with ⟨c7, h⟩ | ⟨c7, h⟩
        · refine z_if_eqt C 50 c7 d_Re_readSum_43 (by decide) ?_
          refine z_bipush C (6 : Int32) (by decide) d_Re_readSum_50 ?_
          refine zq_lsub [0, 1, 2] [(0, zr (some 46)), (1, zr (some 44)), (2, zi a2)] rfl ?_
          exact c_Re_readSum_52 C hret hc_Re_readTerm (fun z0 zS zh => ih z0 zS zh)  a2 (6 : Int32) S h
        · refine z_if_eqf C 50 c7 d_Re_readSum_43 (by decide) ?_
          refine z_iconst C (5 : Int32) (by decide) d_Re_readSum_46 ?_
          refine z_goto C 52 d_Re_readSum_47 (by decide) ?_
          refine zq_lsub [0, 1, 2] [(0, zr (some 46)), (1, zr (some 44)), (2, zi a2)] rfl ?_
          exact c_Re_readSum_52 C hret hc_Re_readTerm (fun z0 zS zh => ih z0 zS zh)  a2 (5 : Int32) S h
set_option maxRecDepth 100000 in
set_option maxHeartbeats 4000000 in
theorem m_Re_readSum_o (l : Launch) {c_Re_readTerm : zSt → Option (Int32 × zSt)} {dp : Nat} {fu : Nat} {S : zSt} {r : Int32} {S1 : zSt} (hc_Re_readTerm : ∀ (S : zSt) (r : Int32) (S1 : zSt), c_Re_readTerm  S = some (r, S1) → zPM l y_Re_readTerm b_Re_readTerm 4 (some .boolean) (rm_g0 dp) true true [zr (some 46), zr (some 44)] S (some (zi r)) S1) (h : f_Re_readSum_o c_Re_readTerm fu  S = some (r, S1)) : zPM l y_Re_readSum b_Re_readSum 4 (some .boolean) (rm_g0 (dp + 1)) true true [zr (some 46), zr (some 44)] S (some (zi r)) S1 := by
  refine zPM_of (by decide) (Nat.le_of_ble_eq_true rfl) (fun p e s m args below meth c G C hret hname => ?_)
  unfold f_Re_readSum_o at h
  refine (?_ : zJ p l e (rm_g0 (dp + 1)) s m args below meth c G true 4 0 0 (zQm below G args s (rm_g0 (dp + 1)) true (some (zi r)) S1) S 0 [(0, zr (some 46)), (1, zr (some 44))] [])
  refine z_aload_n C 0 rfl d_Re_readSum_0 rfl ?_
  refine z_aload_n C 1 rfl d_Re_readSum_1 rfl ?_
  obtain ⟨r2, S3, h1, h⟩ := zb2_some h
  refine z_cV C 6 (by decide) (hc_Re_readTerm S _ _ h1) mf_Re_readTerm lk_6_152 in_Re_readTerm se_Re_readTerm rfl zo_46 zk_46 ⟨rfl, rfl⟩ ⟨rm_le_Re_readSum_Re_readTerm.1, rm_le_Re_readSum_Re_readTerm.2⟩ ⟨Nat.zero_le _, Nat.zero_le _⟩ rfl _ [] rfl (Nat.le_of_ble_eq_true rfl) d_Re_readSum_2 ?_
  rcases zite h with ⟨c4, h⟩ | ⟨c4, h⟩
  · refine z_if_nef C 10 c4 d_Re_readSum_5 (by decide) ?_
    refine z_iconst C (0 : Int32) (by decide) d_Re_readSum_8 ?_
    cases h
    exact z_iret C .boolean hret rfl ⟨Nat.zero_le _, Nat.zero_le _⟩ d_Re_readSum_9
  · refine z_if_net C 10 c4 d_Re_readSum_5 (by decide) ?_
    refine z_iconst C (0 : Int32) (by decide) d_Re_readSum_10 ?_
    refine z_istore_n C [(2, zi (0 : Int32)), (0, zr (some 46)), (1, zr (some 44))] d_Re_readSum_11 rfl (by decide) rfl ?_
    refine zq_lsub [1, 2, 0] [(0, zr (some 46)), (1, zr (some 44)), (2, zi (0 : Int32))] rfl ?_
    exact c_Re_readSum_12 C hret hc_Re_readTerm fu  (0 : Int32) S3 h
def zgr_0 (fu : Nat) : Nat → (zSt → Option (Int32 × zSt)) × (Int32 → Int32 → zSt → Option (Int32 × zSt)) × (zSt → Option (Int32 × zSt)) × (zSt → Option (Int32 × zSt)) × (zSt → Option (Int32 × zSt)) × (zSt → Option (Int32 × zSt)) × (zSt → Option (Int32 × zSt)) × (zSt → Option (Int32 × zSt))
  | 0 => (fun _ => none, fun _ _ _ => none, fun _ => none, fun _ => none, fun _ => none, fun _ => none, fun _ => none, fun _ => none)
  | d + 1 => (f_Re_readBoth_o ((zgr_0 fu d).2.2.2.2.1) fu, f_Re_readBracketed_o ((zgr_0 fu d).2.2.2.2.2.1) ((zgr_0 fu d).2.2.2.2.2.2.2) fu, f_Re_readComparison_o ((zgr_0 fu d).2.2.2.2.2.1) fu, f_Re_readPart_o ((zgr_0 fu d).2.1) fu, f_Re_readPlain_o ((zgr_0 fu d).2.1) ((zgr_0 fu d).2.2.1) fu, f_Re_readSum_o ((zgr_0 fu d).2.2.2.2.2.2.1) fu, f_Re_readTerm_o ((zgr_0 fu d).2.2.2.1) fu, f_Re_readTest_o ((zgr_0 fu d).1) fu)
def f_Re_readBoth (fu d : Nat) : zSt → Option (Int32 × zSt) := (zgr_0 fu d).1
def f_Re_readBracketed (fu d : Nat) : Int32 → Int32 → zSt → Option (Int32 × zSt) := (zgr_0 fu d).2.1
def f_Re_readComparison (fu d : Nat) : zSt → Option (Int32 × zSt) := (zgr_0 fu d).2.2.1
def f_Re_readPart (fu d : Nat) : zSt → Option (Int32 × zSt) := (zgr_0 fu d).2.2.2.1
def f_Re_readPlain (fu d : Nat) : zSt → Option (Int32 × zSt) := (zgr_0 fu d).2.2.2.2.1
def f_Re_readSum (fu d : Nat) : zSt → Option (Int32 × zSt) := (zgr_0 fu d).2.2.2.2.2.1
def f_Re_readTerm (fu d : Nat) : zSt → Option (Int32 × zSt) := (zgr_0 fu d).2.2.2.2.2.2.1
def f_Re_readTest (fu d : Nat) : zSt → Option (Int32 × zSt) := (zgr_0 fu d).2.2.2.2.2.2.2
set_option maxRecDepth 100000 in
set_option maxHeartbeats 4000000 in
theorem zgm_0 (l : Launch) (fu : Nat) : ∀ dp : Nat, (∀ (S : zSt) (r : Int32) (S1 : zSt), f_Re_readBoth fu dp  S = some (r, S1) → zPM l y_Re_readBoth b_Re_readBoth 4 (some .boolean) (rm_g0 dp) true true [zr (some 46), zr (some 44)] S (some (zi r)) S1) ∧ (∀ (a2 : Int32) (a3 : Int32) (S : zSt) (r : Int32) (S1 : zSt), f_Re_readBracketed fu dp a2 a3 S = some (r, S1) → zPM l y_Re_readBracketed b_Re_readBracketed 5 (some .boolean) (rm_g0 dp) true true [zr (some 46), zr (some 44), zi a2, zi a3] S (some (zi r)) S1) ∧ (∀ (S : zSt) (r : Int32) (S1 : zSt), f_Re_readComparison fu dp  S = some (r, S1) → zPM l y_Re_readComparison b_Re_readComparison 3 (some .boolean) (rm_g0 dp) true true [zr (some 46), zr (some 44)] S (some (zi r)) S1) ∧ (∀ (S : zSt) (r : Int32) (S1 : zSt), f_Re_readPart fu dp  S = some (r, S1) → zPM l y_Re_readPart b_Re_readPart 3 (some .boolean) (rm_g0 dp) true true [zr (some 46), zr (some 44)] S (some (zi r)) S1) ∧ (∀ (S : zSt) (r : Int32) (S1 : zSt), f_Re_readPlain fu dp  S = some (r, S1) → zPM l y_Re_readPlain b_Re_readPlain 4 (some .boolean) (rm_g0 dp) true true [zr (some 46), zr (some 44)] S (some (zi r)) S1) ∧ (∀ (S : zSt) (r : Int32) (S1 : zSt), f_Re_readSum fu dp  S = some (r, S1) → zPM l y_Re_readSum b_Re_readSum 4 (some .boolean) (rm_g0 dp) true true [zr (some 46), zr (some 44)] S (some (zi r)) S1) ∧ (∀ (S : zSt) (r : Int32) (S1 : zSt), f_Re_readTerm fu dp  S = some (r, S1) → zPM l y_Re_readTerm b_Re_readTerm 4 (some .boolean) (rm_g0 dp) true true [zr (some 46), zr (some 44)] S (some (zi r)) S1) ∧ (∀ (S : zSt) (r : Int32) (S1 : zSt), f_Re_readTest fu dp  S = some (r, S1) → zPM l y_Re_readTest b_Re_readTest 4 (some .boolean) (rm_g0 dp) true true [zr (some 46), zr (some 44)] S (some (zi r)) S1) := by
  intro dp
  induction dp with
  | zero => exact ⟨(fun _ _ _ h => by have h : (none : Option _) = some _ := h; cases h), (fun _ _ _ _ _ h => by have h : (none : Option _) = some _ := h; cases h), (fun _ _ _ h => by have h : (none : Option _) = some _ := h; cases h), (fun _ _ _ h => by have h : (none : Option _) = some _ := h; cases h), (fun _ _ _ h => by have h : (none : Option _) = some _ := h; cases h), (fun _ _ _ h => by have h : (none : Option _) = some _ := h; cases h), (fun _ _ _ h => by have h : (none : Option _) = some _ := h; cases h), (fun _ _ _ h => by have h : (none : Option _) = some _ := h; cases h)⟩
  | succ dp ih =>
    obtain ⟨ih_Re_readBoth, ih_Re_readBracketed, ih_Re_readComparison, ih_Re_readPart, ih_Re_readPlain, ih_Re_readSum, ih_Re_readTerm, ih_Re_readTest⟩ := ih
    exact ⟨fun _ _ _ h => m_Re_readBoth_o l ih_Re_readPlain h, fun _ _ _ _ _ h => m_Re_readBracketed_o l ih_Re_readSum ih_Re_readTest h, fun _ _ _ h => m_Re_readComparison_o l ih_Re_readSum h, fun _ _ _ h => m_Re_readPart_o l ih_Re_readBracketed h, fun _ _ _ h => m_Re_readPlain_o l ih_Re_readBracketed ih_Re_readComparison h, fun _ _ _ h => m_Re_readSum_o l ih_Re_readTerm h, fun _ _ _ h => m_Re_readTerm_o l ih_Re_readPart h, fun _ _ _ h => m_Re_readTest_o l ih_Re_readBoth h⟩
theorem m_Re_readBoth (l : Launch) {fu : Nat} {S : zSt} {r : Int32} {S1 : zSt} (h : f_Re_readBoth fu 64  S = some (r, S1)) : zPM l y_Re_readBoth b_Re_readBoth 4 (some .boolean) (rm_g0 64) true true [zr (some 46), zr (some 44)] S (some (zi r)) S1 := (zgm_0 l fu 64).1 _ _ _ h
theorem m_Re_readBracketed (l : Launch) {fu : Nat} {a2 : Int32} {a3 : Int32} {S : zSt} {r : Int32} {S1 : zSt} (h : f_Re_readBracketed fu 64 a2 a3 S = some (r, S1)) : zPM l y_Re_readBracketed b_Re_readBracketed 5 (some .boolean) (rm_g0 64) true true [zr (some 46), zr (some 44), zi a2, zi a3] S (some (zi r)) S1 := (zgm_0 l fu 64).2.1 _ _ _ _ _ h
theorem m_Re_readComparison (l : Launch) {fu : Nat} {S : zSt} {r : Int32} {S1 : zSt} (h : f_Re_readComparison fu 64  S = some (r, S1)) : zPM l y_Re_readComparison b_Re_readComparison 3 (some .boolean) (rm_g0 64) true true [zr (some 46), zr (some 44)] S (some (zi r)) S1 := (zgm_0 l fu 64).2.2.1 _ _ _ h
theorem m_Re_readPart (l : Launch) {fu : Nat} {S : zSt} {r : Int32} {S1 : zSt} (h : f_Re_readPart fu 64  S = some (r, S1)) : zPM l y_Re_readPart b_Re_readPart 3 (some .boolean) (rm_g0 64) true true [zr (some 46), zr (some 44)] S (some (zi r)) S1 := (zgm_0 l fu 64).2.2.2.1 _ _ _ h
theorem m_Re_readPlain (l : Launch) {fu : Nat} {S : zSt} {r : Int32} {S1 : zSt} (h : f_Re_readPlain fu 64  S = some (r, S1)) : zPM l y_Re_readPlain b_Re_readPlain 4 (some .boolean) (rm_g0 64) true true [zr (some 46), zr (some 44)] S (some (zi r)) S1 := (zgm_0 l fu 64).2.2.2.2.1 _ _ _ h
theorem m_Re_readSum (l : Launch) {fu : Nat} {S : zSt} {r : Int32} {S1 : zSt} (h : f_Re_readSum fu 64  S = some (r, S1)) : zPM l y_Re_readSum b_Re_readSum 4 (some .boolean) (rm_g0 64) true true [zr (some 46), zr (some 44)] S (some (zi r)) S1 := (zgm_0 l fu 64).2.2.2.2.2.1 _ _ _ h
theorem m_Re_readTerm (l : Launch) {fu : Nat} {S : zSt} {r : Int32} {S1 : zSt} (h : f_Re_readTerm fu 64  S = some (r, S1)) : zPM l y_Re_readTerm b_Re_readTerm 4 (some .boolean) (rm_g0 64) true true [zr (some 46), zr (some 44)] S (some (zi r)) S1 := (zgm_0 l fu 64).2.2.2.2.2.2.1 _ _ _ h
theorem m_Re_readTest (l : Launch) {fu : Nat} {S : zSt} {r : Int32} {S1 : zSt} (h : f_Re_readTest fu 64  S = some (r, S1)) : zPM l y_Re_readTest b_Re_readTest 4 (some .boolean) (rm_g0 64) true true [zr (some 46), zr (some 44)] S (some (zi r)) S1 := (zgm_0 l fu 64).2.2.2.2.2.2.2 _ _ _ h
def f_Tx_repeat (a0 : Nat) (a1 : Int32) (S : zSt) : Option zSt := if (zI S a0 2) ≤ 0 then some S else if (12 : Int32) < (zI S a0 2) then some S else zgd (0 ≤ ((zI S a0 2) - (1 : Int32)) ∧ ((zI S a0 2) - (1 : Int32)).toNatClampNeg < 12) (some (zwI S (a0 + 2) ((zI S a0 2) - (1 : Int32)).toNatClampNeg a1))
set_option maxRecDepth 100000 in
set_option maxHeartbeats 4000000 in
theorem m_Tx_repeat (l : Launch) {a0 : Nat} {a1 : Int32} {S : zSt} {S1 : zSt} (ha0 : zK a0 = 10) (ga0 : a0 < zN S) (h : f_Tx_repeat a0 a1 S = some S1) : zPM l y_Tx_repeat b_Tx_repeat 2 none rm_Tx_repeat true true [zr (some a0), zi a1] S none S1 := by
  refine zPM_of (by decide) (Nat.le_of_ble_eq_true rfl) (fun p e s m args below meth c G C hret hname => ?_)
  unfold f_Tx_repeat at h
  refine (?_ : zJ p l e rm_Tx_repeat s m args below meth c G true 2 0 0 (zQm below G args s rm_Tx_repeat true none S1) S 0 [(0, zr (some a0)), (1, zi a1)] [])
  refine z_aload_n C 0 rfl d_Tx_repeat_0 rfl ?_
  refine z_getI C 10 (by decide) 2 (by decide) rfl (Or.inr ga0) ha0 zfl_10_15 d_Tx_repeat_1 ?_
  rcases zite h with ⟨c1, h⟩ | ⟨c1, h⟩
  · refine z_if_let C 28 c1 d_Tx_repeat_4 (by decide) ?_
    cases h
    exact z_vret C hret ⟨Nat.zero_le _, Nat.zero_le _⟩ d_Tx_repeat_28
  · refine z_if_lef C 28 c1 d_Tx_repeat_4 (by decide) ?_
    refine z_aload_n C 0 rfl d_Tx_repeat_7 rfl ?_
    refine z_getI C 10 (by decide) 2 (by decide) rfl (Or.inr ga0) ha0 zfl_10_15 d_Tx_repeat_8 ?_
    refine z_bipush C (12 : Int32) (by decide) d_Tx_repeat_11 ?_
    rcases zite h with ⟨c2, h⟩ | ⟨c2, h⟩
    · refine z_icmp_gtt C 28 c2 d_Tx_repeat_13 (by decide) ?_
      cases h
      exact z_vret C hret ⟨Nat.zero_le _, Nat.zero_le _⟩ d_Tx_repeat_28
    · refine z_icmp_gtf C 28 c2 d_Tx_repeat_13 (by decide) ?_
      refine z_aload_n C 0 rfl d_Tx_repeat_16 rfl ?_
      refine z_getF2 C 10 (by decide) 5 (by decide) rfl 2 12 rfl (a0 + 2) rfl (Or.inr ga0) ha0 zfl_10_26 d_Tx_repeat_17 ?_
      refine z_aload_n C 0 rfl d_Tx_repeat_20 rfl ?_
      refine z_getI C 10 (by decide) 2 (by decide) rfl (Or.inr ga0) ha0 zfl_10_15 d_Tx_repeat_21 ?_
      refine z_iconst C (1 : Int32) (by decide) d_Tx_repeat_24 ?_
      refine z_isub C d_Tx_repeat_25 ?_
      refine z_iload_n C 1 rfl d_Tx_repeat_26 rfl ?_
      refine z_fact (fun hSR => ?_)
      obtain ⟨g3, h⟩ := zgd_some h
      refine z_iastoreS C (Or.inr (ztx_2 hSR ha0 ga0).1) (ztk_2 ha0) (ztx_2 hSR ha0 ga0).2 g3 d_Tx_repeat_27 ?_
      cases h
      exact z_vret C hret ⟨Nat.zero_le _, Nat.zero_le _⟩ d_Tx_repeat_28
def f_Re_readTimes (fu : Nat) (S : zSt) : Option (Int32 × zSt) := zb1 (f_Ta_isNumber S) (fun r2 => if r2 = 0 then some ((0 : Int32), S) else if (zI S 44 5) < (1 : Int32) then some ((0 : Int32), S) else if (zI S 44 5) ≤ (20 : Int32) then zb1 (f_Tx_repeat 47 (zI S 44 5) S) (fun S7 => zb1 (f_Ta_next fu S7) (fun S9 => some ((1 : Int32), S9))) else some ((0 : Int32), S))
set_option maxRecDepth 100000 in
set_option maxHeartbeats 4000000 in
theorem m_Re_readTimes (l : Launch) {fu : Nat} {S : zSt} {r : Int32} {S1 : zSt} (h : f_Re_readTimes fu  S = some (r, S1)) : zPM l y_Re_readTimes b_Re_readTimes 2 (some .boolean) rm_Re_readTimes true true [zr (some 46), zr (some 44)] S (some (zi r)) S1 := by
  refine zPM_of (by decide) (Nat.le_of_ble_eq_true rfl) (fun p e s m args below meth c G C hret hname => ?_)
  unfold f_Re_readTimes at h
  refine (?_ : zJ p l e rm_Re_readTimes s m args below meth c G true 2 0 0 (zQm below G args s rm_Re_readTimes true (some (zi r)) S1) S 0 [(0, zr (some 46)), (1, zr (some 44))] [])
  refine z_aload_n C 1 rfl d_Re_readTimes_0 rfl ?_
  obtain ⟨r2, h1, h⟩ := zb1_some h
  refine z_cV C 9 (by decide) (m_Ta_isNumber l h1) mf_Ta_isNumber lk_6_111 in_Ta_isNumber se_Ta_isNumber rfl zo_44 zk_44 ⟨rfl, rfl⟩ ⟨by decide, by decide⟩ ⟨Nat.zero_le _, Nat.zero_le _⟩ rfl _ [] rfl (Nat.le_of_ble_eq_true rfl) d_Re_readTimes_1 ?_
  rcases zite h with ⟨c3, h⟩ | ⟨c3, h⟩
  · refine z_if_eqt C 24 c3 d_Re_readTimes_4 (by decide) ?_
    refine z_iconst C (0 : Int32) (by decide) d_Re_readTimes_24 ?_
    cases h
    exact z_iret C .boolean hret rfl ⟨Nat.zero_le _, Nat.zero_le _⟩ d_Re_readTimes_25
  · refine z_if_eqf C 24 c3 d_Re_readTimes_4 (by decide) ?_
    refine z_aload_n C 1 rfl d_Re_readTimes_7 rfl ?_
    refine z_getI C 9 (by decide) 5 (by decide) rfl zo_44 zk_44 zfl_6_115 d_Re_readTimes_8 ?_
    refine z_iconst C (1 : Int32) (by decide) d_Re_readTimes_11 ?_
    rcases zite h with ⟨c4, h⟩ | ⟨c4, h⟩
    · refine z_icmp_ltt C 24 c4 d_Re_readTimes_12 (by decide) ?_
      refine z_iconst C (0 : Int32) (by decide) d_Re_readTimes_24 ?_
      cases h
      exact z_iret C .boolean hret rfl ⟨Nat.zero_le _, Nat.zero_le _⟩ d_Re_readTimes_25
    · refine z_icmp_ltf C 24 c4 d_Re_readTimes_12 (by decide) ?_
      refine z_aload_n C 1 rfl d_Re_readTimes_15 rfl ?_
      refine z_getI C 9 (by decide) 5 (by decide) rfl zo_44 zk_44 zfl_6_115 d_Re_readTimes_16 ?_
      refine z_bipush C (20 : Int32) (by decide) d_Re_readTimes_19 ?_
      rcases zite h with ⟨c5, h⟩ | ⟨c5, h⟩
      · refine z_icmp_let C 26 c5 d_Re_readTimes_21 (by decide) ?_
        refine z_aload_n C 0 rfl d_Re_readTimes_26 rfl ?_
        refine z_getF2 C 6 (by decide) 0 (by decide) rfl 1 0 rfl (47) rfl zp_46 zk_46 zfl_6_14 d_Re_readTimes_27 ?_
        refine z_aload_n C 1 rfl d_Re_readTimes_30 rfl ?_
        refine z_getI C 9 (by decide) 5 (by decide) rfl zo_44 zk_44 zfl_6_115 d_Re_readTimes_31 ?_
        refine z_fact (fun hSR => ?_)
        obtain ⟨S7, h6, h⟩ := zb1_some h
        refine z_cV C 10 (by decide) (m_Tx_repeat l zk_47 (Nat.lt_of_lt_of_le (Nat.le_of_ble_eq_true rfl) hSR.1) h6) mf_Tx_repeat lk_6_118 in_Tx_repeat se_Tx_repeat rfl zo_47 zk_47 ⟨rfl, rfl⟩ ⟨by decide, by decide⟩ ⟨Nat.zero_le _, Nat.zero_le _⟩ rfl _ [] rfl (Nat.le_of_ble_eq_true rfl) d_Re_readTimes_34 ?_
        refine z_aload_n C 1 rfl d_Re_readTimes_37 rfl ?_
        obtain ⟨S9, h8, h⟩ := zb1_some h
        refine z_cV C 9 (by decide) (m_Ta_next l h8) mf_Ta_next lk_6_121 in_Ta_next se_Ta_next rfl zo_44 zk_44 ⟨rfl, rfl⟩ ⟨by decide, by decide⟩ ⟨Nat.zero_le _, Nat.zero_le _⟩ rfl _ [] rfl (Nat.le_of_ble_eq_true rfl) d_Re_readTimes_38 ?_
        refine z_iconst C (1 : Int32) (by decide) d_Re_readTimes_41 ?_
        cases h
        exact z_iret C .boolean hret rfl ⟨Nat.zero_le _, Nat.zero_le _⟩ d_Re_readTimes_42
      · refine z_icmp_lef C 26 c5 d_Re_readTimes_21 (by decide) ?_
        refine z_iconst C (0 : Int32) (by decide) d_Re_readTimes_24 ?_
        cases h
        exact z_iret C .boolean hret rfl ⟨Nat.zero_le _, Nat.zero_le _⟩ d_Re_readTimes_25
def f_Re_readClause_92 (fu : Nat) (k56 : Int32 → Int32 → zSt → Option (Int32 × zSt)) (a3 : Int32) (a4 : Int32) (k0 : Int32) (S : zSt) : Option (Int32 × zSt) := zb1 (f_Tx_start 47 k0 S) (fun S2 => zb2 (f_Re_readSum fu 64 S2) (fun r4 S5 => if r4 = 0 then some ((0 : Int32), S5) else zb1 (f_Tx_emit 47 (13 : Int32) (0 : Int32) S5) (fun S8 => k56 a3 (a4 + (1 : Int32)) S8)))
def f_Re_readClause_147 (fu : Nat) (S : zSt) : Option (Int32 × zSt) := zb2 (f_Ta_takeWord fu 24 S) (fun r2 S3 => if r2 = 0 then some ((1 : Int32), S3) else zb1 (f_Tx_start 47 (2 : Int32) S3) (fun S6 => zb2 (f_Re_readTest fu 64 S6) (fun r8 S9 => if r8 = 0 then some ((0 : Int32), S9) else zb1 (f_Tx_emit 47 (13 : Int32) (0 : Int32) S9) (fun S12 => some ((1 : Int32), S12)))))
def f_Re_readClause_121 (fu : Nat) (S : zSt) : Option (Int32 × zSt) := if (zI S 46 1) = 0 then f_Re_readClause_147 fu S else zb2 (f_Ta_takeWord fu 23 S) (fun r3 S4 => if r3 = 0 then f_Re_readClause_147 fu S4 else zb2 (f_Re_readTimes fu S4) (fun r7 S8 => if r7 = 0 then some ((0 : Int32), S8) else f_Re_readClause_147 fu S8))
def f_Re_readClause_56 (fu : Nat) : Nat → Int32 → Int32 → zSt → Option (Int32 × zSt)
  | 0, _, _, _ => none
  | n + 1, a3, a4, S => if a3 ≤ a4 then f_Re_readClause_121 fu S else if a4 ≤ 0 then if a4 = 0 then f_Re_readClause_92 fu (f_Re_readClause_56 fu n) a3 a4 (0 : Int32) S else f_Re_readClause_92 fu (f_Re_readClause_56 fu n) a3 a4 (1 : Int32) S else zb2 (f_Ta_takeWord fu 8 S) (fun r5 S6 => if r5 = 0 then some ((0 : Int32), S6) else if a4 = 0 then f_Re_readClause_92 fu (f_Re_readClause_56 fu n) a3 a4 (0 : Int32) S6 else f_Re_readClause_92 fu (f_Re_readClause_56 fu n) a3 a4 (1 : Int32) S6)
def f_Re_readClause_18 (fu : Nat) (k0 : Int32) (S : zSt) : Option (Int32 × zSt) := if k0 = (-1 : Int32) then some ((0 : Int32), S) else zb1 (f_Tx_begin 47 k0 S) (fun S3 => if (zI S3 46 1) = 0 then zb1 (f_Re_sumsOfLaw k0) (fun r6 => f_Re_readClause_56 fu fu r6 (0 : Int32) S3) else zb1 (f_Re_sumsOfOrder k0) (fun r8 => f_Re_readClause_56 fu fu r8 (0 : Int32) S3))
def f_Re_readClause (fu : Nat) (S : zSt) : Option (Int32 × zSt) := if (zI S 46 1) = 0 then zb2 (f_Re_takeLaw fu S) (fun r3 S4 => f_Re_readClause_18 fu r3 S4) else zb2 (f_Re_takeOrder fu S) (fun r6 S7 => f_Re_readClause_18 fu r6 S7)
set_option maxRecDepth 100000 in
set_option maxHeartbeats 4000000 in
theorem c_Re_readClause_92 {p : Program} {l : Launch} {e : Env} {s : State} {m : MethodId} {args : Array Value} {below : List Frame} {meth : Method} {c : Code} {G : zG} (C : zC p s m args meth c G b_Re_readClause 5 y_Re_readClause.cls) (hret : meth.sig.returnType = (some .boolean)) {fu : Nat} {r : Int32} {S1 : zSt} {k56 : Int32 → Int32 → zSt → Option (Int32 × zSt)} (hk56 : ∀ (a3 : Int32) (a4 : Int32) (S : zSt) , k56 a3 a4 S = some (r, S1) → zJ p l e rm_Re_readClause s m args below meth c G true 5 0 0 (zQm below G args s rm_Re_readClause true (some (zi r)) S1) S 56 [(0, zr (some 46)), (1, zr (some 44)), (3, zi a3), (4, zi a4)] []) : ∀ (a3 : Int32) (a4 : Int32) (k0 : Int32) (S : zSt) , f_Re_readClause_92 fu k56 a3 a4 k0 S = some (r, S1) → zJ p l e rm_Re_readClause s m args below meth c G true 5 0 0 (zQm below G args s rm_Re_readClause true (some (zi r)) S1) S 92 [(0, zr (some 46)), (1, zr (some 44)), (3, zi a3), (4, zi a4)] [zi k0, zr (some 47)] := by
  intro a3 a4 k0 S h
  unfold f_Re_readClause_92 at h
  refine z_fact (fun hSR => ?_)
  obtain ⟨S2, h1, h⟩ := zb1_some h
  refine z_cV C 10 (by decide) (m_Tx_start l zk_47 (Nat.lt_of_lt_of_le (Nat.le_of_ble_eq_true rfl) hSR.1) h1) mf_Tx_start lk_6_75 in_Tx_start se_Tx_start rfl zo_47 zk_47 ⟨rfl, rfl⟩ ⟨by decide, by decide⟩ ⟨Nat.zero_le _, Nat.zero_le _⟩ rfl _ [] rfl (Nat.le_of_ble_eq_true rfl) d_Re_readClause_92 ?_
  refine z_aload_n C 0 rfl d_Re_readClause_95 rfl ?_
  refine z_aload_n C 1 rfl d_Re_readClause_96 rfl ?_
  obtain ⟨r4, S5, h3, h⟩ := zb2_some h
  refine z_cV C 6 (by decide) (m_Re_readSum l h3) mf_Re_readSum lk_6_78 in_Re_readSum se_Re_readSum rfl zo_46 zk_46 ⟨rfl, rfl⟩ ⟨by decide, by decide⟩ ⟨Nat.zero_le _, Nat.zero_le _⟩ rfl _ [] rfl (Nat.le_of_ble_eq_true rfl) d_Re_readClause_97 ?_
  rcases zite h with ⟨c6, h⟩ | ⟨c6, h⟩
  · refine z_if_nef C 105 c6 d_Re_readClause_100 (by decide) ?_
    refine z_iconst C (0 : Int32) (by decide) d_Re_readClause_103 ?_
    cases h
    exact z_iret C .boolean hret rfl ⟨Nat.zero_le _, Nat.zero_le _⟩ d_Re_readClause_104
  · refine z_if_net C 105 c6 d_Re_readClause_100 (by decide) ?_
    refine z_aload_n C 0 rfl d_Re_readClause_105 rfl ?_
    refine z_getF2 C 6 (by decide) 0 (by decide) rfl 1 0 rfl (47) rfl zp_46 zk_46 zfl_6_14 d_Re_readClause_106 ?_
    refine z_bipush C (13 : Int32) (by decide) d_Re_readClause_109 ?_
    refine z_iconst C (0 : Int32) (by decide) d_Re_readClause_111 ?_
    refine z_fact (fun hSR => ?_)
    obtain ⟨S8, h7, h⟩ := zb1_some h
    refine z_cV C 10 (by decide) (m_Tx_emit l zk_47 (Nat.lt_of_lt_of_le (Nat.le_of_ble_eq_true rfl) hSR.1) h7) mf_Tx_emit lk_6_81 in_Tx_emit se_Tx_emit rfl zo_47 zk_47 ⟨rfl, rfl⟩ ⟨by decide, by decide⟩ ⟨Nat.zero_le _, Nat.zero_le _⟩ rfl _ [] rfl (Nat.le_of_ble_eq_true rfl) d_Re_readClause_112 ?_
    refine z_iinc C 3 (a4 + (1 : Int32)) [(4, zi (a4 + (1 : Int32))), (0, zr (some 46)), (1, zr (some 44)), (3, zi a3)] rfl d_Re_readClause_115 (by first | rfl | decide) (by decide) rfl ?_
    refine z_goto C 56 d_Re_readClause_118 (by decide) ?_
    refine zq_lsub [1, 2, 3, 0] [(0, zr (some 46)), (1, zr (some 44)), (3, zi a3), (4, zi (a4 + (1 : Int32)))] rfl ?_
    exact hk56 a3 (a4 + (1 : Int32)) S8 h
set_option maxRecDepth 100000 in
set_option maxHeartbeats 4000000 in
theorem c_Re_readClause_147 {p : Program} {l : Launch} {e : Env} {s : State} {m : MethodId} {args : Array Value} {below : List Frame} {meth : Method} {c : Code} {G : zG} (C : zC p s m args meth c G b_Re_readClause 5 y_Re_readClause.cls) (hret : meth.sig.returnType = (some .boolean)) {fu : Nat} {r : Int32} {S1 : zSt} : ∀ (S : zSt) , f_Re_readClause_147 fu  S = some (r, S1) → zJ p l e rm_Re_readClause s m args below meth c G true 5 0 0 (zQm below G args s rm_Re_readClause true (some (zi r)) S1) S 147 [(0, zr (some 46)), (1, zr (some 44))] [] := by
  intro S h
  unfold f_Re_readClause_147 at h
  refine z_aload_n C 1 rfl d_Re_readClause_147 rfl ?_
  refine z_ldcS C 24 (by decide) rfl rfl d_Re_readClause_148 ?_
  obtain ⟨r2, S3, h1, h⟩ := zb2_some h
  refine z_cV C 9 (by decide) (m_Ta_takeWord l (by decide) h1) mf_Ta_takeWord lk_6_71 in_Ta_takeWord se_Ta_takeWord rfl zo_44 zk_44 ⟨rfl, rfl⟩ ⟨by decide, by decide⟩ ⟨Nat.zero_le _, Nat.zero_le _⟩ rfl _ [] rfl (Nat.le_of_ble_eq_true rfl) d_Re_readClause_150 ?_
  rcases zite h with ⟨c4, h⟩ | ⟨c4, h⟩
  · refine z_if_nef C 158 c4 d_Re_readClause_153 (by decide) ?_
    refine z_iconst C (1 : Int32) (by decide) d_Re_readClause_156 ?_
    cases h
    exact z_iret C .boolean hret rfl ⟨Nat.zero_le _, Nat.zero_le _⟩ d_Re_readClause_157
  · refine z_if_net C 158 c4 d_Re_readClause_153 (by decide) ?_
    refine z_aload_n C 0 rfl d_Re_readClause_158 rfl ?_
    refine z_getF2 C 6 (by decide) 0 (by decide) rfl 1 0 rfl (47) rfl zp_46 zk_46 zfl_6_14 d_Re_readClause_159 ?_
    refine z_iconst C (2 : Int32) (by decide) d_Re_readClause_162 ?_
    refine z_fact (fun hSR => ?_)
    obtain ⟨S6, h5, h⟩ := zb1_some h
    refine z_cV C 10 (by decide) (m_Tx_start l zk_47 (Nat.lt_of_lt_of_le (Nat.le_of_ble_eq_true rfl) hSR.1) h5) mf_Tx_start lk_6_75 in_Tx_start se_Tx_start rfl zo_47 zk_47 ⟨rfl, rfl⟩ ⟨by decide, by decide⟩ ⟨Nat.zero_le _, Nat.zero_le _⟩ rfl _ [] rfl (Nat.le_of_ble_eq_true rfl) d_Re_readClause_163 ?_
    refine z_aload_n C 0 rfl d_Re_readClause_166 rfl ?_
    refine z_aload_n C 1 rfl d_Re_readClause_167 rfl ?_
    obtain ⟨r8, S9, h7, h⟩ := zb2_some h
    refine z_cV C 6 (by decide) (m_Re_readTest l h7) mf_Re_readTest lk_6_92 in_Re_readTest se_Re_readTest rfl zo_46 zk_46 ⟨rfl, rfl⟩ ⟨by decide, by decide⟩ ⟨Nat.zero_le _, Nat.zero_le _⟩ rfl _ [] rfl (Nat.le_of_ble_eq_true rfl) d_Re_readClause_168 ?_
    rcases zite h with ⟨c10, h⟩ | ⟨c10, h⟩
    · refine z_if_nef C 176 c10 d_Re_readClause_171 (by decide) ?_
      refine z_iconst C (0 : Int32) (by decide) d_Re_readClause_174 ?_
      cases h
      exact z_iret C .boolean hret rfl ⟨Nat.zero_le _, Nat.zero_le _⟩ d_Re_readClause_175
    · refine z_if_net C 176 c10 d_Re_readClause_171 (by decide) ?_
      refine z_aload_n C 0 rfl d_Re_readClause_176 rfl ?_
      refine z_getF2 C 6 (by decide) 0 (by decide) rfl 1 0 rfl (47) rfl zp_46 zk_46 zfl_6_14 d_Re_readClause_177 ?_
      refine z_bipush C (13 : Int32) (by decide) d_Re_readClause_180 ?_
      refine z_iconst C (0 : Int32) (by decide) d_Re_readClause_182 ?_
      refine z_fact (fun hSR => ?_)
      obtain ⟨S12, h11, h⟩ := zb1_some h
      refine z_cV C 10 (by decide) (m_Tx_emit l zk_47 (Nat.lt_of_lt_of_le (Nat.le_of_ble_eq_true rfl) hSR.1) h11) mf_Tx_emit lk_6_81 in_Tx_emit se_Tx_emit rfl zo_47 zk_47 ⟨rfl, rfl⟩ ⟨by decide, by decide⟩ ⟨Nat.zero_le _, Nat.zero_le _⟩ rfl _ [] rfl (Nat.le_of_ble_eq_true rfl) d_Re_readClause_183 ?_
      refine z_iconst C (1 : Int32) (by decide) d_Re_readClause_186 ?_
      cases h
      exact z_iret C .boolean hret rfl ⟨Nat.zero_le _, Nat.zero_le _⟩ d_Re_readClause_187
set_option maxRecDepth 100000 in
set_option maxHeartbeats 4000000 in
theorem c_Re_readClause_121 {p : Program} {l : Launch} {e : Env} {s : State} {m : MethodId} {args : Array Value} {below : List Frame} {meth : Method} {c : Code} {G : zG} (C : zC p s m args meth c G b_Re_readClause 5 y_Re_readClause.cls) (hret : meth.sig.returnType = (some .boolean)) {fu : Nat} {r : Int32} {S1 : zSt} : ∀ (S : zSt) , f_Re_readClause_121 fu  S = some (r, S1) → zJ p l e rm_Re_readClause s m args below meth c G true 5 0 0 (zQm below G args s rm_Re_readClause true (some (zi r)) S1) S 121 [(0, zr (some 46)), (1, zr (some 44))] [] := by
  intro S h
  unfold f_Re_readClause_121 at h
  refine z_aload_n C 0 rfl d_Re_readClause_121 rfl ?_
  refine z_getI C 6 (by decide) 1 (by decide) rfl zo_46 zk_46 zfl_6_20 d_Re_readClause_122 ?_
  rcases zite h with ⟨c1, h⟩ | ⟨c1, h⟩
  · refine z_if_eqt C 147 c1 d_Re_readClause_125 (by decide) ?_
    refine zq_lsub [0, 1] [(0, zr (some 46)), (1, zr (some 44))] rfl ?_
    exact c_Re_readClause_147 C hret   S h
  · refine z_if_eqf C 147 c1 d_Re_readClause_125 (by decide) ?_
    refine z_aload_n C 1 rfl d_Re_readClause_128 rfl ?_
    refine z_ldcS C 23 (by decide) rfl rfl d_Re_readClause_129 ?_
    obtain ⟨r3, S4, h2, h⟩ := zb2_some h
    refine z_cV C 9 (by decide) (m_Ta_takeWord l (by decide) h2) mf_Ta_takeWord lk_6_71 in_Ta_takeWord se_Ta_takeWord rfl zo_44 zk_44 ⟨rfl, rfl⟩ ⟨by decide, by decide⟩ ⟨Nat.zero_le _, Nat.zero_le _⟩ rfl _ [] rfl (Nat.le_of_ble_eq_true rfl) d_Re_readClause_131 ?_
    rcases zite h with ⟨c5, h⟩ | ⟨c5, h⟩
    · refine z_if_eqt C 147 c5 d_Re_readClause_134 (by decide) ?_
      refine zq_lsub [0, 1] [(0, zr (some 46)), (1, zr (some 44))] rfl ?_
      exact c_Re_readClause_147 C hret   S4 h
    · refine z_if_eqf C 147 c5 d_Re_readClause_134 (by decide) ?_
      refine z_aload_n C 0 rfl d_Re_readClause_137 rfl ?_
      refine z_aload_n C 1 rfl d_Re_readClause_138 rfl ?_
      obtain ⟨r7, S8, h6, h⟩ := zb2_some h
      refine z_cV C 6 (by decide) (m_Re_readTimes l h6) mf_Re_readTimes lk_6_87 in_Re_readTimes se_Re_readTimes rfl zo_46 zk_46 ⟨rfl, rfl⟩ ⟨by decide, by decide⟩ ⟨Nat.zero_le _, Nat.zero_le _⟩ rfl _ [] rfl (Nat.le_of_ble_eq_true rfl) d_Re_readClause_139 ?_
      rcases zite h with ⟨c9, h⟩ | ⟨c9, h⟩
      · refine z_if_nef C 147 c9 d_Re_readClause_142 (by decide) ?_
        refine z_iconst C (0 : Int32) (by decide) d_Re_readClause_145 ?_
        cases h
        exact z_iret C .boolean hret rfl ⟨Nat.zero_le _, Nat.zero_le _⟩ d_Re_readClause_146
      · refine z_if_net C 147 c9 d_Re_readClause_142 (by decide) ?_
        refine zq_lsub [0, 1] [(0, zr (some 46)), (1, zr (some 44))] rfl ?_
        exact c_Re_readClause_147 C hret   S8 h
set_option maxRecDepth 100000 in
set_option maxHeartbeats 4000000 in
theorem c_Re_readClause_56 {p : Program} {l : Launch} {e : Env} {s : State} {m : MethodId} {args : Array Value} {below : List Frame} {meth : Method} {c : Code} {G : zG} (C : zC p s m args meth c G b_Re_readClause 5 y_Re_readClause.cls) (hret : meth.sig.returnType = (some .boolean)) {fu : Nat} {r : Int32} {S1 : zSt} : ∀ (n : Nat) (a3 : Int32) (a4 : Int32) (S : zSt) , f_Re_readClause_56 fu n a3 a4 S = some (r, S1) → zJ p l e rm_Re_readClause s m args below meth c G true 5 0 0 (zQm below G args s rm_Re_readClause true (some (zi r)) S1) S 56 [(0, zr (some 46)), (1, zr (some 44)), (3, zi a3), (4, zi a4)] [] := by
  intro n
  induction n with
  | zero =>
    intro a3 a4 S h
    cases h
  | succ n ih =>
    intro a3 a4 S h
    rw [f_Re_readClause_56] at h
    refine z_iload C 3 rfl d_Re_readClause_56 ?_
    refine z_iload_n C 2 rfl d_Re_readClause_58 rfl ?_
    rcases zite h with ⟨c1, h⟩ | ⟨c1, h⟩
    · refine z_icmp_get C 121 c1 d_Re_readClause_59 (by decide) ?_
      refine zq_lsub [0, 1] [(0, zr (some 46)), (1, zr (some 44))] rfl ?_
      exact c_Re_readClause_121 C hret   S h
    · refine z_icmp_gef C 121 c1 d_Re_readClause_59 (by decide) ?_
      refine z_iload C 3 rfl d_Re_readClause_62 ?_
      rcases zite h with ⟨c2, h⟩ | ⟨c2, h⟩
      · refine z_if_let C 78 c2 d_Re_readClause_64 (by decide) ?_
        refine z_aload_n C 0 rfl d_Re_readClause_78 rfl ?_
        refine z_getF2 C 6 (by decide) 0 (by decide) rfl 1 0 rfl (47) rfl zp_46 zk_46 zfl_6_14 d_Re_readClause_79 ?_
        refine z_iload C 3 rfl d_Re_readClause_82 ?_
        rcases zite h with ⟨c3, h⟩ | ⟨c3, h⟩
        · refine z_if_nef C 91 c3 d_Re_readClause_84 (by decide) ?_
          refine z_iconst C (0 : Int32) (by decide) d_Re_readClause_87 ?_
          refine z_goto C 92 d_Re_readClause_88 (by decide) ?_
          refine zq_lsub [0, 1, 2, 3] [(0, zr (some 46)), (1, zr (some 44)), (3, zi a3), (4, zi a4)] rfl ?_
          exact c_Re_readClause_92 C hret (fun z0 z1 zS zh => ih z0 z1 zS zh)  a3 a4 (0 : Int32) S h
        · refine z_if_net C 91 c3 d_Re_readClause_84 (by decide) ?_
          refine z_iconst C (1 : Int32) (by decide) d_Re_readClause_91 ?_
          refine zq_lsub [0, 1, 2, 3] [(0, zr (some 46)), (1, zr (some 44)), (3, zi a3), (4, zi a4)] rfl ?_
          exact c_Re_readClause_92 C hret (fun z0 z1 zS zh => ih z0 z1 zS zh)  a3 a4 (1 : Int32) S h
      · refine z_if_lef C 78 c2 d_Re_readClause_64 (by decide) ?_
        refine z_aload_n C 1 rfl d_Re_readClause_67 rfl ?_
        refine z_ldcS C 8 (by decide) rfl rfl d_Re_readClause_68 ?_
        obtain ⟨r5, S6, h4, h⟩ := zb2_some h
        refine z_cV C 9 (by decide) (m_Ta_takeWord l (by decide) h4) mf_Ta_takeWord lk_6_71 in_Ta_takeWord se_Ta_takeWord rfl zo_44 zk_44 ⟨rfl, rfl⟩ ⟨by decide, by decide⟩ ⟨Nat.zero_le _, Nat.zero_le _⟩ rfl _ [] rfl (Nat.le_of_ble_eq_true rfl) d_Re_readClause_70 ?_
        rcases zite h with ⟨c7, h⟩ | ⟨c7, h⟩
        · refine z_if_nef C 78 c7 d_Re_readClause_73 (by decide) ?_
          refine z_iconst C (0 : Int32) (by decide) d_Re_readClause_76 ?_
          cases h
          exact z_iret C .boolean hret rfl ⟨Nat.zero_le _, Nat.zero_le _⟩ d_Re_readClause_77
        · refine z_if_net C 78 c7 d_Re_readClause_73 (by decide) ?_
          refine z_aload_n C 0 rfl d_Re_readClause_78 rfl ?_
          refine z_getF2 C 6 (by decide) 0 (by decide) rfl 1 0 rfl (47) rfl zp_46 zk_46 zfl_6_14 d_Re_readClause_79 ?_
          refine z_iload C 3 rfl d_Re_readClause_82 ?_
          rcases zite h with ⟨c8, h⟩ | ⟨c8, h⟩
          · refine z_if_nef C 91 c8 d_Re_readClause_84 (by decide) ?_
            refine z_iconst C (0 : Int32) (by decide) d_Re_readClause_87 ?_
            refine z_goto C 92 d_Re_readClause_88 (by decide) ?_
            refine zq_lsub [0, 1, 2, 3] [(0, zr (some 46)), (1, zr (some 44)), (3, zi a3), (4, zi a4)] rfl ?_
            exact c_Re_readClause_92 C hret (fun z0 z1 zS zh => ih z0 z1 zS zh)  a3 a4 (0 : Int32) S6 h
          · refine z_if_net C 91 c8 d_Re_readClause_84 (by decide) ?_
            refine z_iconst C (1 : Int32) (by decide) d_Re_readClause_91 ?_
            refine zq_lsub [0, 1, 2, 3] [(0, zr (some 46)), (1, zr (some 44)), (3, zi a3), (4, zi a4)] rfl ?_
            exact c_Re_readClause_92 C hret (fun z0 z1 zS zh => ih z0 z1 zS zh)  a3 a4 (1 : Int32) S6 h
set_option maxRecDepth 100000 in
set_option maxHeartbeats 4000000 in
theorem c_Re_readClause_18 {p : Program} {l : Launch} {e : Env} {s : State} {m : MethodId} {args : Array Value} {below : List Frame} {meth : Method} {c : Code} {G : zG} (C : zC p s m args meth c G b_Re_readClause 5 y_Re_readClause.cls) (hret : meth.sig.returnType = (some .boolean)) {fu : Nat} {r : Int32} {S1 : zSt} : ∀ (k0 : Int32) (S : zSt) , f_Re_readClause_18 fu k0 S = some (r, S1) → zJ p l e rm_Re_readClause s m args below meth c G true 5 0 0 (zQm below G args s rm_Re_readClause true (some (zi r)) S1) S 18 [(0, zr (some 46)), (1, zr (some 44))] [zi k0] := by
  intro k0 S h
  unfold f_Re_readClause_18 at h
  refine z_istore_n C [(2, zi k0), (0, zr (some 46)), (1, zr (some 44))] d_Re_readClause_18 rfl (by decide) rfl ?_
  refine z_iload_n C 0 rfl d_Re_readClause_19 rfl ?_
  refine z_iconst C (-1 : Int32) (by decide) d_Re_readClause_20 ?_
  rcases zite h with ⟨c1, h⟩ | ⟨c1, h⟩
  · refine z_icmp_nef C 26 c1 d_Re_readClause_21 (by decide) ?_
    refine z_iconst C (0 : Int32) (by decide) d_Re_readClause_24 ?_
    cases h
    exact z_iret C .boolean hret rfl ⟨Nat.zero_le _, Nat.zero_le _⟩ d_Re_readClause_25
  · refine z_icmp_net C 26 c1 d_Re_readClause_21 (by decide) ?_
    refine z_aload_n C 1 rfl d_Re_readClause_26 rfl ?_
    refine z_getF2 C 6 (by decide) 0 (by decide) rfl 1 0 rfl (47) rfl zp_46 zk_46 zfl_6_14 d_Re_readClause_27 ?_
    refine z_iload_n C 0 rfl d_Re_readClause_30 rfl ?_
    refine z_fact (fun hSR => ?_)
    obtain ⟨S3, h2, h⟩ := zb1_some h
    refine z_cV C 10 (by decide) (m_Tx_begin l zk_47 (Nat.lt_of_lt_of_le (Nat.le_of_ble_eq_true rfl) hSR.1) h2) mf_Tx_begin lk_6_60 in_Tx_begin se_Tx_begin rfl zo_47 zk_47 ⟨rfl, rfl⟩ ⟨by decide, by decide⟩ ⟨Nat.zero_le _, Nat.zero_le _⟩ rfl _ [] rfl (Nat.le_of_ble_eq_true rfl) d_Re_readClause_31 ?_
    refine z_aload_n C 1 rfl d_Re_readClause_34 rfl ?_
    refine z_getI C 6 (by decide) 1 (by decide) rfl zo_46 zk_46 zfl_6_20 d_Re_readClause_35 ?_
    rcases zite h with ⟨c4, h⟩ | ⟨c4, h⟩
    · refine z_if_eqt C 48 c4 d_Re_readClause_38 (by decide) ?_
      refine z_iload_n C 0 rfl d_Re_readClause_48 rfl ?_
      obtain ⟨r6, h5, h⟩ := zb1_some h
      refine z_cS C (m_Re_sumsOfLaw l h5) mf_Re_sumsOfLaw lk_6_66 st_Re_sumsOfLaw ⟨rfl, rfl⟩ ⟨by decide, by decide⟩ ⟨Nat.zero_le _, Nat.zero_le _⟩ rfl _ [] rfl (Nat.le_of_ble_eq_true rfl) d_Re_readClause_49 ?_
      refine z_istore_n C [(3, zi r6), (2, zi k0), (0, zr (some 46)), (1, zr (some 44))] d_Re_readClause_52 rfl (by decide) rfl ?_
      refine z_iconst C (0 : Int32) (by decide) d_Re_readClause_53 ?_
      refine z_istore C [(4, zi (0 : Int32)), (3, zi r6), (2, zi k0), (0, zr (some 46)), (1, zr (some 44))] d_Re_readClause_54 (by decide) rfl ?_
      refine zq_lsub [3, 4, 1, 0] [(0, zr (some 46)), (1, zr (some 44)), (3, zi r6), (4, zi (0 : Int32))] rfl ?_
      exact c_Re_readClause_56 C hret fu  r6 (0 : Int32) S3 h
    · refine z_if_eqf C 48 c4 d_Re_readClause_38 (by decide) ?_
      refine z_iload_n C 0 rfl d_Re_readClause_41 rfl ?_
      obtain ⟨r8, h7, h⟩ := zb1_some h
      refine z_cS C (m_Re_sumsOfOrder l h7) mf_Re_sumsOfOrder lk_6_62 st_Re_sumsOfOrder ⟨rfl, rfl⟩ ⟨by decide, by decide⟩ ⟨Nat.zero_le _, Nat.zero_le _⟩ rfl _ [] rfl (Nat.le_of_ble_eq_true rfl) d_Re_readClause_42 ?_
      refine z_goto C 52 d_Re_readClause_45 (by decide) ?_
      refine z_istore_n C [(3, zi r8), (2, zi k0), (0, zr (some 46)), (1, zr (some 44))] d_Re_readClause_52 rfl (by decide) rfl ?_
      refine z_iconst C (0 : Int32) (by decide) d_Re_readClause_53 ?_
      refine z_istore C [(4, zi (0 : Int32)), (3, zi r8), (2, zi k0), (0, zr (some 46)), (1, zr (some 44))] d_Re_readClause_54 (by decide) rfl ?_
      refine zq_lsub [3, 4, 1, 0] [(0, zr (some 46)), (1, zr (some 44)), (3, zi r8), (4, zi (0 : Int32))] rfl ?_
      exact c_Re_readClause_56 C hret fu  r8 (0 : Int32) S3 h
set_option maxRecDepth 100000 in
set_option maxHeartbeats 4000000 in
theorem m_Re_readClause (l : Launch) {fu : Nat} {S : zSt} {r : Int32} {S1 : zSt} (h : f_Re_readClause fu  S = some (r, S1)) : zPM l y_Re_readClause b_Re_readClause 5 (some .boolean) rm_Re_readClause true true [zr (some 46), zr (some 44)] S (some (zi r)) S1 := by
  refine zPM_of (by decide) (Nat.le_of_ble_eq_true rfl) (fun p e s m args below meth c G C hret hname => ?_)
  unfold f_Re_readClause at h
  refine (?_ : zJ p l e rm_Re_readClause s m args below meth c G true 5 0 0 (zQm below G args s rm_Re_readClause true (some (zi r)) S1) S 0 [(0, zr (some 46)), (1, zr (some 44))] [])
  refine z_aload_n C 0 rfl d_Re_readClause_0 rfl ?_
  refine z_getI C 6 (by decide) 1 (by decide) rfl zo_46 zk_46 zfl_6_20 d_Re_readClause_1 ?_
  rcases zite h with ⟨c1, h⟩ | ⟨c1, h⟩
  · refine z_if_eqt C 14 c1 d_Re_readClause_4 (by decide) ?_
    refine z_aload_n C 1 rfl d_Re_readClause_14 rfl ?_
    obtain ⟨r3, S4, h2, h⟩ := zb2_some h
    refine z_cS C (m_Re_takeLaw l h2) mf_Re_takeLaw lk_6_57 st_Re_takeLaw ⟨rfl, rfl⟩ ⟨by decide, by decide⟩ ⟨Nat.zero_le _, Nat.zero_le _⟩ rfl _ [] rfl (Nat.le_of_ble_eq_true rfl) d_Re_readClause_15 ?_
    refine zq_lsub [0, 1] [(0, zr (some 46)), (1, zr (some 44))] rfl ?_
    exact c_Re_readClause_18 C hret  r3 S4 h
  · refine z_if_eqf C 14 c1 d_Re_readClause_4 (by decide) ?_
    refine z_aload_n C 1 rfl d_Re_readClause_7 rfl ?_
    obtain ⟨r6, S7, h5, h⟩ := zb2_some h
    refine z_cS C (m_Re_takeOrder l h5) mf_Re_takeOrder lk_6_53 st_Re_takeOrder ⟨rfl, rfl⟩ ⟨by decide, by decide⟩ ⟨Nat.zero_le _, Nat.zero_le _⟩ rfl _ [] rfl (Nat.le_of_ble_eq_true rfl) d_Re_readClause_8 ?_
    refine z_goto C 18 d_Re_readClause_11 (by decide) ?_
    refine zq_lsub [0, 1] [(0, zr (some 46)), (1, zr (some 44))] rfl ?_
    exact c_Re_readClause_18 C hret  r6 S7 h
def f_Re_faultIn_28 (fu : Nat) : Nat → Int32 → zSt → Option (Int32 × zSt)
  | 0, _, _ => none
  | n + 1, a3, S => if (12 : Int32) ≤ a3 then some (zI S 44 2, S) else zb2 (f_Re_readClause fu S) (fun r3 S4 => if r3 = 0 then some (zI S4 44 2, S4) else if (zI S4 44 4) = 0 then some ((-1 : Int32), S4) else zb2 (f_Ta_takeSign fu (59 : Int32) S4) (fun r8 S9 => if r8 = 0 then some (zI S9 44 2, S9) else f_Re_faultIn_28 fu n (a3 + (1 : Int32)) S9))
def f_Re_faultIn (fu : Nat) (a2 : Int32) (S : zSt) : Option (Int32 × zSt) := zgd (a2 = 0 ∨ a2 = 1) (zb1 (f_Tx_clear fu 47 (zwI (zwI (zwI S 46 1 a2) 46 2 (0 : Int32)) 46 3 (0 : Int32))) (fun S3 => zb1 (f_Ta_begin fu S3) (fun S5 => f_Re_faultIn_28 fu fu (0 : Int32) S5)))
set_option maxRecDepth 100000 in
set_option maxHeartbeats 4000000 in
theorem c_Re_faultIn_28 {p : Program} {l : Launch} {e : Env} {s : State} {m : MethodId} {args : Array Value} {below : List Frame} {meth : Method} {c : Code} {G : zG} (C : zC p s m args meth c G b_Re_faultIn 4 y_Re_faultIn.cls) (hret : meth.sig.returnType = (some .int)) {fu : Nat} {r : Int32} {S1 : zSt} : ∀ (n : Nat) (a3 : Int32) (S : zSt) , f_Re_faultIn_28 fu n a3 S = some (r, S1) → zJ p l e rm_Re_faultIn s m args below meth c G true 4 0 0 (zQm below G args s rm_Re_faultIn true (some (zi r)) S1) S 28 [(0, zr (some 46)), (1, zr (some 44)), (3, zi a3)] [] := by
  intro n
  induction n with
  | zero =>
    intro a3 S h
    cases h
  | succ n ih =>
    intro a3 S h
    rw [f_Re_faultIn_28] at h
    refine z_iload_n C 2 rfl d_Re_faultIn_28 rfl ?_
    refine z_bipush C (12 : Int32) (by decide) d_Re_faultIn_29 ?_
    rcases zite h with ⟨c1, h⟩ | ⟨c1, h⟩
    · refine z_icmp_get C 76 c1 d_Re_faultIn_31 (by decide) ?_
      refine z_aload_n C 1 rfl d_Re_faultIn_76 rfl ?_
      refine z_getI C 9 (by decide) 2 (by decide) rfl zo_44 zk_44 zfl_6_43 d_Re_faultIn_77 ?_
      cases h
      exact z_iret C .int hret rfl ⟨Nat.zero_le _, Nat.zero_le _⟩ d_Re_faultIn_80
    · refine z_icmp_gef C 76 c1 d_Re_faultIn_31 (by decide) ?_
      refine z_aload_n C 0 rfl d_Re_faultIn_34 rfl ?_
      refine z_aload_n C 1 rfl d_Re_faultIn_35 rfl ?_
      obtain ⟨r3, S4, h2, h⟩ := zb2_some h
      refine z_cV C 6 (by decide) (m_Re_readClause l h2) mf_Re_readClause lk_6_39 in_Re_readClause se_Re_readClause rfl zo_46 zk_46 ⟨rfl, rfl⟩ ⟨by decide, by decide⟩ ⟨Nat.zero_le _, Nat.zero_le _⟩ rfl _ [] rfl (Nat.le_of_ble_eq_true rfl) d_Re_faultIn_36 ?_
      rcases zite h with ⟨c5, h⟩ | ⟨c5, h⟩
      · refine z_if_nef C 47 c5 d_Re_faultIn_39 (by decide) ?_
        refine z_aload_n C 1 rfl d_Re_faultIn_42 rfl ?_
        refine z_getI C 9 (by decide) 2 (by decide) rfl zo_44 zk_44 zfl_6_43 d_Re_faultIn_43 ?_
        cases h
        exact z_iret C .int hret rfl ⟨Nat.zero_le _, Nat.zero_le _⟩ d_Re_faultIn_46
      · refine z_if_net C 47 c5 d_Re_faultIn_39 (by decide) ?_
        refine z_aload_n C 1 rfl d_Re_faultIn_47 rfl ?_
        refine z_getI C 9 (by decide) 4 (by decide) rfl zo_44 zk_44 zfl_6_46 d_Re_faultIn_48 ?_
        rcases zite h with ⟨c6, h⟩ | ⟨c6, h⟩
        · refine z_if_nef C 56 c6 d_Re_faultIn_51 (by decide) ?_
          refine z_iconst C (-1 : Int32) (by decide) d_Re_faultIn_54 ?_
          cases h
          exact z_iret C .int hret rfl ⟨Nat.zero_le _, Nat.zero_le _⟩ d_Re_faultIn_55
        · refine z_if_net C 56 c6 d_Re_faultIn_51 (by decide) ?_
          refine z_aload_n C 1 rfl d_Re_faultIn_56 rfl ?_
          refine z_bipush C (59 : Int32) (by decide) d_Re_faultIn_57 ?_
          obtain ⟨r8, S9, h7, h⟩ := zb2_some h
          refine z_cV C 9 (by decide) (m_Ta_takeSign l h7) mf_Ta_takeSign lk_6_49 in_Ta_takeSign se_Ta_takeSign rfl zo_44 zk_44 ⟨rfl, rfl⟩ ⟨by decide, by decide⟩ ⟨Nat.zero_le _, Nat.zero_le _⟩ rfl _ [] rfl (Nat.le_of_ble_eq_true rfl) d_Re_faultIn_59 ?_
          rcases zite h with ⟨c10, h⟩ | ⟨c10, h⟩
          · refine z_if_nef C 70 c10 d_Re_faultIn_62 (by decide) ?_
            refine z_aload_n C 1 rfl d_Re_faultIn_65 rfl ?_
            refine z_getI C 9 (by decide) 2 (by decide) rfl zo_44 zk_44 zfl_6_43 d_Re_faultIn_66 ?_
            cases h
            exact z_iret C .int hret rfl ⟨Nat.zero_le _, Nat.zero_le _⟩ d_Re_faultIn_69
          · refine z_if_net C 70 c10 d_Re_faultIn_62 (by decide) ?_
            refine z_iinc C 2 (a3 + (1 : Int32)) [(3, zi (a3 + (1 : Int32))), (0, zr (some 46)), (1, zr (some 44))] rfl d_Re_faultIn_70 (by first | rfl | decide) (by decide) rfl ?_
            refine z_goto C 28 d_Re_faultIn_73 (by decide) ?_
            refine zq_lsub [1, 2, 0] [(0, zr (some 46)), (1, zr (some 44)), (3, zi (a3 + (1 : Int32)))] rfl ?_
            exact ih (a3 + (1 : Int32)) S9 h
set_option maxRecDepth 100000 in
set_option maxHeartbeats 4000000 in
theorem m_Re_faultIn (l : Launch) {fu : Nat} {a2 : Int32} {S : zSt} {r : Int32} {S1 : zSt} (h : f_Re_faultIn fu a2 S = some (r, S1)) : zPM l y_Re_faultIn b_Re_faultIn 4 (some .int) rm_Re_faultIn true true [zr (some 46), zr (some 44), zi a2] S (some (zi r)) S1 := by
  refine zPM_of (by decide) (Nat.le_of_ble_eq_true rfl) (fun p e s m args below meth c G C hret hname => ?_)
  unfold f_Re_faultIn at h
  refine (?_ : zJ p l e rm_Re_faultIn s m args below meth c G true 4 0 0 (zQm below G args s rm_Re_faultIn true (some (zi r)) S1) S 0 [(0, zr (some 46)), (1, zr (some 44)), (2, zi a2)] [])
  refine z_aload_n C 0 rfl d_Re_faultIn_0 rfl ?_
  refine z_iload_n C 2 rfl d_Re_faultIn_1 rfl ?_
  obtain ⟨g1, h⟩ := zgd_some h
  refine z_putI C 6 (by decide) 1 (by decide) rfl (Or.inr g1) zo_46 zk_46 zfl_6_20 (Or.inl rfl) d_Re_faultIn_2 ?_
  refine z_aload_n C 0 rfl d_Re_faultIn_5 rfl ?_
  refine z_iconst C (0 : Int32) (by decide) d_Re_faultIn_6 ?_
  refine z_putI C 6 (by decide) 2 (by decide) rfl (Or.inl rfl) zo_46 zk_46 zfl_6_24 (Or.inl rfl) d_Re_faultIn_7 ?_
  refine z_aload_n C 0 rfl d_Re_faultIn_10 rfl ?_
  refine z_iconst C (0 : Int32) (by decide) d_Re_faultIn_11 ?_
  refine z_putI C 6 (by decide) 3 (by decide) rfl (Or.inl rfl) zo_46 zk_46 zfl_6_28 (Or.inl rfl) d_Re_faultIn_12 ?_
  refine z_aload_n C 0 rfl d_Re_faultIn_15 rfl ?_
  refine z_getF2 C 6 (by decide) 0 (by decide) rfl 1 0 rfl (47) rfl zp_46 zk_46 zfl_6_14 d_Re_faultIn_16 ?_
  refine z_fact (fun hSR => ?_)
  obtain ⟨S3, h2, h⟩ := zb1_some h
  refine z_cV C 10 (by decide) (m_Tx_clear l zk_47 (Nat.lt_of_lt_of_le (Nat.le_of_ble_eq_true rfl) hSR.1) h2) mf_Tx_clear lk_6_31 in_Tx_clear se_Tx_clear rfl zo_47 zk_47 ⟨rfl, rfl⟩ ⟨by decide, by decide⟩ ⟨Nat.zero_le _, Nat.zero_le _⟩ rfl _ [] rfl (Nat.le_of_ble_eq_true rfl) d_Re_faultIn_19 ?_
  refine z_aload_n C 1 rfl d_Re_faultIn_22 rfl ?_
  obtain ⟨S5, h4, h⟩ := zb1_some h
  refine z_cV C 9 (by decide) (m_Ta_begin l h4) mf_Ta_begin lk_6_34 in_Ta_begin se_Ta_begin rfl zo_44 zk_44 ⟨rfl, rfl⟩ ⟨by decide, by decide⟩ ⟨Nat.zero_le _, Nat.zero_le _⟩ rfl _ [] rfl (Nat.le_of_ble_eq_true rfl) d_Re_faultIn_23 ?_
  refine z_iconst C (0 : Int32) (by decide) d_Re_faultIn_26 ?_
  refine z_istore_n C [(3, zi (0 : Int32)), (0, zr (some 46)), (1, zr (some 44)), (2, zi a2)] d_Re_faultIn_27 rfl (by decide) rfl ?_
  refine zq_lsub [1, 2, 0] [(0, zr (some 46)), (1, zr (some 44)), (3, zi (0 : Int32))] rfl ?_
  exact c_Re_faultIn_28 C hret fu  (0 : Int32) S5 h
def f_Ps_addLaw (a0 : Nat) (a1 : Option Nat) (S : zSt) : Option (Int32 × zSt) := if (zI S a0 12) < 0 then some ((-1 : Int32), S) else if (zI S a0 12) < (6 : Int32) then zgd (0 ≤ (zI S a0 12) ∧ (zI S a0 12).toNatClampNeg < 6) (zgt a1 S (some (zI S a0 12, zwI (zwR S (a0 + 5) (zI S a0 12).toNatClampNeg a1) a0 12 ((zI S a0 12) + (1 : Int32))))) else some ((-1 : Int32), S)
set_option maxRecDepth 100000 in
set_option maxHeartbeats 4000000 in
theorem m_Ps_addLaw (l : Launch) {a0 : Nat} {a1 : Option Nat} {S : zSt} {r : Int32} {S1 : zSt} (ha0 : zK a0 = 5) (ga0 : a0 < zN0) (h : f_Ps_addLaw a0 a1 S = some (r, S1)) : zPM l y_Ps_addLaw b_Ps_addLaw 3 (some .int) rm_Ps_addLaw true true [zr (some a0), zr a1] S (some (zi r)) S1 := by
  refine zPM_of (by decide) (Nat.le_of_ble_eq_true rfl) (fun p e s m args below meth c G C hret hname => ?_)
  unfold f_Ps_addLaw at h
  refine (?_ : zJ p l e rm_Ps_addLaw s m args below meth c G true 3 0 0 (zQm below G args s rm_Ps_addLaw true (some (zi r)) S1) S 0 [(0, zr (some a0)), (1, zr a1)] [])
  refine z_aload_n C 0 rfl d_Ps_addLaw_0 rfl ?_
  refine z_getI C 5 (by decide) 12 (by decide) rfl (Or.inl ⟨rfl, ga0⟩) ha0 zfl_5_50 d_Ps_addLaw_1 ?_
  refine z_istore_n C [(2, zi (zI S a0 12)), (0, zr (some a0)), (1, zr a1)] d_Ps_addLaw_4 rfl (by decide) rfl ?_
  refine z_iload_n C 0 rfl d_Ps_addLaw_5 rfl ?_
  rcases zite h with ⟨c1, h⟩ | ⟨c1, h⟩
  · refine z_if_ltt C 18 c1 d_Ps_addLaw_6 (by decide) ?_
    refine z_iconst C (-1 : Int32) (by decide) d_Ps_addLaw_18 ?_
    cases h
    exact z_iret C .int hret rfl ⟨Nat.zero_le _, Nat.zero_le _⟩ d_Ps_addLaw_19
  · refine z_if_ltf C 18 c1 d_Ps_addLaw_6 (by decide) ?_
    refine z_iload_n C 0 rfl d_Ps_addLaw_9 rfl ?_
    refine z_aload_n C 1 rfl d_Ps_addLaw_10 rfl ?_
    refine z_getF2 C 5 (by decide) 13 (by decide) rfl 5 6 rfl (a0 + 5) rfl (Or.inl ga0) ha0 zfl_5_55 d_Ps_addLaw_11 ?_
    refine z_fact (fun hSR => ?_)
    refine z_alen55S C (6 : Int32) (by decide) (Or.inl ⟨rfl, (zko_5_5 ha0 ga0).1⟩) (zko_5_5 ha0 ga0).2 (zsa_5_5 hSR ha0 ga0) d_Ps_addLaw_14 ?_
    rcases zite h with ⟨c2, h⟩ | ⟨c2, h⟩
    · refine z_icmp_ltt C 20 c2 d_Ps_addLaw_15 (by decide) ?_
      refine z_aload_n C 1 rfl d_Ps_addLaw_20 rfl ?_
      refine z_getF2 C 5 (by decide) 13 (by decide) rfl 5 6 rfl (a0 + 5) rfl (Or.inl ga0) ha0 zfl_5_55 d_Ps_addLaw_21 ?_
      refine z_iload_n C 0 rfl d_Ps_addLaw_24 rfl ?_
      refine z_aload_n C 2 rfl d_Ps_addLaw_25 rfl ?_
      refine z_fact (fun hSR => ?_)
      obtain ⟨g3, h⟩ := zgd_some h
      obtain ⟨g4, h⟩ := zgt_some h
      refine z_tastoreS C (Or.inl ⟨rfl, (zko_5_5 ha0 ga0).1⟩) (zko_5_5 ha0 ga0).2 (zsa_5_5 hSR ha0 ga0) g3 g4 d_Ps_addLaw_26 ?_
      refine z_aload_n C 1 rfl d_Ps_addLaw_27 rfl ?_
      refine z_iload_n C 0 rfl d_Ps_addLaw_28 rfl ?_
      refine z_iconst C (1 : Int32) (by decide) d_Ps_addLaw_29 ?_
      refine z_iadd C d_Ps_addLaw_30 ?_
      refine z_putI C 5 (by decide) 12 (by decide) rfl (Or.inl rfl) (Or.inl ⟨rfl, ga0⟩) ha0 zfl_5_50 (Or.inl rfl) d_Ps_addLaw_31 ?_
      refine z_iload_n C 0 rfl d_Ps_addLaw_34 rfl ?_
      cases h
      exact z_iret C .int hret rfl ⟨Nat.zero_le _, Nat.zero_le _⟩ d_Ps_addLaw_35
    · refine z_icmp_ltf C 20 c2 d_Ps_addLaw_15 (by decide) ?_
      refine z_iconst C (-1 : Int32) (by decide) d_Ps_addLaw_18 ?_
      cases h
      exact z_iret C .int hret rfl ⟨Nat.zero_le _, Nat.zero_le _⟩ d_Ps_addLaw_19

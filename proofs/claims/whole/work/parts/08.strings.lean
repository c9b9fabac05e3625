/-! the literals: String.length, String.charAt by their own bytecode -/
def y_Pr_checkIndex : MethodName := ⟨"jdk/internal/util/Preconditions", "checkIndex", "(IILjava/util/function/BiFunction;)I"⟩
abbrev b_Pr_checkIndex : ByteArray := prog_20_method_11_code
theorem d_Pr_checkIndex_0 : decode b_Pr_checkIndex 0 = .ok (.iload_n 0, 1) := by decide +kernel
theorem d_Pr_checkIndex_1 : decode b_Pr_checkIndex 1 = .ok (.ifCond .lt 8, 3) := by decide +kernel
theorem d_Pr_checkIndex_4 : decode b_Pr_checkIndex 4 = .ok (.iload_n 0, 1) := by decide +kernel
theorem d_Pr_checkIndex_5 : decode b_Pr_checkIndex 5 = .ok (.iload_n 1, 1) := by decide +kernel
theorem d_Pr_checkIndex_6 : decode b_Pr_checkIndex 6 = .ok (.if_icmp .lt 10, 3) := by decide +kernel
theorem d_Pr_checkIndex_9 : decode b_Pr_checkIndex 9 = .ok (.aload_n 2, 1) := by decide +kernel
theorem d_Pr_checkIndex_10 : decode b_Pr_checkIndex 10 = .ok (.iload_n 0, 1) := by decide +kernel
theorem d_Pr_checkIndex_11 : decode b_Pr_checkIndex 11 = .ok (.iload_n 1, 1) := by decide +kernel
theorem d_Pr_checkIndex_12 : decode b_Pr_checkIndex 12 = .ok (.invokestatic 95, 3) := by decide +kernel
theorem d_Pr_checkIndex_16 : decode b_Pr_checkIndex 16 = .ok (.iload_n 0, 1) := by decide +kernel
theorem d_Pr_checkIndex_17 : decode b_Pr_checkIndex 17 = .ok (.ireturn, 1) := by decide +kernel
theorem mf_Pr_checkIndex : zMF y_Pr_checkIndex b_Pr_checkIndex 3 (some .int) 3 := ⟨zGW_in 726 (by decide +kernel) (by decide +kernel), zGW_in 139 (by decide +kernel) (by decide +kernel), by decide +kernel⟩
theorem st_Pr_checkIndex : Cond.static y_Pr_checkIndex ∈ zGW := zGW_in 725 (by decide +kernel) (by decide +kernel)
def y_Sg_coder : MethodName := ⟨"java/lang/String", "coder", "()B"⟩
abbrev b_Sg_coder : ByteArray := prog_15_method_152_code
theorem d_Sg_coder_0 : decode b_Sg_coder 0 = .ok (.getstatic 38, 3) := by decide +kernel
theorem d_Sg_coder_3 : decode b_Sg_coder 3 = .ok (.ifCond .eq 10, 3) := by decide +kernel
theorem d_Sg_coder_6 : decode b_Sg_coder 6 = .ok (.aload_n 0, 1) := by decide +kernel
theorem d_Sg_coder_7 : decode b_Sg_coder 7 = .ok (.getfield 15, 3) := by decide +kernel
theorem d_Sg_coder_10 : decode b_Sg_coder 10 = .ok (.goto 4, 3) := by decide +kernel
theorem d_Sg_coder_13 : decode b_Sg_coder 13 = .ok (.iconst 1, 1) := by decide +kernel
theorem d_Sg_coder_14 : decode b_Sg_coder 14 = .ok (.ireturn, 1) := by decide +kernel
theorem mf_Sg_coder : zMF y_Sg_coder b_Sg_coder 1 (some .byte) 0 := ⟨zGW_in 704 (by decide +kernel) (by decide +kernel), zGW_in 137 (by decide +kernel) (by decide +kernel), by decide +kernel⟩
theorem in_Sg_coder : Cond.instanceMethod y_Sg_coder ∈ zGW := zGW_in 702 (by decide +kernel) (by decide +kernel)
theorem se_Sg_coder : Cond.selects y_Sg_coder.cls y_Sg_coder y_Sg_coder ∈ zGW := zGW_in 703 (by decide +kernel) (by decide +kernel)
def y_Sg_isLatin1 : MethodName := ⟨"java/lang/String", "isLatin1", "()Z"⟩
abbrev b_Sg_isLatin1 : ByteArray := prog_15_method_154_code
theorem d_Sg_isLatin1_0 : decode b_Sg_isLatin1 0 = .ok (.getstatic 38, 3) := by decide +kernel
theorem d_Sg_isLatin1_3 : decode b_Sg_isLatin1 3 = .ok (.ifCond .eq 14, 3) := by decide +kernel
theorem d_Sg_isLatin1_6 : decode b_Sg_isLatin1 6 = .ok (.aload_n 0, 1) := by decide +kernel
theorem d_Sg_isLatin1_7 : decode b_Sg_isLatin1 7 = .ok (.getfield 15, 3) := by decide +kernel
theorem d_Sg_isLatin1_10 : decode b_Sg_isLatin1 10 = .ok (.ifCond .ne 7, 3) := by decide +kernel
theorem d_Sg_isLatin1_13 : decode b_Sg_isLatin1 13 = .ok (.iconst 1, 1) := by decide +kernel
theorem d_Sg_isLatin1_14 : decode b_Sg_isLatin1 14 = .ok (.goto 4, 3) := by decide +kernel
theorem d_Sg_isLatin1_17 : decode b_Sg_isLatin1 17 = .ok (.iconst 0, 1) := by decide +kernel
theorem d_Sg_isLatin1_18 : decode b_Sg_isLatin1 18 = .ok (.ireturn, 1) := by decide +kernel
theorem mf_Sg_isLatin1 : zMF y_Sg_isLatin1 b_Sg_isLatin1 1 (some .boolean) 0 := ⟨zGW_in 715 (by decide +kernel) (by decide +kernel), zGW_in 137 (by decide +kernel) (by decide +kernel), by decide +kernel⟩
theorem in_Sg_isLatin1 : Cond.instanceMethod y_Sg_isLatin1 ∈ zGW := zGW_in 713 (by decide +kernel) (by decide +kernel)
theorem se_Sg_isLatin1 : Cond.selects y_Sg_isLatin1.cls y_Sg_isLatin1 y_Sg_isLatin1 ∈ zGW := zGW_in 714 (by decide +kernel) (by decide +kernel)
def y_Sg_checkIndex : MethodName := ⟨"java/lang/String", "checkIndex", "(II)V"⟩
abbrev b_Sg_checkIndex : ByteArray := prog_15_method_155_code
theorem d_Sg_checkIndex_0 : decode b_Sg_checkIndex 0 = .ok (.iload_n 0, 1) := by decide +kernel
theorem d_Sg_checkIndex_1 : decode b_Sg_checkIndex 1 = .ok (.iload_n 1, 1) := by decide +kernel
theorem d_Sg_checkIndex_2 : decode b_Sg_checkIndex 2 = .ok (.getstatic 1053, 3) := by decide +kernel
theorem d_Sg_checkIndex_5 : decode b_Sg_checkIndex 5 = .ok (.invokestatic 1059, 3) := by decide +kernel
theorem d_Sg_checkIndex_8 : decode b_Sg_checkIndex 8 = .ok (.pop, 1) := by decide +kernel
theorem d_Sg_checkIndex_9 : decode b_Sg_checkIndex 9 = .ok (.return_, 1) := by decide +kernel
theorem mf_Sg_checkIndex : zMF y_Sg_checkIndex b_Sg_checkIndex 2 none 2 := ⟨zGW_in 721 (by decide +kernel) (by decide +kernel), zGW_in 137 (by decide +kernel) (by decide +kernel), by decide +kernel⟩
theorem st_Sg_checkIndex : Cond.static y_Sg_checkIndex ∈ zGW := zGW_in 720 (by decide +kernel) (by decide +kernel)
def y_Sl_charAt : MethodName := ⟨"java/lang/StringLatin1", "charAt", "([BI)C"⟩
abbrev b_Sl_charAt : ByteArray := prog_16_method_2_code
theorem d_Sl_charAt_0 : decode b_Sl_charAt 0 = .ok (.iload_n 1, 1) := by decide +kernel
theorem d_Sl_charAt_1 : decode b_Sl_charAt 1 = .ok (.aload_n 0, 1) := by decide +kernel
theorem d_Sl_charAt_2 : decode b_Sl_charAt 2 = .ok (.arraylength, 1) := by decide +kernel
theorem d_Sl_charAt_3 : decode b_Sl_charAt 3 = .ok (.invokestatic 9, 3) := by decide +kernel
theorem d_Sl_charAt_6 : decode b_Sl_charAt 6 = .ok (.aload_n 0, 1) := by decide +kernel
theorem d_Sl_charAt_7 : decode b_Sl_charAt 7 = .ok (.iload_n 1, 1) := by decide +kernel
theorem d_Sl_charAt_8 : decode b_Sl_charAt 8 = .ok (.baload, 1) := by decide +kernel
theorem d_Sl_charAt_9 : decode b_Sl_charAt 9 = .ok (.sipush 255, 3) := by decide +kernel
theorem d_Sl_charAt_12 : decode b_Sl_charAt 12 = .ok (.iand, 1) := by decide +kernel
theorem d_Sl_charAt_13 : decode b_Sl_charAt 13 = .ok (.i2c, 1) := by decide +kernel
theorem d_Sl_charAt_14 : decode b_Sl_charAt 14 = .ok (.ireturn, 1) := by decide +kernel
theorem mf_Sl_charAt : zMF y_Sl_charAt b_Sl_charAt 2 (some .char) 2 := ⟨zGW_in 718 (by decide +kernel) (by decide +kernel), zGW_in 138 (by decide +kernel) (by decide +kernel), by decide +kernel⟩
theorem st_Sl_charAt : Cond.static y_Sl_charAt ∈ zGW := zGW_in 717 (by decide +kernel) (by decide +kernel)
def y_Sg_length : MethodName := ⟨"java/lang/String", "length", "()I"⟩
abbrev b_Sg_length : ByteArray := prog_15_method_54_code
theorem d_Sg_length_0 : decode b_Sg_length 0 = .ok (.aload_n 0, 1) := by decide +kernel
theorem d_Sg_length_1 : decode b_Sg_length 1 = .ok (.getfield 9, 3) := by decide +kernel
theorem d_Sg_length_4 : decode b_Sg_length 4 = .ok (.arraylength, 1) := by decide +kernel
theorem d_Sg_length_5 : decode b_Sg_length 5 = .ok (.aload_n 0, 1) := by decide +kernel
theorem d_Sg_length_6 : decode b_Sg_length 6 = .ok (.invokevirtual 335, 3) := by decide +kernel
theorem d_Sg_length_9 : decode b_Sg_length 9 = .ok (.ishr, 1) := by decide +kernel
theorem d_Sg_length_10 : decode b_Sg_length 10 = .ok (.ireturn, 1) := by decide +kernel
theorem mf_Sg_length : zMF y_Sg_length b_Sg_length 1 (some .int) 0 := ⟨zGW_in 700 (by decide +kernel) (by decide +kernel), zGW_in 137 (by decide +kernel) (by decide +kernel), by decide +kernel⟩
theorem in_Sg_length : Cond.instanceMethod y_Sg_length ∈ zGW := zGW_in 698 (by decide +kernel) (by decide +kernel)
theorem se_Sg_length : Cond.selects y_Sg_length.cls y_Sg_length y_Sg_length ∈ zGW := zGW_in 699 (by decide +kernel) (by decide +kernel)
def y_Sg_charAt : MethodName := ⟨"java/lang/String", "charAt", "(I)C"⟩
abbrev b_Sg_charAt : ByteArray := prog_15_method_56_code
theorem d_Sg_charAt_0 : decode b_Sg_charAt 0 = .ok (.aload_n 0, 1) := by decide +kernel
theorem d_Sg_charAt_1 : decode b_Sg_charAt 1 = .ok (.invokevirtual 492, 3) := by decide +kernel
theorem d_Sg_charAt_4 : decode b_Sg_charAt 4 = .ok (.ifCond .eq 12, 3) := by decide +kernel
theorem d_Sg_charAt_7 : decode b_Sg_charAt 7 = .ok (.aload_n 0, 1) := by decide +kernel
theorem d_Sg_charAt_8 : decode b_Sg_charAt 8 = .ok (.getfield 9, 3) := by decide +kernel
theorem d_Sg_charAt_11 : decode b_Sg_charAt 11 = .ok (.iload_n 1, 1) := by decide +kernel
theorem d_Sg_charAt_12 : decode b_Sg_charAt 12 = .ok (.invokestatic 495, 3) := by decide +kernel
theorem d_Sg_charAt_15 : decode b_Sg_charAt 15 = .ok (.ireturn, 1) := by decide +kernel
theorem d_Sg_charAt_16 : decode b_Sg_charAt 16 = .ok (.aload_n 0, 1) := by decide +kernel
theorem d_Sg_charAt_17 : decode b_Sg_charAt 17 = .ok (.getfield 9, 3) := by decide +kernel
theorem d_Sg_charAt_20 : decode b_Sg_charAt 20 = .ok (.iload_n 1, 1) := by decide +kernel
theorem d_Sg_charAt_21 : decode b_Sg_charAt 21 = .ok (.invokestatic 498, 3) := by decide +kernel
theorem d_Sg_charAt_24 : decode b_Sg_charAt 24 = .ok (.ireturn, 1) := by decide +kernel
theorem mf_Sg_charAt : zMF y_Sg_charAt b_Sg_charAt 2 (some .char) 1 := ⟨zGW_in 711 (by decide +kernel) (by decide +kernel), zGW_in 137 (by decide +kernel) (by decide +kernel), by decide +kernel⟩
theorem in_Sg_charAt : Cond.instanceMethod y_Sg_charAt ∈ zGW := zGW_in 709 (by decide +kernel) (by decide +kernel)
theorem se_Sg_charAt : Cond.selects y_Sg_charAt.cls y_Sg_charAt y_Sg_charAt ∈ zGW := zGW_in 710 (by decide +kernel) (by decide +kernel)
theorem lks_335 : Cond.methodLink "java/lang/String" 335 y_Sg_coder ∈ zGW := zGW_in 701 (by decide +kernel) (by decide +kernel)
theorem lks_492 : Cond.methodLink "java/lang/String" 492 y_Sg_isLatin1 ∈ zGW := zGW_in 712 (by decide +kernel) (by decide +kernel)
theorem lks_495 : Cond.methodLink "java/lang/String" 495 y_Sl_charAt ∈ zGW := zGW_in 716 (by decide +kernel) (by decide +kernel)
theorem lks_9 : Cond.methodLink "java/lang/StringLatin1" 9 y_Sg_checkIndex ∈ zGW := zGW_in 719 (by decide +kernel) (by decide +kernel)
theorem lks_1059 : Cond.methodLink "java/lang/String" 1059 y_Pr_checkIndex ∈ zGW := zGW_in 724 (by decide +kernel) (by decide +kernel)
theorem fls_9 : Cond.fieldLink "java/lang/String" 9 "java/lang/String" "value" "[B" ∈ zGW := zGW_in 1973 (by decide +kernel) (by decide +kernel)
theorem fls_15 : Cond.fieldLink "java/lang/String" 15 "java/lang/String" "coder" "B" ∈ zGW := zGW_in 1974 (by decide +kernel) (by decide +kernel)
theorem fls_38 : Cond.fieldLink "java/lang/String" 38 "java/lang/String" "COMPACT_STRINGS" "Z" ∈ zGW := zGW_in 705 (by decide +kernel) (by decide +kernel)
theorem fls_1053 : Cond.fieldLink "java/lang/String" 1053 "jdk/internal/util/Preconditions" "SIOOBE_FORMATTER" "Ljava/util/function/BiFunction;" ∈ zGW := zGW_in 722 (by decide +kernel) (by decide +kernel)
theorem zx_ad (G : zG) (k : Nat) : zad G (zX + k) = G.2.1 k := by
  unfold zad
  rw [if_neg (by omega), Nat.add_sub_cancel_left]
section ZSS
variable {p : Program} {l : Launch} {e : Env} {R : Room} {s : State} {m : MethodId} {args : Array Value} {below : List Frame} {meth : Method} {c : Code} {G : zG} {f : Bool} {nL cells slots : Nat} {Q : State → Prop} {S : zSt} {cc : ByteArray} {own : String} {pc : Nat} {ls : List (Nat × zV)} {st : List zV}
theorem zkeep {H : Heap} (hW : zW G f S H) : ∀ a : Nat, a < G.1.size → ¬ (fun q => zb G ≤ q) a → H[a]? = G.1[a]? := fun a h _ => hW.2.2.1 a h
theorem z_sget (C : zC p s m args meth c G cc nL own) {n d : String} {v : zV} {j idx : Nat} (hj : j < 25) (hF : zSK G s → va_OF "java/lang/String" n d (zmv G v) (G.2.1 j) (fun q => zb G ≤ q) s G.1) (hl : Cond.fieldLink own idx "java/lang/String" n d ∈ zGW) (dd : decode cc pc = .ok (.getfield idx, 3))
    (kk : zJ p l e R s m args below meth c G f nL cells slots Q S (pc + 3) ls (v :: st)) : zJ p l e R s m args below meth c G f nL cells slots Q S pc ls (zr (some (zX + j)) :: st) := by
  intro H locs la hW hq hl1
  obtain ⟨hx, hb, hml, hown, hts, hlk, hKK⟩ := C
  obtain ⟨cf, k, fi, fd, cell, h1, h2, h3, h4, h5, h6⟩ := (hF hKK.2.2.2.2.2).kept (zkeep hW)
  show W p l e R s m args below meth c H locs cells slots Q (F0 m pc la (Value.ref (zad G (zX + j)) :: zst G st))
  rw [zx_ad]
  exact W.getf hx hb hown (hts _ hl) h1 h2 h3 h4 (v := zmv G v) h5 rfl rfl dd (kk H locs la hW hq hl1)
theorem z_salen (C : zC p s m args meth c G cc nL own) {j : Nat} (hj : j < 25) (dd : decode cc pc = .ok (.arraylength, 1))
    (kk : zJ p l e R s m args below meth c G f nL cells slots Q S (pc + 1) ls (zi (zSlen j) :: st)) : zJ p l e R s m args below meth c G f nL cells slots Q S pc ls (zr (some (zX + (25 + j))) :: st) := by
  intro H locs la hW hq hl1
  obtain ⟨hx, hb, hml, hown, hts, hlk, hKK⟩ := C
  obtain ⟨cell, h1, h2, h3, h4, h5, h6, h7⟩ := (hKK.2.2.2.2.2.1.1 j hj).2.2.2.kept (zkeep hW)
  show W p l e R s m args below meth c H locs cells slots Q (F0 m pc la (Value.ref (zad G (zX + (25 + j))) :: zst G st))
  rw [zx_ad]
  exact W.alen hx hb h1 h2 h5 rfl rfl dd (kk H locs la hW hq hl1)
theorem zSln_lt (j : Nat) (hj : j < 25) : zSln.getD j 0 < 2 ^ 31 := (show ∀ j, j < 25 → zSln.getD j 0 < 2 ^ 31 by decide +kernel) j hj
theorem zx_lt {j : Nat} {x : Int32} (hj : j < 25) (hx : 0 ≤ x ∧ x < zSlen j) : x.toNatClampNeg < zSln.getD j 0 := by
  obtain ⟨n, hn, rfl⟩ := nI_of (Int32.not_lt.mpr hx.1)
  have h := zSln_lt j hj
  rw [nI_clamp hn]
  exact (nI_ltI hn h).mp hx.2
theorem z_sbald (C : zC p s m args meth c G cc nL own) {j : Nat} {x : Int32} (hj : j < 25) (hx0 : 0 ≤ x ∧ x < zSlen j) (dd : decode cc pc = .ok (.baload, 1))
    (kk : zJ p l e R s m args below meth c G f nL cells slots Q S (pc + 1) ls (zi (zSch j x.toNatClampNeg) :: st)) : zJ p l e R s m args below meth c G f nL cells slots Q S pc ls (zi x :: zr (some (zX + (25 + j))) :: st) := by
  intro H locs la hW hq hl1
  obtain ⟨hx, hb, hml, hown, hts, hlk, hKK⟩ := C
  obtain ⟨cell, h1, h2, h3, h4, h5, h6, h7⟩ := (hKK.2.2.2.2.2.1.1 j hj).2.2.2.kept (zkeep hW)
  have hlt := zx_lt hj hx0
  show W p l e R s m args below meth c H locs cells slots Q (F0 m pc la (Value.int x :: Value.ref (zad G (zX + (25 + j))) :: zst G st))
  rw [zx_ad]
  exact W.bald (v := .int (zSch j x.toNatClampNeg)) hx hb h1 h2 h3 (by rintro (g | g); exact absurd g (Int32.not_lt.mpr hx0.1); omega) (h6 _ hlt) rfl rfl dd (kk H locs la hW hq hl1)
theorem z_gets (C : zC p s m args meth c G cc nL own) {c0 n d : String} {v : zV} {idx : Nat} (hZ : va_Z c0 n d (zmv G v) (fun q => zb G ≤ q) s G.1) (hl : Cond.fieldLink own idx c0 n d ∈ zGW) (dd : decode cc pc = .ok (.getstatic idx, 3))
    (kk : zJ p l e R s m args below meth c G f nL cells slots Q S (pc + 3) ls (v :: st)) : zJ p l e R s m args below meth c G f nL cells slots Q S pc ls st := by
  intro H locs la hW hq hl1
  obtain ⟨hx, hb, hml, hown, hts, hlk, hKK⟩ := C
  obtain ⟨cf, kf, fi, fd, a, cell, h1, h2, h3, h4, h5, h6, h7, h8⟩ := hZ.kept (zkeep hW)
  exact W.gets hx hb hown (hts _ hl) h1 h2 h3 h4 h5 (fun z => by rw [z] at h6; cases h6) (v := zmv G v) h7 rfl dd (kk H locs la hW hq hl1)
theorem z_i2c (C : zC p s m args meth c G cc nL own) {x v : Int32} (hv : (x.toUInt32 % 65536).toInt32 = v) (d : decode cc pc = .ok (.i2c, 1)) (k : zJ p l e R s m args below meth c G f nL cells slots Q S (pc + 1) ls (zi v :: st)) : zJ p l e R s m args below meth c G f nL cells slots Q S pc ls (zi x :: st) := by
  intro H locs la hW hq hl
  obtain ⟨hx, hb, hml, hown, hts, hlk, hKK⟩ := C
  exact lv_i2c hx hb d hv (k H locs la hW hq hl)
/-- a call on a literal -/
theorem z_callVS {y : MethodName} {bytes : ByteArray} {maxL : Nat} {ret : Option FieldType} {rm : Room} {As : List zV} {S1 : zSt} {v : Option zV} {j idx n : Nat} (C : zC p s m args meth c G cc nL own) (hj : j < 25) (hM : zPM l y bytes maxL ret rm f f (zr (some (zX + j)) :: As) S v S1)
    (hF : zMF y bytes maxL ret n) (hlk : Cond.methodLink own idx y ∈ zGW) (hin : Cond.instanceMethod y ∈ zGW) (hse : Cond.selects y.cls y y ∈ zGW) (hyt : y.cls = "java/lang/String") (hz : rm.cells = 0 ∧ rm.slots = 0)
    (hR : rm.frames + 1 ≤ R.frames ∧ 8 + (maxL + 11) + rm.locals ≤ R.locals ∧ cells ≤ R.cells ∧ slots ≤ R.slots) (hn : As.length = n) (stk rest : List zV) (hstk : stk = As.reverse ++ zr (some (zX + j)) :: rest) (hst : (rest.map zcat).sum ≤ 8) (d : decode cc pc = .ok (.invokevirtual idx, 3))
    (kk : zJ p l e R s m args below meth c G f nL cells slots Q S1 (pc + 3) ls (zres v rest)) : zJ p l e R s m args below meth c G f nL cells slots Q S pc ls stk := by
  subst hstk
  intro H locs la hW hq hl
  obtain ⟨hx, hb, hml, hown, hts, hlk', hKK⟩ := C
  obtain ⟨cell, q1, q2, q3, -⟩ := (hKK.2.2.2.2.2.1.1 j hj).1.kept (zkeep hW)
  have k2 : zJ p l e R s m args below meth c G f nL (cells + rm.cells) (slots + rm.slots) Q S1 (pc + 3) ls (zres v rest) := by rw [hz.1, hz.2]; exact kk
  refine zcallW (va_runV (As := As.map (zmv G)) (rest := zst G rest) (g := F0 m pc la (zst G (As.reverse ++ zr (some (zX + j)) :: rest))) (C := y.cls) (b := G.2.1 j) ⟨hx, hb, hml, hown, hts⟩ (hM G) ⟨callB_of n hts (zGood hF.1) rfl rfl rfl (hts _ hF.2.1) (hts _ hlk) hF.2.2 ⟨hR.1, hR.2.1⟩, hts _ hin, hts _ hse⟩
    ⟨zblind, ⟨cell, q1, q2, by rw [hyt]; exact q3⟩, fun U hU hWm => ⟨?_, by rw [hU]; exact hW, zKK.warm hWm hKK⟩⟩ rfl (by rw [List.length_map]; exact hn) hl.1 ?_ ?_ d ⟨by rw [hz.1]; exact hR.2.2.1, by rw [hz.2]; exact hR.2.2.2⟩) (fun _ _ _ h => h) hq hl k2
  · show (Value.ref (G.2.1 j) :: _).toArray = (Value.ref (zad G (zX + j)) :: _).toArray
    rw [zx_ad]
  · show zst G _ = _
    unfold zst
    rw [List.map_append, List.map_reverse, List.map_cons]
    show _ ++ Value.ref (zad G (zX + j)) :: _ = _
    rw [zx_ad]
  · show 0 + _ ≤ 8
    unfold zst
    rw [List.map_map, show ((fun v : Value => v.category) ∘ zmv G) = zcat from funext (zmv_cat G)]
    omega
end ZSS
abbrev rs_1 : Room := { frames := 1, cells := 0, slots := 0, locals := 64 }
abbrev rs_2 : Room := { frames := 2, cells := 0, slots := 0, locals := 100 }
abbrev rs_3 : Room := { frames := 3, cells := 0, slots := 0, locals := 140 }
abbrev rs_4 : Room := { frames := 4, cells := 0, slots := 0, locals := 180 }
theorem m_Pr_checkIndex (l : Launch) {x n : Int32} {o : Option Nat} {S : zSt} (h : 0 ≤ x ∧ x < n) : zPM l y_Pr_checkIndex b_Pr_checkIndex 3 (some .int) rs_1 true true [zi x, zi n, zr o] S (some (zi x)) S := by
  refine zPM_of (by decide) (Nat.le_of_ble_eq_true rfl) (fun p e s m args below meth c G C hret hname => ?_)
  refine (?_ : zJ p l e rs_1 s m args below meth c G true 3 0 0 (zQm below G args s rs_1 true (some (zi x)) S) S 0 [(0, zi x), (1, zi n), (2, zr o)] [])
  refine z_iload_n C 0 rfl d_Pr_checkIndex_0 rfl ?_
  refine z_if_ltf C 9 (Int32.not_lt.mpr h.1) d_Pr_checkIndex_1 (by decide) ?_
  refine z_iload_n C 0 rfl d_Pr_checkIndex_4 rfl ?_
  refine z_iload_n C 1 rfl d_Pr_checkIndex_5 rfl ?_
  refine z_icmp_ltt C 16 h.2 d_Pr_checkIndex_6 (by decide) ?_
  refine z_iload_n C 0 rfl d_Pr_checkIndex_16 rfl ?_
  exact z_iret C .int hret rfl ⟨Nat.zero_le _, Nat.zero_le _⟩ d_Pr_checkIndex_17
theorem m_Sg_coder (l : Launch) {j : Nat} {S : zSt} (hj : j < 25) : zPM l y_Sg_coder b_Sg_coder 1 (some .byte) rs_1 true true [zr (some (zX + j))] S (some (zi 0)) S := by
  refine zPM_of (by decide) (Nat.le_of_ble_eq_true rfl) (fun p e s m args below meth c G C hret hname => ?_)
  refine (?_ : zJ p l e rs_1 s m args below meth c G true 1 0 0 (zQm below G args s rs_1 true (some (zi 0)) S) S 0 [(0, zr (some (zX + j)))] [])
  refine z_gets C (v := zi 1) C.2.2.2.2.2.2.2.2.2.2.2.2.1 fls_38 d_Sg_coder_0 ?_
  refine z_if_eqf C 13 (by decide) d_Sg_coder_3 (by decide) ?_
  refine z_aload_n C 0 rfl d_Sg_coder_6 rfl ?_
  refine z_sget C (v := zi 0) hj (fun h => (h.1.1 j hj).2.1) fls_15 d_Sg_coder_7 ?_
  refine z_goto C 14 d_Sg_coder_10 (by decide) ?_
  exact z_iret C .byte hret rfl ⟨Nat.zero_le _, Nat.zero_le _⟩ d_Sg_coder_14
theorem m_Sg_isLatin1 (l : Launch) {j : Nat} {S : zSt} (hj : j < 25) : zPM l y_Sg_isLatin1 b_Sg_isLatin1 1 (some .boolean) rs_1 true true [zr (some (zX + j))] S (some (zi 1)) S := by
  refine zPM_of (by decide) (Nat.le_of_ble_eq_true rfl) (fun p e s m args below meth c G C hret hname => ?_)
  refine (?_ : zJ p l e rs_1 s m args below meth c G true 1 0 0 (zQm below G args s rs_1 true (some (zi 1)) S) S 0 [(0, zr (some (zX + j)))] [])
  refine z_gets C (v := zi 1) C.2.2.2.2.2.2.2.2.2.2.2.2.1 fls_38 d_Sg_isLatin1_0 ?_
  refine z_if_eqf C 17 (by decide) d_Sg_isLatin1_3 (by decide) ?_
  refine z_aload_n C 0 rfl d_Sg_isLatin1_6 rfl ?_
  refine z_sget C (v := zi 0) hj (fun h => (h.1.1 j hj).2.1) fls_15 d_Sg_isLatin1_7 ?_
  refine z_if_nef C 17 rfl d_Sg_isLatin1_10 (by decide) ?_
  refine z_iconst C 1 (by decide) d_Sg_isLatin1_13 ?_
  refine z_goto C 18 d_Sg_isLatin1_14 (by decide) ?_
  exact z_iret C .boolean hret rfl ⟨Nat.zero_le _, Nat.zero_le _⟩ d_Sg_isLatin1_18
theorem m_Sg_checkIndex (l : Launch) {x n : Int32} {S : zSt} (h : 0 ≤ x ∧ x < n) : zPM l y_Sg_checkIndex b_Sg_checkIndex 2 none rs_2 true true [zi x, zi n] S none S := by
  refine zPM_of (by decide) (Nat.le_of_ble_eq_true rfl) (fun p e s m args below meth c G C hret hname => ?_)
  refine (?_ : zJ p l e rs_2 s m args below meth c G true 2 0 0 (zQm below G args s rs_2 true none S) S 0 [(0, zi x), (1, zi n)] [])
  refine z_iload_n C 0 rfl d_Sg_checkIndex_0 rfl ?_
  refine z_iload_n C 1 rfl d_Sg_checkIndex_1 rfl ?_
  have go : ∀ o : Option Nat, zJ p l e rs_2 s m args below meth c G true 2 0 0 (zQm below G args s rs_2 true none S) S 5 [(0, zi x), (1, zi n)] [zr o, zi n, zi x] := by
    intro o
    refine z_cS C (m_Pr_checkIndex l h) mf_Pr_checkIndex lks_1059 st_Pr_checkIndex ⟨rfl, rfl⟩ ⟨by decide, by decide⟩ ⟨Nat.zero_le _, Nat.zero_le _⟩ rfl _ [] rfl (Nat.le_of_ble_eq_true rfl) d_Sg_checkIndex_5 ?_
    refine z_pop C rfl d_Sg_checkIndex_8 ?_
    exact z_vret C hret ⟨Nat.zero_le _, Nat.zero_le _⟩ d_Sg_checkIndex_9
  rcases C.2.2.2.2.2.2.2.2.2.2.2.2.2 with hZ | hZ
  · exact z_gets C (v := zr none) hZ fls_1053 d_Sg_checkIndex_2 (go none)
  · exact z_gets C (v := zr (some (zX + 50))) (by rw [show zmv G (zr (some (zX + 50))) = .ref (zad G (zX + 50)) from rfl, zx_ad]; exact hZ) fls_1053 d_Sg_checkIndex_2 (go _)
theorem zSch_ok : ∀ j, j < 25 → ∀ k, k < zSln.getD j 0 → ((((zSby.getD j []).getD k 0) &&& 255).toUInt32 % 65536).toInt32 = (zSby.getD j []).getD k 0 ∧ narrow .char (.int ((zSby.getD j []).getD k 0)) = .int ((zSby.getD j []).getD k 0) := by decide +kernel
theorem m_Sl_charAt (l : Launch) {j : Nat} {x : Int32} {S : zSt} (hj : j < 25) (h : 0 ≤ x ∧ x < zSlen j) : zPM l y_Sl_charAt b_Sl_charAt 2 (some .char) rs_3 true true [zr (some (zX + (25 + j))), zi x] S (some (zi (zSch j x.toNatClampNeg))) S := by
  refine zPM_of (by decide) (Nat.le_of_ble_eq_true rfl) (fun p e s m args below meth c G C hret hname => ?_)
  refine (?_ : zJ p l e rs_3 s m args below meth c G true 2 0 0 (zQm below G args s rs_3 true (some (zi (zSch j x.toNatClampNeg))) S) S 0 [(0, zr (some (zX + (25 + j)))), (1, zi x)] [])
  obtain ⟨e1, e2⟩ := zSch_ok j hj _ (zx_lt hj h)
  refine z_iload_n C 1 rfl d_Sl_charAt_0 rfl ?_
  refine z_aload_n C 0 rfl d_Sl_charAt_1 rfl ?_
  refine z_salen C hj d_Sl_charAt_2 ?_
  refine z_cS C (m_Sg_checkIndex l h) mf_Sg_checkIndex lks_9 st_Sg_checkIndex ⟨rfl, rfl⟩ ⟨by decide, by decide⟩ ⟨Nat.zero_le _, Nat.zero_le _⟩ rfl _ [] rfl (Nat.le_of_ble_eq_true rfl) d_Sl_charAt_3 ?_
  refine z_aload_n C 0 rfl d_Sl_charAt_6 rfl ?_
  refine z_iload_n C 1 rfl d_Sl_charAt_7 rfl ?_
  refine z_sbald C hj h d_Sl_charAt_8 ?_
  refine z_sipush C 255 (by decide) d_Sl_charAt_9 ?_
  refine z_iand C d_Sl_charAt_12 ?_
  refine z_i2c C e1 d_Sl_charAt_13 ?_
  exact z_iret C .char hret e2 ⟨Nat.zero_le _, Nat.zero_le _⟩ d_Sl_charAt_14
theorem m_Sg_length (l : Launch) {j : Nat} {S : zSt} (hj : j < 25) : zPM l y_Sg_length b_Sg_length 1 (some .int) rs_2 true true [zr (some (zX + j))] S (some (zi (zSlen j))) S := by
  refine zPM_of (by decide) (Nat.le_of_ble_eq_true rfl) (fun p e s m args below meth c G C hret hname => ?_)
  refine (?_ : zJ p l e rs_2 s m args below meth c G true 1 0 0 (zQm below G args s rs_2 true (some (zi (zSlen j))) S) S 0 [(0, zr (some (zX + j)))] [])
  refine z_aload_n C 0 rfl d_Sg_length_0 rfl ?_
  refine z_sget C (v := zr (some (zX + (25 + j)))) hj (fun h => by rw [show zmv G (zr (some (zX + (25 + j)))) = .ref (zad G (zX + (25 + j))) from rfl, zx_ad]; exact (h.1.1 j hj).2.2.1) fls_9 d_Sg_length_1 ?_
  refine z_salen C hj d_Sg_length_4 ?_
  refine z_aload_n C 0 rfl d_Sg_length_5 rfl ?_
  refine z_callVS C hj (m_Sg_coder l hj) mf_Sg_coder lks_335 in_Sg_coder se_Sg_coder rfl ⟨rfl, rfl⟩ ⟨by decide, by decide, Nat.zero_le _, Nat.zero_le _⟩ rfl _ [zi (zSlen j)] rfl (Nat.le_of_ble_eq_true rfl) d_Sg_length_6 ?_
  refine z_ishr C d_Sg_length_9 ?_
  have e1 : zSlen j >>> ((0 : Int32) &&& 31) = zSlen j := (show ∀ j, j < 25 → zSlen j >>> ((0 : Int32) &&& 31) = zSlen j by decide +kernel) j hj
  rw [e1]
  exact z_iret C .int hret rfl ⟨Nat.zero_le _, Nat.zero_le _⟩ d_Sg_length_10
theorem m_Sg_charAt (l : Launch) {j : Nat} {x : Int32} {S : zSt} (hj : j < 25) (h : 0 ≤ x ∧ x < zSlen j) : zPM l y_Sg_charAt b_Sg_charAt 2 (some .char) rs_4 true true [zr (some (zX + j)), zi x] S (some (zi (zSch j x.toNatClampNeg))) S := by
  refine zPM_of (by decide) (Nat.le_of_ble_eq_true rfl) (fun p e s m args below meth c G C hret hname => ?_)
  refine (?_ : zJ p l e rs_4 s m args below meth c G true 2 0 0 (zQm below G args s rs_4 true (some (zi (zSch j x.toNatClampNeg))) S) S 0 [(0, zr (some (zX + j))), (1, zi x)] [])
  obtain ⟨e1, e2⟩ := zSch_ok j hj _ (zx_lt hj h)
  refine z_aload_n C 0 rfl d_Sg_charAt_0 rfl ?_
  refine z_callVS C hj (m_Sg_isLatin1 l hj) mf_Sg_isLatin1 lks_492 in_Sg_isLatin1 se_Sg_isLatin1 rfl ⟨rfl, rfl⟩ ⟨by decide, by decide, Nat.zero_le _, Nat.zero_le _⟩ rfl _ [] rfl (Nat.le_of_ble_eq_true rfl) d_Sg_charAt_1 ?_
  refine z_if_eqf C 16 (by decide) d_Sg_charAt_4 (by decide) ?_
  refine z_aload_n C 0 rfl d_Sg_charAt_7 rfl ?_
  refine z_sget C (v := zr (some (zX + (25 + j)))) hj (fun h => by rw [show zmv G (zr (some (zX + (25 + j)))) = .ref (zad G (zX + (25 + j))) from rfl, zx_ad]; exact (h.1.1 j hj).2.2.1) fls_9 d_Sg_charAt_8 ?_
  refine z_iload_n C 1 rfl d_Sg_charAt_11 rfl ?_
  refine z_cS C (m_Sl_charAt l hj h) mf_Sl_charAt lks_495 st_Sl_charAt ⟨rfl, rfl⟩ ⟨by decide, by decide⟩ ⟨Nat.zero_le _, Nat.zero_le _⟩ rfl _ [] rfl (Nat.le_of_ble_eq_true rfl) d_Sg_charAt_12 ?_
  exact z_iret C .char hret e2 ⟨Nat.zero_le _, Nat.zero_le _⟩ d_Sg_charAt_15
section ZSS2
variable {p : Program} {l : Launch} {e : Env} {R : Room} {s : State} {m : MethodId} {args : Array Value} {below : List Frame} {meth : Method} {c : Code} {G : zG} {nL cells slots : Nat} {Q : State → Prop} {S : zSt} {cc : ByteArray} {own : String} {pc : Nat} {ls : List (Nat × zV)} {st : List zV}
theorem z_strlen (C : zC p s m args meth c G cc nL own) {j idx : Nat} (hj : j < 25) (hR : 8 ≤ R.frames ∧ 400 ≤ R.locals) (hcs : cells ≤ R.cells ∧ slots ≤ R.slots) (hlk : Cond.methodLink own idx (⟨"java/lang/String", "length", "()I"⟩ : MethodName) ∈ zGW) (hst : (st.map zcat).sum ≤ 8) (d : decode cc pc = .ok (.invokevirtual idx, 3))
    (kk : zJ p l e R s m args below meth c G true nL cells slots Q S (pc + 3) ls (zi (zSlen j) :: st)) : zJ p l e R s m args below meth c G true nL cells slots Q S pc ls (zr (some (zX + j)) :: st) :=
  z_callVS C hj (m_Sg_length l hj) mf_Sg_length hlk in_Sg_length se_Sg_length rfl ⟨rfl, rfl⟩ ⟨by show 2 + 1 ≤ _; omega, by show 8 + (1 + 11) + 100 ≤ _; omega, hcs⟩ rfl _ st rfl hst d kk
theorem z_strch (C : zC p s m args meth c G cc nL own) {j idx : Nat} {x : Int32} (hj : j < 25) (hx : 0 ≤ x ∧ x < zSlen j) (hR : 8 ≤ R.frames ∧ 400 ≤ R.locals) (hcs : cells ≤ R.cells ∧ slots ≤ R.slots) (hlk : Cond.methodLink own idx (⟨"java/lang/String", "charAt", "(I)C"⟩ : MethodName) ∈ zGW) (hst : (st.map zcat).sum ≤ 8) (d : decode cc pc = .ok (.invokevirtual idx, 3))
    (kk : zJ p l e R s m args below meth c G true nL cells slots Q S (pc + 3) ls (zi (zSch j x.toNatClampNeg) :: st)) : zJ p l e R s m args below meth c G true nL cells slots Q S pc ls (zi x :: zr (some (zX + j)) :: st) :=
  z_callVS C hj (m_Sg_charAt l hj hx) mf_Sg_charAt hlk in_Sg_charAt se_Sg_charAt rfl ⟨rfl, rfl⟩ ⟨by show 4 + 1 ≤ _; omega, by show 8 + (2 + 11) + 180 ≤ _; omega, hcs⟩ rfl _ st rfl hst d kk
end ZSS2

/-! the start: what the Statement gives, as the state wants it (printed by gen_start.py) -/
def zPr : List Jvm.Cond := flatC (Jvm.Cond.and given_1 narrow_1)
def zTm (i : Nat) : Term := .string (zNm 6) (zSX i).1
theorem zpE : ∀ i, i < 25 → zPr[([33, 41, 50, 60, 71, 84, 99, 116, 131, 145, 161, 178, 195, 214, 235, 256, 279, 305, 328, 354, 381, 408, 437, 467, 499] : List Nat).getD i 0]? = some (Cond.exactly (zTm i) "java/lang/String") := by decide +kernel
theorem zpC : ∀ i, i < 25 → zPr[([34, 42, 51, 61, 72, 85, 100, 117, 132, 146, 162, 179, 196, 215, 236, 257, 280, 306, 329, 355, 382, 409, 438, 468, 500] : List Nat).getD i 0]? = some (Cond.eq (.field (zTm i) "java/lang/String" "coder" "B") (.int 0)) := by decide +kernel
theorem zpA : ∀ i, i < 25 → zPr[([35, 43, 52, 62, 73, 86, 101, 118, 133, 147, 163, 180, 197, 216, 237, 258, 281, 307, 330, 356, 383, 410, 439, 469, 501] : List Nat).getD i 0]? = some (Cond.arrayOf (.field (zTm i) "java/lang/String" "value" "[B") .byte) := by decide +kernel
theorem zpL : ∀ i, i < 25 → zPr[([36, 44, 53, 63, 74, 87, 102, 119, 134, 148, 164, 181, 198, 217, 238, 259, 282, 308, 331, 357, 384, 411, 440, 470, 502] : List Nat).getD i 0]? = some (Cond.eq (.length (.field (zTm i) "java/lang/String" "value" "[B")) (.int (Int32.ofNat (zSln.getD i 0)))) := by decide +kernel
theorem zpX : ∀ i, i < 25 → ∀ j, j < zSln.getD i 0 → zPr[(([[37, 38, 39, 40], [45, 46, 47, 48], [54, 55, 56, 57], [64, 65, 66, 67], [75, 76, 77, 78, 79], [88, 89, 90, 91, 92, 93], [103, 104, 105, 106, 107, 108, 109], [120, 121, 122, 123], [135, 136], [149, 150, 151], [165, 166, 167], [182, 183], [199, 200, 201], [218, 219, 220, 221], [239, 240, 241], [260, 261, 262, 263], [283, 284, 285, 286, 287, 288], [309, 310], [332, 333, 334, 335], [358, 359, 360, 361], [385, 386, 387], [412, 413, 414, 415], [441, 442, 443, 444], [471, 472, 473, 474, 475], [503, 504]] : List (List Nat)).getD i []).getD j 0]? = some (Cond.eq (.elem (.field (zTm i) "java/lang/String" "value" "[B") (.int (Int32.ofNat j))) (.int ((zSby.getD i []).getD j 0))) := by decide +kernel
theorem zpN : ∀ i, i < 25 → ∀ j, j < 25 → i ≠ j → zPr[(([[0, 49, 58, 68, 80, 94, 110, 124, 137, 152, 168, 184, 202, 222, 242, 264, 289, 311, 336, 362, 388, 416, 445, 476, 505], [49, 0, 59, 69, 81, 95, 111, 125, 138, 153, 169, 185, 203, 223, 243, 265, 290, 312, 337, 363, 389, 417, 446, 477, 506], [58, 59, 0, 70, 82, 96, 112, 126, 139, 154, 170, 186, 204, 224, 244, 266, 291, 313, 338, 364, 390, 418, 447, 478, 507], [68, 69, 70, 0, 83, 97, 113, 127, 140, 155, 171, 187, 205, 225, 245, 267, 292, 314, 339, 365, 391, 419, 448, 479, 508], [80, 81, 82, 83, 0, 98, 114, 128, 141, 156, 172, 188, 206, 226, 246, 268, 293, 315, 340, 366, 392, 420, 449, 480, 509], [94, 95, 96, 97, 98, 0, 115, 129, 142, 157, 173, 189, 207, 227, 247, 269, 294, 316, 341, 367, 393, 421, 450, 481, 510], [110, 111, 112, 113, 114, 115, 0, 130, 143, 158, 174, 190, 208, 228, 248, 270, 295, 317, 342, 368, 394, 422, 451, 482, 511], [124, 125, 126, 127, 128, 129, 130, 0, 144, 159, 175, 191, 209, 229, 249, 271, 296, 318, 343, 369, 395, 423, 452, 483, 512], [137, 138, 139, 140, 141, 142, 143, 144, 0, 160, 176, 192, 210, 230, 250, 272, 297, 319, 344, 370, 396, 424, 453, 484, 513], [152, 153, 154, 155, 156, 157, 158, 159, 160, 0, 177, 193, 211, 231, 251, 273, 298, 320, 345, 371, 397, 425, 454, 485, 514], [168, 169, 170, 171, 172, 173, 174, 175, 176, 177, 0, 194, 212, 232, 252, 274, 299, 321, 346, 372, 398, 426, 455, 486, 515], [184, 185, 186, 187, 188, 189, 190, 191, 192, 193, 194, 0, 213, 233, 253, 275, 300, 322, 347, 373, 399, 427, 456, 487, 516], [202, 203, 204, 205, 206, 207, 208, 209, 210, 211, 212, 213, 0, 234, 254, 276, 301, 323, 348, 374, 400, 428, 457, 488, 517], [222, 223, 224, 225, 226, 227, 228, 229, 230, 231, 232, 233, 234, 0, 255, 277, 302, 324, 349, 375, 401, 429, 458, 489, 518], [242, 243, 244, 245, 246, 247, 248, 249, 250, 251, 252, 253, 254, 255, 0, 278, 303, 325, 350, 376, 402, 430, 459, 490, 519], [264, 265, 266, 267, 268, 269, 270, 271, 272, 273, 274, 275, 276, 277, 278, 0, 304, 326, 351, 377, 403, 431, 460, 491, 520], [289, 290, 291, 292, 293, 294, 295, 296, 297, 298, 299, 300, 301, 302, 303, 304, 0, 327, 352, 378, 404, 432, 461, 492, 521], [311, 312, 313, 314, 315, 316, 317, 318, 319, 320, 321, 322, 323, 324, 325, 326, 327, 0, 353, 379, 405, 433, 462, 493, 522], [336, 337, 338, 339, 340, 341, 342, 343, 344, 345, 346, 347, 348, 349, 350, 351, 352, 353, 0, 380, 406, 434, 463, 494, 523], [362, 363, 364, 365, 366, 367, 368, 369, 370, 371, 372, 373, 374, 375, 376, 377, 378, 379, 380, 0, 407, 435, 464, 495, 524], [388, 389, 390, 391, 392, 393, 394, 395, 396, 397, 398, 399, 400, 401, 402, 403, 404, 405, 406, 407, 0, 436, 465, 496, 525], [416, 417, 418, 419, 420, 421, 422, 423, 424, 425, 426, 427, 428, 429, 430, 431, 432, 433, 434, 435, 436, 0, 466, 497, 526], [445, 446, 447, 448, 449, 450, 451, 452, 453, 454, 455, 456, 457, 458, 459, 460, 461, 462, 463, 464, 465, 466, 0, 498, 527], [476, 477, 478, 479, 480, 481, 482, 483, 484, 485, 486, 487, 488, 489, 490, 491, 492, 493, 494, 495, 496, 497, 498, 0, 528], [505, 506, 507, 508, 509, 510, 511, 512, 513, 514, 515, 516, 517, 518, 519, 520, 521, 522, 523, 524, 525, 526, 527, 528, 0]] : List (List Nat)).getD i []).getD j 0]? = some (if (([[0, 0, 0, 0, 0, 0, 0, 0, 0, 0, 0, 0, 0, 0, 0, 0, 0, 0, 0, 0, 0, 0, 0, 0, 0], [1, 0, 0, 0, 0, 0, 0, 0, 0, 0, 0, 0, 0, 0, 0, 0, 0, 0, 0, 0, 0, 0, 0, 0, 0], [1, 1, 0, 0, 0, 0, 0, 0, 0, 0, 0, 0, 0, 0, 0, 0, 0, 0, 0, 0, 0, 0, 0, 0, 0], [1, 1, 1, 0, 0, 0, 0, 0, 0, 0, 0, 0, 0, 0, 0, 0, 0, 0, 0, 0, 0, 0, 0, 0, 0], [1, 1, 1, 1, 0, 0, 0, 0, 0, 0, 0, 0, 0, 0, 0, 0, 0, 0, 0, 0, 0, 0, 0, 0, 0], [1, 1, 1, 1, 1, 0, 0, 0, 0, 0, 0, 0, 0, 0, 0, 0, 0, 0, 0, 0, 0, 0, 0, 0, 0], [1, 1, 1, 1, 1, 1, 0, 0, 0, 0, 0, 0, 0, 0, 0, 0, 0, 0, 0, 0, 0, 0, 0, 0, 0], [1, 1, 1, 1, 1, 1, 1, 0, 0, 0, 0, 0, 0, 0, 0, 0, 0, 0, 0, 0, 0, 0, 0, 0, 0], [1, 1, 1, 1, 1, 1, 1, 1, 0, 0, 0, 0, 0, 0, 0, 0, 0, 0, 0, 0, 0, 0, 0, 0, 0], [1, 1, 1, 1, 1, 1, 1, 1, 1, 0, 0, 0, 0, 0, 0, 0, 0, 0, 0, 0, 0, 0, 0, 0, 0], [1, 1, 1, 1, 1, 1, 1, 1, 1, 1, 0, 0, 0, 0, 0, 0, 0, 0, 0, 0, 0, 0, 0, 0, 0], [1, 1, 1, 1, 1, 1, 1, 1, 1, 1, 1, 0, 0, 0, 0, 0, 0, 0, 0, 0, 0, 0, 0, 0, 0], [1, 1, 1, 1, 1, 1, 1, 1, 1, 1, 1, 1, 0, 0, 0, 0, 0, 0, 0, 0, 0, 0, 0, 0, 0], [1, 1, 1, 1, 1, 1, 1, 1, 1, 1, 1, 1, 1, 0, 0, 0, 0, 0, 0, 0, 0, 0, 0, 0, 0], [1, 1, 1, 1, 1, 1, 1, 1, 1, 1, 1, 1, 1, 1, 0, 0, 0, 0, 0, 0, 0, 0, 0, 0, 0], [1, 1, 1, 1, 1, 1, 1, 1, 1, 1, 1, 1, 1, 1, 1, 0, 0, 0, 0, 0, 0, 0, 0, 0, 0], [1, 1, 1, 1, 1, 1, 1, 1, 1, 1, 1, 1, 1, 1, 1, 1, 0, 0, 0, 0, 0, 0, 0, 0, 0], [1, 1, 1, 1, 1, 1, 1, 1, 1, 1, 1, 1, 1, 1, 1, 1, 1, 0, 0, 0, 0, 0, 0, 0, 0], [1, 1, 1, 1, 1, 1, 1, 1, 1, 1, 1, 1, 1, 1, 1, 1, 1, 1, 0, 0, 0, 0, 0, 0, 0], [1, 1, 1, 1, 1, 1, 1, 1, 1, 1, 1, 1, 1, 1, 1, 1, 1, 1, 1, 0, 0, 0, 0, 0, 0], [1, 1, 1, 1, 1, 1, 1, 1, 1, 1, 1, 1, 1, 1, 1, 1, 1, 1, 1, 1, 0, 0, 0, 0, 0], [1, 1, 1, 1, 1, 1, 1, 1, 1, 1, 1, 1, 1, 1, 1, 1, 1, 1, 1, 1, 1, 0, 0, 0, 0], [1, 1, 1, 1, 1, 1, 1, 1, 1, 1, 1, 1, 1, 1, 1, 1, 1, 1, 1, 1, 1, 1, 0, 0, 0], [1, 1, 1, 1, 1, 1, 1, 1, 1, 1, 1, 1, 1, 1, 1, 1, 1, 1, 1, 1, 1, 1, 1, 0, 0], [1, 1, 1, 1, 1, 1, 1, 1, 1, 1, 1, 1, 1, 1, 1, 1, 1, 1, 1, 1, 1, 1, 1, 1, 0]] : List (List Nat)).getD i []).getD j 0 = 0 then Cond.not (.eq (zTm i) (zTm j)) else Cond.not (.eq (zTm j) (zTm i))) := by decide +kernel
theorem zpR : ∀ i, i < 25 → lw_tbl[([688, 746, 747, 748, 752, 753, 754, 755, 766, 808, 818, 823, 828, 833, 837, 839, 840, 841, 842, 846, 847, 848, 849, 850, 859] : List Nat).getD i 0]? = some (Cond.stringRef (zNm 6) (zSX i).1 (zSX i).2) := by decide +kernel
theorem zpCS : zPr[4]? = some (Cond.eq (.static "java/lang/String" "COMPACT_STRINGS" "Z") (.int 1)) := by decide +kernel
theorem zpSF : zPr[5]? = some (Cond.isRef (.static "jdk/internal/util/Preconditions" "SIOOBE_FORMATTER" "Ljava/util/function/BiFunction;")) := by decide +kernel
theorem zlC : lw_tbl[706]? = some (Cond.laysStatic "java/lang/String" "COMPACT_STRINGS" "Z") := by decide +kernel
theorem zlS : lw_tbl[723]? = some (Cond.laysStatic "jdk/internal/util/Preconditions" "SIOOBE_FORMATTER" "Ljava/util/function/BiFunction;") := by decide +kernel
theorem zi1 : lw_tbl[137]? = some (Cond.initialized "java/lang/String") := by decide +kernel
theorem zi2 : lw_tbl[139]? = some (Cond.initialized "jdk/internal/util/Preconditions") := by decide +kernel
theorem zac_int : lw_tbl[226]? = some (Cond.arrayClass .int) := by decide +kernel
theorem zac_long : lw_tbl[257]? = some (Cond.arrayClass .long) := by decide +kernel
theorem zac_byte : lw_tbl[287]? = some (Cond.arrayClass .byte) := by decide +kernel
theorem zac_boolean : lw_tbl[1433]? = some (Cond.arrayClass .boolean) := by decide +kernel
theorem zao_5 : lw_tbl[227]? = some (Cond.arrayOver (.object (zNm 5))) := by decide +kernel
theorem zao_10 : lw_tbl[158]? = some (Cond.arrayOver (.object (zNm 10))) := by decide +kernel
theorem zfn_31 : lw_tbl[183]? = some (Cond.fieldLinkNest (zNm 8) 31 (zNm 5) (zT 5 10).2.1 (zT 5 10).2.2.1 (zNm 0)) := by decide +kernel
theorem zfn_38 : lw_tbl[185]? = some (Cond.fieldLinkNest (zNm 8) 38 (zNm 5) (zT 5 11).2.1 (zT 5 11).2.2.1 (zNm 0)) := by decide +kernel
theorem zmn : ∀ i, i < 9 → ∃ q, zMX[i]? = some q ∧ lw_tbl[([153, 230, 260, 290, 343, 357, 381, 403, 416] : List Nat).getD i 0]? = some (Cond.methodLinkNest (zNm 0) q.1 (zMN q.2) (zNm 0)) := by
  intro i hi
  match i, hi with
  | 0, _ => exact ⟨(11, 5), rfl, by decide +kernel⟩
  | 1, _ => exact ⟨(28, 2), rfl, by decide +kernel⟩
  | 2, _ => exact ⟨(38, 9), rfl, by decide +kernel⟩
  | 3, _ => exact ⟨(45, 6), rfl, by decide +kernel⟩
  | 4, _ => exact ⟨(52, 1), rfl, by decide +kernel⟩
  | 5, _ => exact ⟨(59, 4), rfl, by decide +kernel⟩
  | 6, _ => exact ⟨(66, 7), rfl, by decide +kernel⟩
  | 7, _ => exact ⟨(73, 3), rfl, by decide +kernel⟩
  | 8, _ => exact ⟨(80, 8), rfl, by decide +kernel⟩
  | i + 9, h => omega
theorem zii_0 : lw_tbl[144]? = some (Cond.instantiable (zNm 0) (zFN 0)) := by decide +kernel
theorem zii_1 : lw_tbl[342]? = some (Cond.instantiable (zNm 1) (zFN 1)) := by decide +kernel
theorem zii_2 : lw_tbl[229]? = some (Cond.instantiable (zNm 2) (zFN 2)) := by decide +kernel
theorem zii_3 : lw_tbl[402]? = some (Cond.instantiable (zNm 3) (zFN 3)) := by decide +kernel
theorem zii_4 : lw_tbl[356]? = some (Cond.instantiable (zNm 4) (zFN 4)) := by decide +kernel
theorem zii_5 : lw_tbl[152]? = some (Cond.instantiable (zNm 5) (zFN 5)) := by decide +kernel
theorem zii_6 : lw_tbl[289]? = some (Cond.instantiable (zNm 6) (zFN 6)) := by decide +kernel
theorem zii_7 : lw_tbl[380]? = some (Cond.instantiable (zNm 7) (zFN 7)) := by decide +kernel
theorem zii_8 : lw_tbl[415]? = some (Cond.instantiable (zNm 8) (zFN 8)) := by decide +kernel
theorem zii_9 : lw_tbl[259]? = some (Cond.instantiable (zNm 9) (zFN 9)) := by decide +kernel
theorem zii_10 : lw_tbl[295]? = some (Cond.instantiable (zNm 10) (zFN 10)) := by decide +kernel
theorem zii_11 : lw_tbl[1274]? = some (Cond.instantiable (zNm 11) (zFN 11)) := by decide +kernel
theorem zmem {w : Cond} {i : Nat} (h : lw_tbl[i]? = some w) : w ∈ lw_tbl := List.mem_of_getElem? h
/-- the side of the machine, at the law's entry -/
theorem zG_start {s : State} {b : Nat} (hts : ∀ w ∈ lw_tbl, w.before #[Value.ref b] s = true) (hgv : (Jvm.Cond.and given_1 narrow_1).before #[Value.ref b] s = true) : ∃ G : zG, G.1 = s.heap ∧ G.2.1 60 = b ∧ zKK G s := by
  have hs := flat_of_before _ hgv
  have hp : ∀ {i : Nat} {w : Cond}, zPr[i]? = some w → w.before #[Value.ref b] s = true := fun h => hs _ (List.mem_of_getElem? h)
  have ht : ∀ {i : Nat} {w : Cond}, lw_tbl[i]? = some w → w.before #[Value.ref b] s = true := fun h => hts _ (zmem h)
  have hA : ∀ a : Nat, a < s.heap.size → ¬ (fun q => s.heap.size ≤ q) a := fun a h => Nat.not_le.mpr h
  obtain ⟨adK, adV, hv, hev⟩ := vk_Sof (N := 25) (tm := zTm) (len := zSln) (byt := zSby) (A := fun q => s.heap.size ≤ q) zSln_lt (fun i hi => hp (zpE i hi)) (fun i hi => hp (zpC i hi)) (fun i hi => hp (zpA i hi)) (fun i hi => hp (zpL i hi)) (fun i hi j hj => hp (zpX i hi j hj))
    (fun i j hi hj hij => by
      have h := hp (zpN i hi j hj hij)
      split at h
      · exact Or.inl h
      · exact Or.inr h) hA
  obtain ⟨t, hSF⟩ : ∃ t : Nat, va_Z "jdk/internal/util/Preconditions" "SIOOBE_FORMATTER" "Ljava/util/function/BiFunction;" .null (fun q => s.heap.size ≤ q) s s.heap ∨ va_Z "jdk/internal/util/Preconditions" "SIOOBE_FORMATTER" "Ljava/util/function/BiFunction;" (.ref t) (fun q => s.heap.size ≤ q) s s.heap := by
    rcases va_Zqof (A := fun q => s.heap.size ≤ q) (ht zlS) (ht zi2) (hp zpSF) hA with h | ⟨t, h⟩
    · exact ⟨0, Or.inl h⟩
    · exact ⟨t, Or.inr h⟩
  have hkn : ∀ c, ∃ q : ClassId × (Nat → Nat), c < 12 → u_Kn s (zNm c) (zT c) (zFN c) q.1 q.2 := by
    intro c
    by_cases hc : c < 12
    · have hi : (Cond.instantiable (zNm c) (zFN c)).before #[Value.ref b] s = true := by
        match c, hc with

        | 0, _ => exact ht zii_0
        | 1, _ => exact ht zii_1
        | 2, _ => exact ht zii_2
        | 3, _ => exact ht zii_3
        | 4, _ => exact ht zii_4
        | 5, _ => exact ht zii_5
        | 6, _ => exact ht zii_6
        | 7, _ => exact ht zii_7
        | 8, _ => exact ht zii_8
        | 9, _ => exact ht zii_9
        | 10, _ => exact ht zii_10
        | 11, _ => exact ht zii_11
        | c + 12, h => omega
      obtain ⟨cC, iS, h⟩ := u_known (n := zFN c) hts (zin c hc) hi
      exact ⟨(cC, iS), fun _ => h⟩
    · exact ⟨(0, fun _ => 0), fun h => absurd h hc⟩
  obtain ⟨ck, hck⟩ := Classical.axiomOfChoice hkn
  have harr : ∀ {ty : FieldType}, (Cond.arrayClass ty).before #[Value.ref b] s = true → (∀ U cA, va_RA U cA ty = (U.vm.findClass ("[" ++ ty.toString) = some cA)) → ∃ cA, ArrOfT s cA ty ∧ va_RA s cA ty := by
    intro ty h hra
    obtain ⟨cA, k, comp, h1, h2, h3⟩ := Cond.arrayClass_spec h
    exact ⟨cA, fun n z => ⟨fun q h => (by cases h), k, h2, comp, h3⟩, by rw [hra]; exact h1⟩
  have harro : ∀ {C : String}, (Cond.arrayOver (.object C)).before #[Value.ref b] s = true → ∃ cA, ArrOfT s cA (.object C) ∧ va_RA s cA (.object C) := by
    intro C h
    obtain ⟨comp, cA, k, h1, -, h2, h3, h4⟩ := Cond.arrayOver_spec h
    exact ⟨cA, fun n z => ⟨fun q h => (by cases h), k, h2, comp, h3⟩, k, comp, h2, h3, h1, h4⟩
  obtain ⟨c50, h50⟩ := harr (ht zac_int) (fun _ _ => rfl)
  obtain ⟨c51, h51⟩ := harr (ht zac_long) (fun _ _ => rfl)
  obtain ⟨c52, h52⟩ := harr (ht zac_byte) (fun _ _ => rfl)
  obtain ⟨c53, h53⟩ := harr (ht zac_boolean) (fun _ _ => rfl)
  obtain ⟨c54, h54⟩ := harro (ht zao_5)
  obtain ⟨c55, h55⟩ := harro (ht zao_10)
  let dA : Nat → ClassId := fun k => if k = 50 then c50 else if k = 51 then c51 else if k = 52 then c52 else if k = 53 then c53 else if k = 54 then c54 else c55
  let ext : Nat → Nat := fun j => if j < 25 then adK j else if j < 50 then adV (j - 25) else if j = 50 then t else b
  refine ⟨(s.heap, ext, (fun c => (ck c).1, fun c => (ck c).2), dA), rfl, rfl, ⟨fun c q hq => ?_, fun k q hq => ?_⟩, fun j hj => ?_, ⟨va_AO.of (ht zao_5), va_AO.of (ht zao_10)⟩, ⟨va_Nw.of rfl (ht zfn_31), va_Nw.of rfl (ht zfn_38)⟩, fun q hq => ?_, ?_, ?_, ?_⟩
  · have hc : c < 12 := by
      have := (List.getElem?_eq_some_iff.mp hq).1
      exact this
    rw [zCL_at hc] at hq
    cases hq
    exact hck c hc
  · match k, hq with
    | 0, hq => cases hq; exact h50
    | 1, hq => cases hq; exact h51
    | 2, hq => cases hq; exact h52
    | 3, hq => cases hq; exact h53
    | 4, hq => cases hq; exact h54
    | 5, hq => cases hq; exact h55
    | k + 6, hq => simp [ztys] at hq
  · have e : ext j = adK j := if_pos hj
    show vk_R _ _ _ (ext j) s
    rw [e]
    have hown : ∃ cur, s.vm.findClass (zNm 6) = some cur := ⟨_, (hck 6 (by decide)).2.1⟩
    have h1 := ht (zpR j hj)
    refine ⟨?_, ?_⟩
    · have := h1
      exact this
    · have := hev j hj
      exact this
  · obtain ⟨i, hi⟩ := List.mem_iff_getElem?.mp hq
    have hlt : i < 9 := (List.getElem?_eq_some_iff.mp hi).1
    obtain ⟨q', h1, h2⟩ := zmn i hlt
    cases h1.symm.trans hi
    exact va_Nw.of rfl (ht h2)
  · refine ⟨fun i hi => ?_, fun i j hi hj e => ?_⟩
    · have e1 : ext i = adK i := if_pos hi
      have e2 : ext (25 + i) = adV i := by
        show (if 25 + i < 25 then _ else if 25 + i < 50 then adV (25 + i - 25) else _) = _
        rw [if_neg (by omega), if_pos (by omega), Nat.add_sub_cancel_left]
      show va_O _ (ext i) _ _ _ ∧ va_OF _ _ _ _ (ext i) _ _ _ ∧ va_OF _ _ _ (.ref (ext (25 + i))) (ext i) _ _ _ ∧ va_T _ (ext (25 + i)) _ _ _ _ _
      rw [e1, e2]
      exact hv.1 i hi
    · have e1 : ext i = adK i := if_pos hi
      have e2 : ext j = adK j := if_pos hj
      have e : ext i = ext j := e
      rw [e1, e2] at e
      exact hv.2 i j hi hj e
  · exact va_Zof (ht zlC) (ht zi1) (va_eqi (hp zpCS)) hA
  · exact hSF

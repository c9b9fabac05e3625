/-! constructors -/
section ZI
variable {p : Program} {l : Launch} {e : Env} {R : Room} {s : State} {m : MethodId} {args : Array Value} {below : List Frame} {meth : Method} {c : Code} {G : zG} {f : Bool} {nL cells slots : Nat} {Q : State → Prop} {S : zSt} {cc : ByteArray} {own : String} {pc : Nat} {ls : List (Nat × zV)} {st : List zV}
theorem z_newI (C : zC p s m args meth c G cc nL own) {x : Int32} (n : Nat) (hx : ¬ x < 0) (hxn : x.toNatClampNeg = n) (hbig : n ≤ 1000000) (hK : zK (zN S) = 50 ∧ zN S < zX) (hcells : cells + 1 ≤ R.cells) (hslots : slots + n ≤ R.slots) (d : decode cc pc = .ok (.newarray .int, 2))
    (kk : zJ p l e R s m args below meth c G false nL (cells + 1) (slots + n) Q (znew S n) (pc + 2) ls (zr (some (zN S)) :: st)) : zJ p l e R s m args below meth c G false nL cells slots Q S pc ls (zi x :: st) :=
  znewarr (kd := 50) (tix := 0) (ty := .int) C rfl (by decide) rfl (fun _ _ => rfl) hx hxn hbig (by decide) hK.1 hK.2 (zGW_in 226 (by decide +kernel) (by decide +kernel)) (fun k => by
    unfold zarrV
    rw [hK.1]
    show Value.int (if zN S = zN S then 0 else _) = _
    rw [if_pos rfl]
    rfl) hcells hslots d kk
theorem z_newL (C : zC p s m args meth c G cc nL own) {x : Int32} (n : Nat) (hx : ¬ x < 0) (hxn : x.toNatClampNeg = n) (hbig : n ≤ 1000000) (hK : zK (zN S) = 51 ∧ zN S < zX) (hcells : cells + 1 ≤ R.cells) (hslots : slots + n ≤ R.slots) (d : decode cc pc = .ok (.newarray .long, 2))
    (kk : zJ p l e R s m args below meth c G false nL (cells + 1) (slots + n) Q (znew S n) (pc + 2) ls (zr (some (zN S)) :: st)) : zJ p l e R s m args below meth c G false nL cells slots Q S pc ls (zi x :: st) :=
  znewarr (kd := 51) (tix := 1) (ty := .long) C rfl (by decide) rfl (fun _ _ => rfl) hx hxn hbig (by decide) hK.1 hK.2 (zGW_in 257 (by decide +kernel) (by decide +kernel)) (fun k => by
    unfold zarrV
    rw [hK.1]
    show Value.long (if zN S = zN S then 0 else _) = _
    rw [if_pos rfl]
    rfl) hcells hslots d kk
theorem z_newB (C : zC p s m args meth c G cc nL own) {x : Int32} (n : Nat) (hx : ¬ x < 0) (hxn : x.toNatClampNeg = n) (hbig : n ≤ 1000000) (hK : zK (zN S) = 52 ∧ zN S < zX) (hcells : cells + 1 ≤ R.cells) (hslots : slots + n ≤ R.slots) (d : decode cc pc = .ok (.newarray .byte, 2))
    (kk : zJ p l e R s m args below meth c G false nL (cells + 1) (slots + n) Q (znew S n) (pc + 2) ls (zr (some (zN S)) :: st)) : zJ p l e R s m args below meth c G false nL cells slots Q S pc ls (zi x :: st) :=
  znewarr (kd := 52) (tix := 2) (ty := .byte) C rfl (by decide) rfl (fun _ _ => rfl) hx hxn hbig (by decide) hK.1 hK.2 (zGW_in 287 (by decide +kernel) (by decide +kernel)) (fun k => by
    unfold zarrV
    rw [hK.1]
    show Value.int (if zN S = zN S then 0 else _) = _
    rw [if_pos rfl]
    rfl) hcells hslots d kk
theorem z_newZ (C : zC p s m args meth c G cc nL own) {x : Int32} (n : Nat) (hx : ¬ x < 0) (hxn : x.toNatClampNeg = n) (hbig : n ≤ 1000000) (hK : zK (zN S) = 53 ∧ zN S < zX) (hcells : cells + 1 ≤ R.cells) (hslots : slots + n ≤ R.slots) (d : decode cc pc = .ok (.newarray .boolean, 2))
    (kk : zJ p l e R s m args below meth c G false nL (cells + 1) (slots + n) Q (znew S n) (pc + 2) ls (zr (some (zN S)) :: st)) : zJ p l e R s m args below meth c G false nL cells slots Q S pc ls (zi x :: st) :=
  znewarr (kd := 53) (tix := 3) (ty := .boolean) C rfl (by decide) rfl (fun _ _ => rfl) hx hxn hbig (by decide) hK.1 hK.2 (zGW_in 1433 (by decide +kernel) (by decide +kernel)) (fun k => by
    unfold zarrV
    rw [hK.1]
    show Value.int (if zN S = zN S then 0 else _) = _
    rw [if_pos rfl]
    rfl) hcells hslots d kk
theorem z_newP (C : zC p s m args meth c G cc nL own) {x : Int32} {idx : Nat} (n : Nat) (hx : ¬ x < 0) (hxn : x.toNatClampNeg = n) (hbig : n ≤ 1000000) (hK : zK (zN S) = 54 ∧ zN S < zX) (hlk : Cond.classLink own idx (zNm 5) ∈ zGW) (hcells : cells + 1 ≤ R.cells) (hslots : slots + n ≤ R.slots) (d : decode cc pc = .ok (.anewarray idx, 3))
    (kk : zJ p l e R s m args below meth c G false nL (cells + 1) (slots + n) Q (znew S n) (pc + 3) ls (zr (some (zN S)) :: st)) : zJ p l e R s m args below meth c G false nL cells slots Q S pc ls (zi x :: st) := by
  intro H locs la hW hq hl1
  obtain ⟨hxx, hb, hml, hown, hts, hlk', hKK⟩ := C
  refine W.anew (g := F0 m pc la (Value.int x :: zst G st)) (rest := zst G st) (n := x) hxx hb hown (hts _ hlk) (va_AO.use hKK.2.2.1.1) rfl d rfl hx (by rw [hxn]; exact Nat.le_trans (Nat.mul_le_mul_right 4 hbig) (Nat.le_of_ble_eq_true rfl)) hcells (by rw [hxn]; exact hslots) (fun cA kA comp h1 h2 h3 h4 => ?_)
  obtain ⟨kA', comp', -, -, -, h5⟩ := (hKK.1.2 4 _ rfl).2
  have hcA : cA = G.2.2.2 54 := Option.some.inj (h1.symm.trans h5)
  subst hcA
  rw [hxn]
  have hW' : zW G false (znew S n) (H.push { cls := G.2.2.2 54, slots := Array.replicate n .null, vm := .none }) := by
    refine zW_new hW hK.2 (by simp) (fun q h => by rw [Array.getElem?_push, if_neg (Nat.ne_of_lt h)]) ?_
    unfold zcell
    rw [if_neg (by omega), hK.1, ← hW.1, Array.getElem?_push_size, arrV_new]
    congr 2
    · show n = (if zN S = zN S then n else zA S (zN S))
      rw [if_pos rfl]
    · funext k
      unfold zarrV
      rw [hK.1]
      show Value.null = zmv G (zr (if zN S = zN S then none else _))
      rw [if_pos rfl]
      rfl
  have k2 := kk _ locs la hW' hq hl1
  have e : zst G (zr (some (zN S)) :: st) = Value.ref H.size :: zst G st := by
    show Value.ref (zad G (zN S)) :: _ = _
    rw [zad_lt hK.2, hW.1]; rfl
  rw [e] at k2
  exact k2
theorem z_newT (C : zC p s m args meth c G cc nL own) {x : Int32} {idx : Nat} (n : Nat) (hx : ¬ x < 0) (hxn : x.toNatClampNeg = n) (hbig : n ≤ 1000000) (hK : zK (zN S) = 55 ∧ zN S < zX) (hlk : Cond.classLink own idx (zNm 10) ∈ zGW) (hcells : cells + 1 ≤ R.cells) (hslots : slots + n ≤ R.slots) (d : decode cc pc = .ok (.anewarray idx, 3))
    (kk : zJ p l e R s m args below meth c G false nL (cells + 1) (slots + n) Q (znew S n) (pc + 3) ls (zr (some (zN S)) :: st)) : zJ p l e R s m args below meth c G false nL cells slots Q S pc ls (zi x :: st) := by
  intro H locs la hW hq hl1
  obtain ⟨hxx, hb, hml, hown, hts, hlk', hKK⟩ := C
  refine W.anew (g := F0 m pc la (Value.int x :: zst G st)) (rest := zst G st) (n := x) hxx hb hown (hts _ hlk) (va_AO.use hKK.2.2.1.2) rfl d rfl hx (by rw [hxn]; exact Nat.le_trans (Nat.mul_le_mul_right 4 hbig) (Nat.le_of_ble_eq_true rfl)) hcells (by rw [hxn]; exact hslots) (fun cA kA comp h1 h2 h3 h4 => ?_)
  obtain ⟨kA', comp', -, -, -, h5⟩ := (hKK.1.2 5 _ rfl).2
  have hcA : cA = G.2.2.2 55 := Option.some.inj (h1.symm.trans h5)
  subst hcA
  rw [hxn]
  have hW' : zW G false (znew S n) (H.push { cls := G.2.2.2 55, slots := Array.replicate n .null, vm := .none }) := by
    refine zW_new hW hK.2 (by simp) (fun q h => by rw [Array.getElem?_push, if_neg (Nat.ne_of_lt h)]) ?_
    unfold zcell
    rw [if_neg (by omega), hK.1, ← hW.1, Array.getElem?_push_size, arrV_new]
    congr 2
    · show n = (if zN S = zN S then n else zA S (zN S))
      rw [if_pos rfl]
    · funext k
      unfold zarrV
      rw [hK.1]
      show Value.null = zmv G (zr (if zN S = zN S then none else _))
      rw [if_pos rfl]
      rfl
  have k2 := kk _ locs la hW' hq hl1
  have e : zst G (zr (some (zN S)) :: st) = Value.ref H.size :: zst G st := by
    show Value.ref (zad G (zN S)) :: _ = _
    rw [zad_lt hK.2, hW.1]; rfl
  rw [e] at k2
  exact k2
theorem z_objInit (C : zC p s m args meth c G cc nL own) {i idx : Nat} (hlk : Cond.methodLink own idx Lib.objectInit ∈ zGW) (hR : 1 ≤ R.frames ∧ 64 ≤ R.locals) (hst : (st.map zcat).sum ≤ 8) (d : decode cc pc = .ok (.invokespecial idx, 3))
    (kk : zJ p l e R s m args below meth c G f nL cells slots Q S (pc + 3) ls st) : zJ p l e R s m args below meth c G f nL cells slots Q S pc ls (zr (some i) :: st) := by
  intro H locs la hW hq hl
  obtain ⟨hx, hb, hml, hown, hts, hlk', hKK⟩ := C
  refine W.objInit (g := F0 m pc la (zst G (zr (some i) :: st))) (rest := zst G st) (a := zad G i) hx hb hown (hts _ hlk) (hts _ (zGW_in 149 (by decide +kernel) (by decide +kernel))) (hts _ (zGW_in 150 (by decide +kernel) (by decide +kernel))) rfl (by rw [hml]; exact hl.1) rfl d hR.1 ?_ (kk H locs la hW hq hl)
  show 0 + _ + 12 ≤ _
  unfold zst
  rw [List.map_map, show ((fun v : Value => v.category) ∘ zmv G) = zcat from funext (zmv_cat G)]
  omega
theorem z_weak (k : zJ p l e R s m args below meth c G false nL cells slots Q S pc ls st) : zJ p l e R s m args below meth c G true nL cells slots Q S pc ls st := fun H locs la hW hq hl => k H locs la ⟨hW.1, hW.2.1, hW.2.2.1, hW.2.2.2.1, fun h => by cases h⟩ hq hl
theorem z_strong (hS : zSR S) (k : zJ p l e R s m args below meth c G true nL cells slots Q S pc ls st) : zJ p l e R s m args below meth c G false nL cells slots Q S pc ls st := fun H locs la hW hq hl => k H locs la ⟨hW.1, hW.2.1, hW.2.2.1, hW.2.2.2.1, fun _ => hS⟩ hq hl
theorem z_widen (k n : Nat) (h1 : cells ≤ k) (h2 : slots ≤ n) (kk : zJ p l e R s m args below meth c G f nL k n Q S pc ls st) : zJ p l e R s m args below meth c G f nL cells slots Q S pc ls st := fun H locs la hW hq hl => W.widen h1 h2 (kk H locs la hW hq hl)
end ZI
theorem inst_0 : Cond.instantiable (zNm 0) (zFN 0) ∈ zGW := zGW_in 144 (by decide +kernel) (by decide +kernel)
theorem ini_0 : Cond.initialized (zNm 0) ∈ zGW := zGW_in 124 (by decide +kernel) (by decide +kernel)
theorem inst_1 : Cond.instantiable (zNm 1) (zFN 1) ∈ zGW := zGW_in 342 (by decide +kernel) (by decide +kernel)
theorem ini_1 : Cond.initialized (zNm 1) ∈ zGW := zGW_in 130 (by decide +kernel) (by decide +kernel)
theorem inst_2 : Cond.instantiable (zNm 2) (zFN 2) ∈ zGW := zGW_in 229 (by decide +kernel) (by decide +kernel)
theorem ini_2 : Cond.initialized (zNm 2) ∈ zGW := zGW_in 126 (by decide +kernel) (by decide +kernel)
theorem inst_3 : Cond.instantiable (zNm 3) (zFN 3) ∈ zGW := zGW_in 402 (by decide +kernel) (by decide +kernel)
theorem ini_3 : Cond.initialized (zNm 3) ∈ zGW := zGW_in 133 (by decide +kernel) (by decide +kernel)
theorem inst_4 : Cond.instantiable (zNm 4) (zFN 4) ∈ zGW := zGW_in 356 (by decide +kernel) (by decide +kernel)
theorem ini_4 : Cond.initialized (zNm 4) ∈ zGW := zGW_in 131 (by decide +kernel) (by decide +kernel)
theorem inst_5 : Cond.instantiable (zNm 5) (zFN 5) ∈ zGW := zGW_in 152 (by decide +kernel) (by decide +kernel)
theorem ini_5 : Cond.initialized (zNm 5) ∈ zGW := zGW_in 125 (by decide +kernel) (by decide +kernel)
theorem inst_6 : Cond.instantiable (zNm 6) (zFN 6) ∈ zGW := zGW_in 289 (by decide +kernel) (by decide +kernel)
theorem ini_6 : Cond.initialized (zNm 6) ∈ zGW := zGW_in 128 (by decide +kernel) (by decide +kernel)
theorem inst_7 : Cond.instantiable (zNm 7) (zFN 7) ∈ zGW := zGW_in 380 (by decide +kernel) (by decide +kernel)
theorem ini_7 : Cond.initialized (zNm 7) ∈ zGW := zGW_in 132 (by decide +kernel) (by decide +kernel)
theorem inst_8 : Cond.instantiable (zNm 8) (zFN 8) ∈ zGW := zGW_in 415 (by decide +kernel) (by decide +kernel)
theorem ini_8 : Cond.initialized (zNm 8) ∈ zGW := zGW_in 134 (by decide +kernel) (by decide +kernel)
theorem inst_9 : Cond.instantiable (zNm 9) (zFN 9) ∈ zGW := zGW_in 259 (by decide +kernel) (by decide +kernel)
theorem ini_9 : Cond.initialized (zNm 9) ∈ zGW := zGW_in 127 (by decide +kernel) (by decide +kernel)
theorem inst_10 : Cond.instantiable (zNm 10) (zFN 10) ∈ zGW := zGW_in 295 (by decide +kernel) (by decide +kernel)
theorem ini_10 : Cond.initialized (zNm 10) ∈ zGW := zGW_in 129 (by decide +kernel) (by decide +kernel)
theorem inst_11 : Cond.instantiable (zNm 11) (zFN 11) ∈ zGW := zGW_in 1274 (by decide +kernel) (by decide +kernel)
theorem ini_11 : Cond.initialized (zNm 11) ∈ zGW := zGW_in 135 (by decide +kernel) (by decide +kernel)
theorem cl_0_9 : Cond.classLink (zNm 0) 9 (zNm 5) ∈ zGW := zGW_in 151 (by decide +kernel) (by decide +kernel)
theorem cl_5_53 : Cond.classLink (zNm 5) 53 (zNm 10) ∈ zGW := zGW_in 157 (by decide +kernel) (by decide +kernel)
theorem cl_0_26 : Cond.classLink (zNm 0) 26 (zNm 2) ∈ zGW := zGW_in 228 (by decide +kernel) (by decide +kernel)
theorem cl_0_36 : Cond.classLink (zNm 0) 36 (zNm 9) ∈ zGW := zGW_in 258 (by decide +kernel) (by decide +kernel)
theorem cl_0_43 : Cond.classLink (zNm 0) 43 (zNm 6) ∈ zGW := zGW_in 288 (by decide +kernel) (by decide +kernel)
theorem cl_6_9 : Cond.classLink (zNm 6) 9 (zNm 10) ∈ zGW := zGW_in 294 (by decide +kernel) (by decide +kernel)
theorem cl_0_50 : Cond.classLink (zNm 0) 50 (zNm 1) ∈ zGW := zGW_in 341 (by decide +kernel) (by decide +kernel)
theorem cl_0_57 : Cond.classLink (zNm 0) 57 (zNm 4) ∈ zGW := zGW_in 355 (by decide +kernel) (by decide +kernel)
theorem cl_0_64 : Cond.classLink (zNm 0) 64 (zNm 7) ∈ zGW := zGW_in 379 (by decide +kernel) (by decide +kernel)
theorem cl_0_71 : Cond.classLink (zNm 0) 71 (zNm 3) ∈ zGW := zGW_in 401 (by decide +kernel) (by decide +kernel)
theorem cl_0_78 : Cond.classLink (zNm 0) 78 (zNm 8) ∈ zGW := zGW_in 414 (by decide +kernel) (by decide +kernel)
theorem cl_10_10 : Cond.classLink (zNm 10) 10 (zNm 10) ∈ zGW := zGW_in 864 (by decide +kernel) (by decide +kernel)
def y_Ps_init : MethodName := ⟨zNm 5, "<init>", "()V"⟩
abbrev b_Ps_init : ByteArray := prog_6_method_1_code
theorem d_Ps_init_0 : decode b_Ps_init 0 = .ok (.aload_n 0, 1) := by decide +kernel
theorem d_Ps_init_1 : decode b_Ps_init 1 = .ok (.invokespecial 3, 3) := by decide +kernel
theorem d_Ps_init_4 : decode b_Ps_init 4 = .ok (.aload_n 0, 1) := by decide +kernel
theorem d_Ps_init_5 : decode b_Ps_init 5 = .ok (.iconst 0, 1) := by decide +kernel
theorem d_Ps_init_6 : decode b_Ps_init 6 = .ok (.putfield 9, 3) := by decide +kernel
theorem d_Ps_init_9 : decode b_Ps_init 9 = .ok (.aload_n 0, 1) := by decide +kernel
theorem d_Ps_init_10 : decode b_Ps_init 10 = .ok (.bipush 9, 2) := by decide +kernel
theorem d_Ps_init_12 : decode b_Ps_init 12 = .ok (.newarray .int, 2) := by decide +kernel
theorem d_Ps_init_14 : decode b_Ps_init 14 = .ok (.putfield 15, 3) := by decide +kernel
theorem d_Ps_init_17 : decode b_Ps_init 17 = .ok (.aload_n 0, 1) := by decide +kernel
theorem d_Ps_init_18 : decode b_Ps_init 18 = .ok (.bipush 36, 2) := by decide +kernel
theorem d_Ps_init_20 : decode b_Ps_init 20 = .ok (.newarray .int, 2) := by decide +kernel
theorem d_Ps_init_22 : decode b_Ps_init 22 = .ok (.putfield 19, 3) := by decide +kernel
theorem d_Ps_init_25 : decode b_Ps_init 25 = .ok (.aload_n 0, 1) := by decide +kernel
theorem d_Ps_init_26 : decode b_Ps_init 26 = .ok (.lconst 0, 1) := by decide +kernel
theorem d_Ps_init_27 : decode b_Ps_init 27 = .ok (.putfield 22, 3) := by decide +kernel
theorem d_Ps_init_30 : decode b_Ps_init 30 = .ok (.aload_n 0, 1) := by decide +kernel
theorem d_Ps_init_31 : decode b_Ps_init 31 = .ok (.lconst 0, 1) := by decide +kernel
theorem d_Ps_init_32 : decode b_Ps_init 32 = .ok (.putfield 26, 3) := by decide +kernel
theorem d_Ps_init_35 : decode b_Ps_init 35 = .ok (.aload_n 0, 1) := by decide +kernel
theorem d_Ps_init_36 : decode b_Ps_init 36 = .ok (.iconst 0, 1) := by decide +kernel
theorem d_Ps_init_37 : decode b_Ps_init 37 = .ok (.putfield 29, 3) := by decide +kernel
theorem d_Ps_init_40 : decode b_Ps_init 40 = .ok (.aload_n 0, 1) := by decide +kernel
theorem d_Ps_init_41 : decode b_Ps_init 41 = .ok (.iconst 0, 1) := by decide +kernel
theorem d_Ps_init_42 : decode b_Ps_init 42 = .ok (.putfield 32, 3) := by decide +kernel
theorem d_Ps_init_45 : decode b_Ps_init 45 = .ok (.aload_n 0, 1) := by decide +kernel
theorem d_Ps_init_46 : decode b_Ps_init 46 = .ok (.iconst 1, 1) := by decide +kernel
theorem d_Ps_init_47 : decode b_Ps_init 47 = .ok (.putfield 35, 3) := by decide +kernel
theorem d_Ps_init_50 : decode b_Ps_init 50 = .ok (.aload_n 0, 1) := by decide +kernel
theorem d_Ps_init_51 : decode b_Ps_init 51 = .ok (.iconst 0, 1) := by decide +kernel
theorem d_Ps_init_52 : decode b_Ps_init 52 = .ok (.putfield 38, 3) := by decide +kernel
theorem d_Ps_init_55 : decode b_Ps_init 55 = .ok (.aload_n 0, 1) := by decide +kernel
theorem d_Ps_init_56 : decode b_Ps_init 56 = .ok (.iconst 0, 1) := by decide +kernel
theorem d_Ps_init_57 : decode b_Ps_init 57 = .ok (.putfield 41, 3) := by decide +kernel
theorem d_Ps_init_60 : decode b_Ps_init 60 = .ok (.aload_n 0, 1) := by decide +kernel
theorem d_Ps_init_61 : decode b_Ps_init 61 = .ok (.bipush 6, 2) := by decide +kernel
theorem d_Ps_init_63 : decode b_Ps_init 63 = .ok (.newarray .int, 2) := by decide +kernel
theorem d_Ps_init_65 : decode b_Ps_init 65 = .ok (.putfield 44, 3) := by decide +kernel
theorem d_Ps_init_68 : decode b_Ps_init 68 = .ok (.aload_n 0, 1) := by decide +kernel
theorem d_Ps_init_69 : decode b_Ps_init 69 = .ok (.bipush 6, 2) := by decide +kernel
theorem d_Ps_init_71 : decode b_Ps_init 71 = .ok (.newarray .int, 2) := by decide +kernel
theorem d_Ps_init_73 : decode b_Ps_init 73 = .ok (.putfield 47, 3) := by decide +kernel
theorem d_Ps_init_76 : decode b_Ps_init 76 = .ok (.aload_n 0, 1) := by decide +kernel
theorem d_Ps_init_77 : decode b_Ps_init 77 = .ok (.iconst 0, 1) := by decide +kernel
theorem d_Ps_init_78 : decode b_Ps_init 78 = .ok (.putfield 50, 3) := by decide +kernel
theorem d_Ps_init_81 : decode b_Ps_init 81 = .ok (.aload_n 0, 1) := by decide +kernel
theorem d_Ps_init_82 : decode b_Ps_init 82 = .ok (.bipush 6, 2) := by decide +kernel
theorem d_Ps_init_84 : decode b_Ps_init 84 = .ok (.anewarray 53, 3) := by decide +kernel
theorem d_Ps_init_87 : decode b_Ps_init 87 = .ok (.putfield 55, 3) := by decide +kernel
theorem d_Ps_init_90 : decode b_Ps_init 90 = .ok (.aload_n 0, 1) := by decide +kernel
theorem d_Ps_init_91 : decode b_Ps_init 91 = .ok (.iconst (-1), 1) := by decide +kernel
theorem d_Ps_init_92 : decode b_Ps_init 92 = .ok (.putfield 59, 3) := by decide +kernel
theorem d_Ps_init_95 : decode b_Ps_init 95 = .ok (.aload_n 0, 1) := by decide +kernel
theorem d_Ps_init_96 : decode b_Ps_init 96 = .ok (.iconst 0, 1) := by decide +kernel
theorem d_Ps_init_97 : decode b_Ps_init 97 = .ok (.putfield 62, 3) := by decide +kernel
theorem d_Ps_init_100 : decode b_Ps_init 100 = .ok (.return_, 1) := by decide +kernel
theorem mf_Ps_init : zMF y_Ps_init b_Ps_init 1 none 0 := ⟨zGW_in 155 (by decide +kernel) (by decide +kernel), zGW_in 125 (by decide +kernel) (by decide +kernel), by decide +kernel⟩
theorem in_Ps_init : Cond.instanceMethod y_Ps_init ∈ zGW := zGW_in 154 (by decide +kernel) (by decide +kernel)
def y_Jo_init : MethodName := ⟨zNm 2, "<init>", "()V"⟩
abbrev b_Jo_init : ByteArray := prog_3_method_1_code
theorem d_Jo_init_0 : decode b_Jo_init 0 = .ok (.aload_n 0, 1) := by decide +kernel
theorem d_Jo_init_1 : decode b_Jo_init 1 = .ok (.invokespecial 5, 3) := by decide +kernel
theorem d_Jo_init_4 : decode b_Jo_init 4 = .ok (.aload_n 0, 1) := by decide +kernel
theorem d_Jo_init_5 : decode b_Jo_init 5 = .ok (.iconst 0, 1) := by decide +kernel
theorem d_Jo_init_6 : decode b_Jo_init 6 = .ok (.putfield 11, 3) := by decide +kernel
theorem d_Jo_init_9 : decode b_Jo_init 9 = .ok (.aload_n 0, 1) := by decide +kernel
theorem d_Jo_init_10 : decode b_Jo_init 10 = .ok (.iconst 0, 1) := by decide +kernel
theorem d_Jo_init_11 : decode b_Jo_init 11 = .ok (.putfield 15, 3) := by decide +kernel
theorem d_Jo_init_14 : decode b_Jo_init 14 = .ok (.aload_n 0, 1) := by decide +kernel
theorem d_Jo_init_15 : decode b_Jo_init 15 = .ok (.bipush 16, 2) := by decide +kernel
theorem d_Jo_init_17 : decode b_Jo_init 17 = .ok (.newarray .int, 2) := by decide +kernel
theorem d_Jo_init_19 : decode b_Jo_init 19 = .ok (.putfield 18, 3) := by decide +kernel
theorem d_Jo_init_22 : decode b_Jo_init 22 = .ok (.aload_n 0, 1) := by decide +kernel
theorem d_Jo_init_23 : decode b_Jo_init 23 = .ok (.bipush 16, 2) := by decide +kernel
theorem d_Jo_init_25 : decode b_Jo_init 25 = .ok (.newarray .int, 2) := by decide +kernel
theorem d_Jo_init_27 : decode b_Jo_init 27 = .ok (.putfield 22, 3) := by decide +kernel
theorem d_Jo_init_30 : decode b_Jo_init 30 = .ok (.aload_n 0, 1) := by decide +kernel
theorem d_Jo_init_31 : decode b_Jo_init 31 = .ok (.bipush 16, 2) := by decide +kernel
theorem d_Jo_init_33 : decode b_Jo_init 33 = .ok (.newarray .int, 2) := by decide +kernel
theorem d_Jo_init_35 : decode b_Jo_init 35 = .ok (.putfield 25, 3) := by decide +kernel
theorem d_Jo_init_38 : decode b_Jo_init 38 = .ok (.aload_n 0, 1) := by decide +kernel
theorem d_Jo_init_39 : decode b_Jo_init 39 = .ok (.bipush 16, 2) := by decide +kernel
theorem d_Jo_init_41 : decode b_Jo_init 41 = .ok (.newarray .long, 2) := by decide +kernel
theorem d_Jo_init_43 : decode b_Jo_init 43 = .ok (.putfield 28, 3) := by decide +kernel
theorem d_Jo_init_46 : decode b_Jo_init 46 = .ok (.aload_n 0, 1) := by decide +kernel
theorem d_Jo_init_47 : decode b_Jo_init 47 = .ok (.bipush 16, 2) := by decide +kernel
theorem d_Jo_init_49 : decode b_Jo_init 49 = .ok (.newarray .long, 2) := by decide +kernel
theorem d_Jo_init_51 : decode b_Jo_init 51 = .ok (.putfield 32, 3) := by decide +kernel
theorem d_Jo_init_54 : decode b_Jo_init 54 = .ok (.return_, 1) := by decide +kernel
theorem mf_Jo_init : zMF y_Jo_init b_Jo_init 1 none 0 := ⟨zGW_in 232 (by decide +kernel) (by decide +kernel), zGW_in 126 (by decide +kernel) (by decide +kernel), by decide +kernel⟩
theorem in_Jo_init : Cond.instanceMethod y_Jo_init ∈ zGW := zGW_in 231 (by decide +kernel) (by decide +kernel)
def y_Ta_init : MethodName := ⟨zNm 9, "<init>", "()V"⟩
abbrev b_Ta_init : ByteArray := prog_10_method_1_code
theorem d_Ta_init_0 : decode b_Ta_init 0 = .ok (.aload_n 0, 1) := by decide +kernel
theorem d_Ta_init_1 : decode b_Ta_init 1 = .ok (.invokespecial 3, 3) := by decide +kernel
theorem d_Ta_init_4 : decode b_Ta_init 4 = .ok (.aload_n 0, 1) := by decide +kernel
theorem d_Ta_init_5 : decode b_Ta_init 5 = .ok (.sipush 400, 3) := by decide +kernel
theorem d_Ta_init_8 : decode b_Ta_init 8 = .ok (.newarray .byte, 2) := by decide +kernel
theorem d_Ta_init_10 : decode b_Ta_init 10 = .ok (.putfield 9, 3) := by decide +kernel
theorem d_Ta_init_13 : decode b_Ta_init 13 = .ok (.aload_n 0, 1) := by decide +kernel
theorem d_Ta_init_14 : decode b_Ta_init 14 = .ok (.iconst 0, 1) := by decide +kernel
theorem d_Ta_init_15 : decode b_Ta_init 15 = .ok (.putfield 15, 3) := by decide +kernel
theorem d_Ta_init_18 : decode b_Ta_init 18 = .ok (.aload_n 0, 1) := by decide +kernel
theorem d_Ta_init_19 : decode b_Ta_init 19 = .ok (.iconst 0, 1) := by decide +kernel
theorem d_Ta_init_20 : decode b_Ta_init 20 = .ok (.putfield 19, 3) := by decide +kernel
theorem d_Ta_init_23 : decode b_Ta_init 23 = .ok (.aload_n 0, 1) := by decide +kernel
theorem d_Ta_init_24 : decode b_Ta_init 24 = .ok (.iconst 0, 1) := by decide +kernel
theorem d_Ta_init_25 : decode b_Ta_init 25 = .ok (.putfield 22, 3) := by decide +kernel
theorem d_Ta_init_28 : decode b_Ta_init 28 = .ok (.aload_n 0, 1) := by decide +kernel
theorem d_Ta_init_29 : decode b_Ta_init 29 = .ok (.iconst 0, 1) := by decide +kernel
theorem d_Ta_init_30 : decode b_Ta_init 30 = .ok (.putfield 25, 3) := by decide +kernel
theorem d_Ta_init_33 : decode b_Ta_init 33 = .ok (.aload_n 0, 1) := by decide +kernel
theorem d_Ta_init_34 : decode b_Ta_init 34 = .ok (.iconst 0, 1) := by decide +kernel
theorem d_Ta_init_35 : decode b_Ta_init 35 = .ok (.putfield 28, 3) := by decide +kernel
theorem d_Ta_init_38 : decode b_Ta_init 38 = .ok (.return_, 1) := by decide +kernel
theorem mf_Ta_init : zMF y_Ta_init b_Ta_init 1 none 0 := ⟨zGW_in 262 (by decide +kernel) (by decide +kernel), zGW_in 127 (by decide +kernel) (by decide +kernel), by decide +kernel⟩
theorem in_Ta_init : Cond.instanceMethod y_Ta_init ∈ zGW := zGW_in 261 (by decide +kernel) (by decide +kernel)
def y_Tx_init : MethodName := ⟨zNm 10, "<init>", "(I)V"⟩
abbrev b_Tx_init : ByteArray := prog_11_method_1_code
theorem d_Tx_init_0 : decode b_Tx_init 0 = .ok (.aload_n 0, 1) := by decide +kernel
theorem d_Tx_init_1 : decode b_Tx_init 1 = .ok (.invokespecial 3, 3) := by decide +kernel
theorem d_Tx_init_4 : decode b_Tx_init 4 = .ok (.aload_n 0, 1) := by decide +kernel
theorem d_Tx_init_5 : decode b_Tx_init 5 = .ok (.iconst 0, 1) := by decide +kernel
theorem d_Tx_init_6 : decode b_Tx_init 6 = .ok (.putfield 9, 3) := by decide +kernel
theorem d_Tx_init_9 : decode b_Tx_init 9 = .ok (.aload_n 0, 1) := by decide +kernel
theorem d_Tx_init_10 : decode b_Tx_init 10 = .ok (.iconst 0, 1) := by decide +kernel
theorem d_Tx_init_11 : decode b_Tx_init 11 = .ok (.putfield 15, 3) := by decide +kernel
theorem d_Tx_init_14 : decode b_Tx_init 14 = .ok (.aload_n 0, 1) := by decide +kernel
theorem d_Tx_init_15 : decode b_Tx_init 15 = .ok (.iconst 0, 1) := by decide +kernel
theorem d_Tx_init_16 : decode b_Tx_init 16 = .ok (.putfield 18, 3) := by decide +kernel
theorem d_Tx_init_19 : decode b_Tx_init 19 = .ok (.aload_n 0, 1) := by decide +kernel
theorem d_Tx_init_20 : decode b_Tx_init 20 = .ok (.bipush 12, 2) := by decide +kernel
theorem d_Tx_init_22 : decode b_Tx_init 22 = .ok (.newarray .int, 2) := by decide +kernel
theorem d_Tx_init_24 : decode b_Tx_init 24 = .ok (.putfield 22, 3) := by decide +kernel
theorem d_Tx_init_27 : decode b_Tx_init 27 = .ok (.aload_n 0, 1) := by decide +kernel
theorem d_Tx_init_28 : decode b_Tx_init 28 = .ok (.bipush 12, 2) := by decide +kernel
theorem d_Tx_init_30 : decode b_Tx_init 30 = .ok (.newarray .int, 2) := by decide +kernel
theorem d_Tx_init_32 : decode b_Tx_init 32 = .ok (.putfield 26, 3) := by decide +kernel
theorem d_Tx_init_35 : decode b_Tx_init 35 = .ok (.aload_n 0, 1) := by decide +kernel
theorem d_Tx_init_36 : decode b_Tx_init 36 = .ok (.bipush 36, 2) := by decide +kernel
theorem d_Tx_init_38 : decode b_Tx_init 38 = .ok (.newarray .int, 2) := by decide +kernel
theorem d_Tx_init_40 : decode b_Tx_init 40 = .ok (.putfield 29, 3) := by decide +kernel
theorem d_Tx_init_43 : decode b_Tx_init 43 = .ok (.aload_n 0, 1) := by decide +kernel
theorem d_Tx_init_44 : decode b_Tx_init 44 = .ok (.iload_n 1, 1) := by decide +kernel
theorem d_Tx_init_45 : decode b_Tx_init 45 = .ok (.ifCond .le 7, 3) := by decide +kernel
theorem d_Tx_init_48 : decode b_Tx_init 48 = .ok (.iload_n 1, 1) := by decide +kernel
theorem d_Tx_init_49 : decode b_Tx_init 49 = .ok (.goto 4, 3) := by decide +kernel
theorem d_Tx_init_52 : decode b_Tx_init 52 = .ok (.iconst 0, 1) := by decide +kernel
theorem d_Tx_init_53 : decode b_Tx_init 53 = .ok (.newarray .int, 2) := by decide +kernel
theorem d_Tx_init_55 : decode b_Tx_init 55 = .ok (.putfield 32, 3) := by decide +kernel
theorem d_Tx_init_58 : decode b_Tx_init 58 = .ok (.return_, 1) := by decide +kernel
theorem mf_Tx_init : zMF y_Tx_init b_Tx_init 2 none 1 := ⟨zGW_in 298 (by decide +kernel) (by decide +kernel), zGW_in 129 (by decide +kernel) (by decide +kernel), by decide +kernel⟩
theorem in_Tx_init : Cond.instanceMethod y_Tx_init ∈ zGW := zGW_in 297 (by decide +kernel) (by decide +kernel)
def y_Re_init : MethodName := ⟨zNm 6, "<init>", "()V"⟩
abbrev b_Re_init : ByteArray := prog_7_method_1_code
theorem d_Re_init_0 : decode b_Re_init 0 = .ok (.aload_n 0, 1) := by decide +kernel
theorem d_Re_init_1 : decode b_Re_init 1 = .ok (.invokespecial 3, 3) := by decide +kernel
theorem d_Re_init_4 : decode b_Re_init 4 = .ok (.aload_n 0, 1) := by decide +kernel
theorem d_Re_init_5 : decode b_Re_init 5 = .ok (.new 9, 3) := by decide +kernel
theorem d_Re_init_8 : decode b_Re_init 8 = .ok (.dup, 1) := by decide +kernel
theorem d_Re_init_9 : decode b_Re_init 9 = .ok (.sipush 436, 3) := by decide +kernel
theorem d_Re_init_12 : decode b_Re_init 12 = .ok (.invokespecial 11, 3) := by decide +kernel
theorem d_Re_init_15 : decode b_Re_init 15 = .ok (.putfield 14, 3) := by decide +kernel
theorem d_Re_init_18 : decode b_Re_init 18 = .ok (.aload_n 0, 1) := by decide +kernel
theorem d_Re_init_19 : decode b_Re_init 19 = .ok (.iconst 0, 1) := by decide +kernel
theorem d_Re_init_20 : decode b_Re_init 20 = .ok (.putfield 20, 3) := by decide +kernel
theorem d_Re_init_23 : decode b_Re_init 23 = .ok (.aload_n 0, 1) := by decide +kernel
theorem d_Re_init_24 : decode b_Re_init 24 = .ok (.iconst 0, 1) := by decide +kernel
theorem d_Re_init_25 : decode b_Re_init 25 = .ok (.putfield 24, 3) := by decide +kernel
theorem d_Re_init_28 : decode b_Re_init 28 = .ok (.aload_n 0, 1) := by decide +kernel
theorem d_Re_init_29 : decode b_Re_init 29 = .ok (.iconst 0, 1) := by decide +kernel
theorem d_Re_init_30 : decode b_Re_init 30 = .ok (.putfield 28, 3) := by decide +kernel
theorem d_Re_init_33 : decode b_Re_init 33 = .ok (.return_, 1) := by decide +kernel
theorem mf_Re_init : zMF y_Re_init b_Re_init 1 none 0 := ⟨zGW_in 292 (by decide +kernel) (by decide +kernel), zGW_in 128 (by decide +kernel) (by decide +kernel), by decide +kernel⟩
theorem in_Re_init : Cond.instanceMethod y_Re_init ∈ zGW := zGW_in 291 (by decide +kernel) (by decide +kernel)
def y_As_init : MethodName := ⟨zNm 1, "<init>", "()V"⟩
abbrev b_As_init : ByteArray := prog_2_method_1_code
theorem d_As_init_0 : decode b_As_init 0 = .ok (.aload_n 0, 1) := by decide +kernel
theorem d_As_init_1 : decode b_As_init 1 = .ok (.invokespecial 3, 3) := by decide +kernel
theorem d_As_init_4 : decode b_As_init 4 = .ok (.aload_n 0, 1) := by decide +kernel
theorem d_As_init_5 : decode b_As_init 5 = .ok (.bipush 50, 2) := by decide +kernel
theorem d_As_init_7 : decode b_As_init 7 = .ok (.newarray .long, 2) := by decide +kernel
theorem d_As_init_9 : decode b_As_init 9 = .ok (.putfield 9, 3) := by decide +kernel
theorem d_As_init_12 : decode b_As_init 12 = .ok (.aload_n 0, 1) := by decide +kernel
theorem d_As_init_13 : decode b_As_init 13 = .ok (.bipush 7, 2) := by decide +kernel
theorem d_As_init_15 : decode b_As_init 15 = .ok (.newarray .int, 2) := by decide +kernel
theorem d_As_init_17 : decode b_As_init 17 = .ok (.putfield 15, 3) := by decide +kernel
theorem d_As_init_20 : decode b_As_init 20 = .ok (.return_, 1) := by decide +kernel
theorem mf_As_init : zMF y_As_init b_As_init 1 none 0 := ⟨zGW_in 345 (by decide +kernel) (by decide +kernel), zGW_in 130 (by decide +kernel) (by decide +kernel), by decide +kernel⟩
theorem in_As_init : Cond.instanceMethod y_As_init ∈ zGW := zGW_in 344 (by decide +kernel) (by decide +kernel)
def y_Pa_init : MethodName := ⟨zNm 4, "<init>", "()V"⟩
abbrev b_Pa_init : ByteArray := prog_5_method_1_code
theorem d_Pa_init_0 : decode b_Pa_init 0 = .ok (.aload_n 0, 1) := by decide +kernel
theorem d_Pa_init_1 : decode b_Pa_init 1 = .ok (.invokespecial 3, 3) := by decide +kernel
theorem d_Pa_init_4 : decode b_Pa_init 4 = .ok (.aload_n 0, 1) := by decide +kernel
theorem d_Pa_init_5 : decode b_Pa_init 5 = .ok (.iconst 0, 1) := by decide +kernel
theorem d_Pa_init_6 : decode b_Pa_init 6 = .ok (.putfield 9, 3) := by decide +kernel
theorem d_Pa_init_9 : decode b_Pa_init 9 = .ok (.aload_n 0, 1) := by decide +kernel
theorem d_Pa_init_10 : decode b_Pa_init 10 = .ok (.bipush 81, 2) := by decide +kernel
theorem d_Pa_init_12 : decode b_Pa_init 12 = .ok (.newarray .int, 2) := by decide +kernel
theorem d_Pa_init_14 : decode b_Pa_init 14 = .ok (.putfield 15, 3) := by decide +kernel
theorem d_Pa_init_17 : decode b_Pa_init 17 = .ok (.aload_n 0, 1) := by decide +kernel
theorem d_Pa_init_18 : decode b_Pa_init 18 = .ok (.bipush 81, 2) := by decide +kernel
theorem d_Pa_init_20 : decode b_Pa_init 20 = .ok (.newarray .int, 2) := by decide +kernel
theorem d_Pa_init_22 : decode b_Pa_init 22 = .ok (.putfield 19, 3) := by decide +kernel
theorem d_Pa_init_25 : decode b_Pa_init 25 = .ok (.aload_n 0, 1) := by decide +kernel
theorem d_Pa_init_26 : decode b_Pa_init 26 = .ok (.bipush 81, 2) := by decide +kernel
theorem d_Pa_init_28 : decode b_Pa_init 28 = .ok (.newarray .int, 2) := by decide +kernel
theorem d_Pa_init_30 : decode b_Pa_init 30 = .ok (.putfield 22, 3) := by decide +kernel
theorem d_Pa_init_33 : decode b_Pa_init 33 = .ok (.aload_n 0, 1) := by decide +kernel
theorem d_Pa_init_34 : decode b_Pa_init 34 = .ok (.bipush 81, 2) := by decide +kernel
theorem d_Pa_init_36 : decode b_Pa_init 36 = .ok (.newarray .int, 2) := by decide +kernel
theorem d_Pa_init_38 : decode b_Pa_init 38 = .ok (.putfield 25, 3) := by decide +kernel
theorem d_Pa_init_41 : decode b_Pa_init 41 = .ok (.return_, 1) := by decide +kernel
theorem mf_Pa_init : zMF y_Pa_init b_Pa_init 1 none 0 := ⟨zGW_in 359 (by decide +kernel) (by decide +kernel), zGW_in 131 (by decide +kernel) (by decide +kernel), by decide +kernel⟩
theorem in_Pa_init : Cond.instanceMethod y_Pa_init ∈ zGW := zGW_in 358 (by decide +kernel) (by decide +kernel)
def y_Ro_init : MethodName := ⟨zNm 7, "<init>", "()V"⟩
abbrev b_Ro_init : ByteArray := prog_8_method_1_code
theorem d_Ro_init_0 : decode b_Ro_init 0 = .ok (.aload_n 0, 1) := by decide +kernel
theorem d_Ro_init_1 : decode b_Ro_init 1 = .ok (.invokespecial 3, 3) := by decide +kernel
theorem d_Ro_init_4 : decode b_Ro_init 4 = .ok (.aload_n 0, 1) := by decide +kernel
theorem d_Ro_init_5 : decode b_Ro_init 5 = .ok (.bipush 8, 2) := by decide +kernel
theorem d_Ro_init_7 : decode b_Ro_init 7 = .ok (.newarray .int, 2) := by decide +kernel
theorem d_Ro_init_9 : decode b_Ro_init 9 = .ok (.putfield 11, 3) := by decide +kernel
theorem d_Ro_init_12 : decode b_Ro_init 12 = .ok (.aload_n 0, 1) := by decide +kernel
theorem d_Ro_init_13 : decode b_Ro_init 13 = .ok (.iconst 0, 1) := by decide +kernel
theorem d_Ro_init_14 : decode b_Ro_init 14 = .ok (.putfield 15, 3) := by decide +kernel
theorem d_Ro_init_17 : decode b_Ro_init 17 = .ok (.aload_n 0, 1) := by decide +kernel
theorem d_Ro_init_18 : decode b_Ro_init 18 = .ok (.bipush 8, 2) := by decide +kernel
theorem d_Ro_init_20 : decode b_Ro_init 20 = .ok (.newarray .int, 2) := by decide +kernel
theorem d_Ro_init_22 : decode b_Ro_init 22 = .ok (.putfield 19, 3) := by decide +kernel
theorem d_Ro_init_25 : decode b_Ro_init 25 = .ok (.aload_n 0, 1) := by decide +kernel
theorem d_Ro_init_26 : decode b_Ro_init 26 = .ok (.bipush 64, 2) := by decide +kernel
theorem d_Ro_init_28 : decode b_Ro_init 28 = .ok (.newarray .int, 2) := by decide +kernel
theorem d_Ro_init_30 : decode b_Ro_init 30 = .ok (.putfield 22, 3) := by decide +kernel
theorem d_Ro_init_33 : decode b_Ro_init 33 = .ok (.aload_n 0, 1) := by decide +kernel
theorem d_Ro_init_34 : decode b_Ro_init 34 = .ok (.sipush 2048, 3) := by decide +kernel
theorem d_Ro_init_37 : decode b_Ro_init 37 = .ok (.newarray .int, 2) := by decide +kernel
theorem d_Ro_init_39 : decode b_Ro_init 39 = .ok (.putfield 25, 3) := by decide +kernel
theorem d_Ro_init_42 : decode b_Ro_init 42 = .ok (.return_, 1) := by decide +kernel
theorem mf_Ro_init : zMF y_Ro_init b_Ro_init 1 none 0 := ⟨zGW_in 383 (by decide +kernel) (by decide +kernel), zGW_in 132 (by decide +kernel) (by decide +kernel), by decide +kernel⟩
theorem in_Ro_init : Cond.instanceMethod y_Ro_init ∈ zGW := zGW_in 382 (by decide +kernel) (by decide +kernel)
def y_Ou_init : MethodName := ⟨zNm 3, "<init>", "()V"⟩
abbrev b_Ou_init : ByteArray := prog_4_method_1_code
theorem d_Ou_init_0 : decode b_Ou_init 0 = .ok (.aload_n 0, 1) := by decide +kernel
theorem d_Ou_init_1 : decode b_Ou_init 1 = .ok (.invokespecial 3, 3) := by decide +kernel
theorem d_Ou_init_4 : decode b_Ou_init 4 = .ok (.aload_n 0, 1) := by decide +kernel
theorem d_Ou_init_5 : decode b_Ou_init 5 = .ok (.bipush 90, 2) := by decide +kernel
theorem d_Ou_init_7 : decode b_Ou_init 7 = .ok (.newarray .int, 2) := by decide +kernel
theorem d_Ou_init_9 : decode b_Ou_init 9 = .ok (.putfield 9, 3) := by decide +kernel
theorem d_Ou_init_12 : decode b_Ou_init 12 = .ok (.aload_n 0, 1) := by decide +kernel
theorem d_Ou_init_13 : decode b_Ou_init 13 = .ok (.iconst 0, 1) := by decide +kernel
theorem d_Ou_init_14 : decode b_Ou_init 14 = .ok (.putfield 15, 3) := by decide +kernel
theorem d_Ou_init_17 : decode b_Ou_init 17 = .ok (.return_, 1) := by decide +kernel
theorem mf_Ou_init : zMF y_Ou_init b_Ou_init 1 none 0 := ⟨zGW_in 405 (by decide +kernel) (by decide +kernel), zGW_in 133 (by decide +kernel) (by decide +kernel), by decide +kernel⟩
theorem in_Ou_init : Cond.instanceMethod y_Ou_init ∈ zGW := zGW_in 404 (by decide +kernel) (by decide +kernel)
def y_Ru_init : MethodName := ⟨zNm 8, "<init>", "()V"⟩
abbrev b_Ru_init : ByteArray := prog_9_method_1_code
theorem d_Ru_init_0 : decode b_Ru_init 0 = .ok (.aload_n 0, 1) := by decide +kernel
theorem d_Ru_init_1 : decode b_Ru_init 1 = .ok (.invokespecial 3, 3) := by decide +kernel
theorem d_Ru_init_4 : decode b_Ru_init 4 = .ok (.aload_n 0, 1) := by decide +kernel
theorem d_Ru_init_5 : decode b_Ru_init 5 = .ok (.bipush 9, 2) := by decide +kernel
theorem d_Ru_init_7 : decode b_Ru_init 7 = .ok (.newarray .int, 2) := by decide +kernel
theorem d_Ru_init_9 : decode b_Ru_init 9 = .ok (.putfield 9, 3) := by decide +kernel
theorem d_Ru_init_12 : decode b_Ru_init 12 = .ok (.aload_n 0, 1) := by decide +kernel
theorem d_Ru_init_13 : decode b_Ru_init 13 = .ok (.iconst 0, 1) := by decide +kernel
theorem d_Ru_init_14 : decode b_Ru_init 14 = .ok (.putfield 15, 3) := by decide +kernel
theorem d_Ru_init_17 : decode b_Ru_init 17 = .ok (.return_, 1) := by decide +kernel
theorem mf_Ru_init : zMF y_Ru_init b_Ru_init 1 none 0 := ⟨zGW_in 418 (by decide +kernel) (by decide +kernel), zGW_in 134 (by decide +kernel) (by decide +kernel), by decide +kernel⟩
theorem in_Ru_init : Cond.instanceMethod y_Ru_init ∈ zGW := zGW_in 417 (by decide +kernel) (by decide +kernel)
def y_E_init : MethodName := ⟨zNm 0, "<init>", "()V"⟩
abbrev b_E_init : ByteArray := prog_1_method_1_code
theorem d_E_init_0 : decode b_E_init 0 = .ok (.aload_n 0, 1) := by decide +kernel
theorem d_E_init_1 : decode b_E_init 1 = .ok (.invokespecial 3, 3) := by decide +kernel
theorem d_E_init_4 : decode b_E_init 4 = .ok (.aload_n 0, 1) := by decide +kernel
theorem d_E_init_5 : decode b_E_init 5 = .ok (.new 9, 3) := by decide +kernel
theorem d_E_init_8 : decode b_E_init 8 = .ok (.dup, 1) := by decide +kernel
theorem d_E_init_9 : decode b_E_init 9 = .ok (.invokespecial 11, 3) := by decide +kernel
theorem d_E_init_12 : decode b_E_init 12 = .ok (.putfield 12, 3) := by decide +kernel
theorem d_E_init_15 : decode b_E_init 15 = .ok (.aload_n 0, 1) := by decide +kernel
theorem d_E_init_16 : decode b_E_init 16 = .ok (.new 9, 3) := by decide +kernel
theorem d_E_init_19 : decode b_E_init 19 = .ok (.dup, 1) := by decide +kernel
theorem d_E_init_20 : decode b_E_init 20 = .ok (.invokespecial 11, 3) := by decide +kernel
theorem d_E_init_23 : decode b_E_init 23 = .ok (.putfield 16, 3) := by decide +kernel
theorem d_E_init_26 : decode b_E_init 26 = .ok (.aload_n 0, 1) := by decide +kernel
theorem d_E_init_27 : decode b_E_init 27 = .ok (.new 9, 3) := by decide +kernel
theorem d_E_init_30 : decode b_E_init 30 = .ok (.dup, 1) := by decide +kernel
theorem d_E_init_31 : decode b_E_init 31 = .ok (.invokespecial 11, 3) := by decide +kernel
theorem d_E_init_34 : decode b_E_init 34 = .ok (.putfield 19, 3) := by decide +kernel
theorem d_E_init_37 : decode b_E_init 37 = .ok (.aload_n 0, 1) := by decide +kernel
theorem d_E_init_38 : decode b_E_init 38 = .ok (.iconst 2, 1) := by decide +kernel
theorem d_E_init_39 : decode b_E_init 39 = .ok (.anewarray 9, 3) := by decide +kernel
theorem d_E_init_42 : decode b_E_init 42 = .ok (.dup, 1) := by decide +kernel
theorem d_E_init_43 : decode b_E_init 43 = .ok (.iconst 0, 1) := by decide +kernel
theorem d_E_init_44 : decode b_E_init 44 = .ok (.new 9, 3) := by decide +kernel
theorem d_E_init_47 : decode b_E_init 47 = .ok (.dup, 1) := by decide +kernel
theorem d_E_init_48 : decode b_E_init 48 = .ok (.invokespecial 11, 3) := by decide +kernel
theorem d_E_init_51 : decode b_E_init 51 = .ok (.aastore, 1) := by decide +kernel
theorem d_E_init_52 : decode b_E_init 52 = .ok (.dup, 1) := by decide +kernel
theorem d_E_init_53 : decode b_E_init 53 = .ok (.iconst 1, 1) := by decide +kernel
theorem d_E_init_54 : decode b_E_init 54 = .ok (.new 9, 3) := by decide +kernel
theorem d_E_init_57 : decode b_E_init 57 = .ok (.dup, 1) := by decide +kernel
theorem d_E_init_58 : decode b_E_init 58 = .ok (.invokespecial 11, 3) := by decide +kernel
theorem d_E_init_61 : decode b_E_init 61 = .ok (.aastore, 1) := by decide +kernel
theorem d_E_init_62 : decode b_E_init 62 = .ok (.putfield 22, 3) := by decide +kernel
theorem d_E_init_65 : decode b_E_init 65 = .ok (.aload_n 0, 1) := by decide +kernel
theorem d_E_init_66 : decode b_E_init 66 = .ok (.new 26, 3) := by decide +kernel
theorem d_E_init_69 : decode b_E_init 69 = .ok (.dup, 1) := by decide +kernel
theorem d_E_init_70 : decode b_E_init 70 = .ok (.invokespecial 28, 3) := by decide +kernel
theorem d_E_init_73 : decode b_E_init 73 = .ok (.putfield 29, 3) := by decide +kernel
theorem d_E_init_76 : decode b_E_init 76 = .ok (.aload_n 0, 1) := by decide +kernel
theorem d_E_init_77 : decode b_E_init 77 = .ok (.new 26, 3) := by decide +kernel
theorem d_E_init_80 : decode b_E_init 80 = .ok (.dup, 1) := by decide +kernel
theorem d_E_init_81 : decode b_E_init 81 = .ok (.invokespecial 28, 3) := by decide +kernel
theorem d_E_init_84 : decode b_E_init 84 = .ok (.putfield 33, 3) := by decide +kernel
theorem d_E_init_87 : decode b_E_init 87 = .ok (.aload_n 0, 1) := by decide +kernel
theorem d_E_init_88 : decode b_E_init 88 = .ok (.new 36, 3) := by decide +kernel
theorem d_E_init_91 : decode b_E_init 91 = .ok (.dup, 1) := by decide +kernel
theorem d_E_init_92 : decode b_E_init 92 = .ok (.invokespecial 38, 3) := by decide +kernel
theorem d_E_init_95 : decode b_E_init 95 = .ok (.putfield 39, 3) := by decide +kernel
theorem d_E_init_98 : decode b_E_init 98 = .ok (.aload_n 0, 1) := by decide +kernel
theorem d_E_init_99 : decode b_E_init 99 = .ok (.new 43, 3) := by decide +kernel
theorem d_E_init_102 : decode b_E_init 102 = .ok (.dup, 1) := by decide +kernel
theorem d_E_init_103 : decode b_E_init 103 = .ok (.invokespecial 45, 3) := by decide +kernel
theorem d_E_init_106 : decode b_E_init 106 = .ok (.putfield 46, 3) := by decide +kernel
theorem d_E_init_109 : decode b_E_init 109 = .ok (.aload_n 0, 1) := by decide +kernel
theorem d_E_init_110 : decode b_E_init 110 = .ok (.new 50, 3) := by decide +kernel
theorem d_E_init_113 : decode b_E_init 113 = .ok (.dup, 1) := by decide +kernel
theorem d_E_init_114 : decode b_E_init 114 = .ok (.invokespecial 52, 3) := by decide +kernel
theorem d_E_init_117 : decode b_E_init 117 = .ok (.putfield 53, 3) := by decide +kernel
theorem d_E_init_120 : decode b_E_init 120 = .ok (.aload_n 0, 1) := by decide +kernel
theorem d_E_init_121 : decode b_E_init 121 = .ok (.new 57, 3) := by decide +kernel
theorem d_E_init_124 : decode b_E_init 124 = .ok (.dup, 1) := by decide +kernel
theorem d_E_init_125 : decode b_E_init 125 = .ok (.invokespecial 59, 3) := by decide +kernel
theorem d_E_init_128 : decode b_E_init 128 = .ok (.putfield 60, 3) := by decide +kernel
theorem d_E_init_131 : decode b_E_init 131 = .ok (.aload_n 0, 1) := by decide +kernel
theorem d_E_init_132 : decode b_E_init 132 = .ok (.new 64, 3) := by decide +kernel
theorem d_E_init_135 : decode b_E_init 135 = .ok (.dup, 1) := by decide +kernel
theorem d_E_init_136 : decode b_E_init 136 = .ok (.invokespecial 66, 3) := by decide +kernel
theorem d_E_init_139 : decode b_E_init 139 = .ok (.putfield 67, 3) := by decide +kernel
theorem d_E_init_142 : decode b_E_init 142 = .ok (.aload_n 0, 1) := by decide +kernel
theorem d_E_init_143 : decode b_E_init 143 = .ok (.new 71, 3) := by decide +kernel
theorem d_E_init_146 : decode b_E_init 146 = .ok (.dup, 1) := by decide +kernel
theorem d_E_init_147 : decode b_E_init 147 = .ok (.invokespecial 73, 3) := by decide +kernel
theorem d_E_init_150 : decode b_E_init 150 = .ok (.putfield 74, 3) := by decide +kernel
theorem d_E_init_153 : decode b_E_init 153 = .ok (.aload_n 0, 1) := by decide +kernel
theorem d_E_init_154 : decode b_E_init 154 = .ok (.new 78, 3) := by decide +kernel
theorem d_E_init_157 : decode b_E_init 157 = .ok (.dup, 1) := by decide +kernel
theorem d_E_init_158 : decode b_E_init 158 = .ok (.invokespecial 80, 3) := by decide +kernel
theorem d_E_init_161 : decode b_E_init 161 = .ok (.putfield 81, 3) := by decide +kernel
theorem d_E_init_164 : decode b_E_init 164 = .ok (.aload_n 0, 1) := by decide +kernel
theorem d_E_init_165 : decode b_E_init 165 = .ok (.bipush 23, 2) := by decide +kernel
theorem d_E_init_167 : decode b_E_init 167 = .ok (.newarray .int, 2) := by decide +kernel
theorem d_E_init_169 : decode b_E_init 169 = .ok (.putfield 85, 3) := by decide +kernel
theorem d_E_init_172 : decode b_E_init 172 = .ok (.aload_n 0, 1) := by decide +kernel
theorem d_E_init_173 : decode b_E_init 173 = .ok (.bipush 20, 2) := by decide +kernel
theorem d_E_init_175 : decode b_E_init 175 = .ok (.newarray .long, 2) := by decide +kernel
theorem d_E_init_177 : decode b_E_init 177 = .ok (.putfield 89, 3) := by decide +kernel
theorem d_E_init_180 : decode b_E_init 180 = .ok (.aload_n 0, 1) := by decide +kernel
theorem d_E_init_181 : decode b_E_init 181 = .ok (.bipush 6, 2) := by decide +kernel
theorem d_E_init_183 : decode b_E_init 183 = .ok (.newarray .int, 2) := by decide +kernel
theorem d_E_init_185 : decode b_E_init 185 = .ok (.putfield 93, 3) := by decide +kernel
theorem d_E_init_188 : decode b_E_init 188 = .ok (.aload_n 0, 1) := by decide +kernel
theorem d_E_init_189 : decode b_E_init 189 = .ok (.iconst 0, 1) := by decide +kernel
theorem d_E_init_190 : decode b_E_init 190 = .ok (.putfield 96, 3) := by decide +kernel
theorem d_E_init_193 : decode b_E_init 193 = .ok (.aload_n 0, 1) := by decide +kernel
theorem d_E_init_194 : decode b_E_init 194 = .ok (.iconst (-1), 1) := by decide +kernel
theorem d_E_init_195 : decode b_E_init 195 = .ok (.putfield 100, 3) := by decide +kernel
theorem d_E_init_198 : decode b_E_init 198 = .ok (.aload_n 0, 1) := by decide +kernel
theorem d_E_init_199 : decode b_E_init 199 = .ok (.iconst (-1), 1) := by decide +kernel
theorem d_E_init_200 : decode b_E_init 200 = .ok (.putfield 103, 3) := by decide +kernel
theorem d_E_init_203 : decode b_E_init 203 = .ok (.aload_n 0, 1) := by decide +kernel
theorem d_E_init_204 : decode b_E_init 204 = .ok (.iconst 0, 1) := by decide +kernel
theorem d_E_init_205 : decode b_E_init 205 = .ok (.putfield 106, 3) := by decide +kernel
theorem d_E_init_208 : decode b_E_init 208 = .ok (.return_, 1) := by decide +kernel
theorem mf_E_init : zMF y_E_init b_E_init 1 none 0 := ⟨zGW_in 147 (by decide +kernel) (by decide +kernel), zGW_in 124 (by decide +kernel) (by decide +kernel), by decide +kernel⟩
theorem in_E_init : Cond.instanceMethod y_E_init ∈ zGW := zGW_in 146 (by decide +kernel) (by decide +kernel)
theorem lk_5_3 : Cond.methodLink (zNm 5) 3 Lib.objectInit ∈ zGW := zGW_in 156 (by decide +kernel) (by decide +kernel)
theorem lk_2_5 : Cond.methodLink (zNm 2) 5 Lib.objectInit ∈ zGW := zGW_in 233 (by decide +kernel) (by decide +kernel)
theorem lk_9_3 : Cond.methodLink (zNm 9) 3 Lib.objectInit ∈ zGW := zGW_in 263 (by decide +kernel) (by decide +kernel)
theorem lk_10_3 : Cond.methodLink (zNm 10) 3 Lib.objectInit ∈ zGW := zGW_in 299 (by decide +kernel) (by decide +kernel)
theorem lk_6_3 : Cond.methodLink (zNm 6) 3 Lib.objectInit ∈ zGW := zGW_in 293 (by decide +kernel) (by decide +kernel)
theorem lk_6_11 : Cond.methodLink (zNm 6) 11 y_Tx_init ∈ zGW := zGW_in 296 (by decide +kernel) (by decide +kernel)
theorem lk_1_3 : Cond.methodLink (zNm 1) 3 Lib.objectInit ∈ zGW := zGW_in 346 (by decide +kernel) (by decide +kernel)
theorem lk_4_3 : Cond.methodLink (zNm 4) 3 Lib.objectInit ∈ zGW := zGW_in 360 (by decide +kernel) (by decide +kernel)
theorem lk_7_3 : Cond.methodLink (zNm 7) 3 Lib.objectInit ∈ zGW := zGW_in 384 (by decide +kernel) (by decide +kernel)
theorem lk_3_3 : Cond.methodLink (zNm 3) 3 Lib.objectInit ∈ zGW := zGW_in 406 (by decide +kernel) (by decide +kernel)
theorem lk_8_3 : Cond.methodLink (zNm 8) 3 Lib.objectInit ∈ zGW := zGW_in 419 (by decide +kernel) (by decide +kernel)
theorem lk_0_3 : Cond.methodLink (zNm 0) 3 Lib.objectInit ∈ zGW := zGW_in 148 (by decide +kernel) (by decide +kernel)
theorem lk_11_18 : Cond.methodLink (zNm 11) 18 Lib.objectInit ∈ zGW := zGW_in 1278 (by decide +kernel) (by decide +kernel)
abbrev rm_Ps_init : Room := { frames := 1, cells := 5, slots := 63, locals := 64 }
def f_Ps_init (a0 : Nat) (S : zSt) : Option zSt := zgd (a0 < zN S) (zgd (zK (zN S) = 50 ∧ zN S < zX) (zgd (a0 < zN S + 1) (zgd (zK (zN S + 1) = 50 ∧ zN S + 1 < zX) (zgd (a0 < zN S + 2) (zgd (a0 < zN S + 2) (zgd (a0 < zN S + 2) (zgd (a0 < zN S + 2) (zgd (a0 < zN S + 2) (zgd (a0 < zN S + 2) (zgd (a0 < zN S + 2) (zgd (a0 < zN S + 2) (zgd (zK (zN S + 2) = 50 ∧ zN S + 2 < zX) (zgd (a0 < zN S + 3) (zgd (zK (zN S + 3) = 50 ∧ zN S + 3 < zX) (zgd (a0 < zN S + 4) (zgd (a0 < zN S + 4) (zgd (zK (zN S + 4) = 55 ∧ zN S + 4 < zX) (zgd (a0 < zN S + 5) (zgd (a0 < zN S + 5) (zgd (a0 < zN S + 5) (some (zwI (zwI (zwR (znew (zwI (zwR (znew (zwR (znew (zwI (zwI (zwI (zwI (zwI (zwL (zwL (zwR (znew (zwR (znew (zwI S a0 0 (0 : Int32)) 9) a0 1 (some (zN S))) 36) a0 2 (some (zN S + 1))) a0 3 (0 : Int64)) a0 4 (0 : Int64)) a0 5 (0 : Int32)) a0 6 (0 : Int32)) a0 7 (1 : Int32)) a0 8 (0 : Int32)) a0 9 (0 : Int32)) 6) a0 10 (some (zN S + 2))) 6) a0 11 (some (zN S + 3))) a0 12 (0 : Int32)) 6) a0 13 (some (zN S + 4))) a0 14 (-1 : Int32)) a0 15 (0 : Int32)))))))))))))))))))))))
set_option maxRecDepth 100000 in
set_option maxHeartbeats 16000000 in
theorem m_Ps_init (l : Launch) {a0 : Nat} {S S1 : zSt} (h0 : zK a0 = 5) (h : f_Ps_init a0 S = some S1) : zPM l y_Ps_init b_Ps_init 1 none rm_Ps_init false false [zr (some a0)] S none S1 := by
  refine zPM_of (by decide) (Nat.le_of_ble_eq_true rfl) (fun p e s m args below meth c G C hret hname => ?_)
  unfold f_Ps_init at h
  refine (?_ : zJ p l e rm_Ps_init s m args below meth c G false 1 0 0 (zQm below G args s rm_Ps_init false none S1) S 0 [(0, zr (some a0))] [])
  refine z_aload_n C 0 rfl d_Ps_init_0 rfl ?_
  refine z_objInit C lk_5_3 ⟨by decide, by decide⟩ (Nat.le_of_ble_eq_true rfl) d_Ps_init_1 ?_
  refine z_aload_n C 0 rfl d_Ps_init_4 rfl ?_
  refine z_iconst C (0 : Int32) (by decide) d_Ps_init_5 ?_
  obtain ⟨g1, h⟩ := zgd_some h
  refine z_putI C 5 (by decide) 0 (by decide) rfl (Or.inl rfl) (Or.inr g1) h0 zfl_5_9 (Or.inr ⟨hname, rfl⟩) d_Ps_init_6 ?_
  refine z_aload_n C 0 rfl d_Ps_init_9 rfl ?_
  refine z_bipush C (9 : Int32) (by decide) d_Ps_init_10 ?_
  obtain ⟨g2, h⟩ := zgd_some h
  refine z_newI C 9 (by decide) (by decide) (by decide) g2 (by decide) (by decide) d_Ps_init_12 ?_
  obtain ⟨g3, h⟩ := zgd_some h
  refine z_putR C 5 (by decide) 1 (by decide) rfl g3 h0 zfl_5_15 (Or.inr ⟨hname, rfl⟩) d_Ps_init_14 ?_
  refine z_aload_n C 0 rfl d_Ps_init_17 rfl ?_
  refine z_bipush C (36 : Int32) (by decide) d_Ps_init_18 ?_
  obtain ⟨g4, h⟩ := zgd_some h
  refine z_newI C 36 (by decide) (by decide) (by decide) g4 (by decide) (by decide) d_Ps_init_20 ?_
  obtain ⟨g5, h⟩ := zgd_some h
  refine z_putR C 5 (by decide) 2 (by decide) rfl g5 h0 zfl_5_19 (Or.inr ⟨hname, rfl⟩) d_Ps_init_22 ?_
  refine z_aload_n C 0 rfl d_Ps_init_25 rfl ?_
  refine z_lconst C (0 : Int64) (by decide) d_Ps_init_26 ?_
  obtain ⟨g6, h⟩ := zgd_some h
  refine z_putL C 5 (by decide) 3 (by decide) rfl (Or.inr g6) h0 zfl_5_22 (Or.inr ⟨hname, rfl⟩) d_Ps_init_27 ?_
  refine z_aload_n C 0 rfl d_Ps_init_30 rfl ?_
  refine z_lconst C (0 : Int64) (by decide) d_Ps_init_31 ?_
  obtain ⟨g7, h⟩ := zgd_some h
  refine z_putL C 5 (by decide) 4 (by decide) rfl (Or.inr g7) h0 zfl_5_26 (Or.inr ⟨hname, rfl⟩) d_Ps_init_32 ?_
  refine z_aload_n C 0 rfl d_Ps_init_35 rfl ?_
  refine z_iconst C (0 : Int32) (by decide) d_Ps_init_36 ?_
  obtain ⟨g8, h⟩ := zgd_some h
  refine z_putI C 5 (by decide) 5 (by decide) rfl (Or.inl rfl) (Or.inr g8) h0 zfl_5_29 (Or.inr ⟨hname, rfl⟩) d_Ps_init_37 ?_
  refine z_aload_n C 0 rfl d_Ps_init_40 rfl ?_
  refine z_iconst C (0 : Int32) (by decide) d_Ps_init_41 ?_
  obtain ⟨g9, h⟩ := zgd_some h
  refine z_putI C 5 (by decide) 6 (by decide) rfl (Or.inl rfl) (Or.inr g9) h0 zfl_5_32 (Or.inr ⟨hname, rfl⟩) d_Ps_init_42 ?_
  refine z_aload_n C 0 rfl d_Ps_init_45 rfl ?_
  refine z_iconst C (1 : Int32) (by decide) d_Ps_init_46 ?_
  obtain ⟨g10, h⟩ := zgd_some h
  refine z_putI C 5 (by decide) 7 (by decide) rfl (Or.inl rfl) (Or.inr g10) h0 zfl_5_35 (Or.inr ⟨hname, rfl⟩) d_Ps_init_47 ?_
  refine z_aload_n C 0 rfl d_Ps_init_50 rfl ?_
  refine z_iconst C (0 : Int32) (by decide) d_Ps_init_51 ?_
  obtain ⟨g11, h⟩ := zgd_some h
  refine z_putI C 5 (by decide) 8 (by decide) rfl (Or.inl rfl) (Or.inr g11) h0 zfl_5_38 (Or.inr ⟨hname, rfl⟩) d_Ps_init_52 ?_
  refine z_aload_n C 0 rfl d_Ps_init_55 rfl ?_
  refine z_iconst C (0 : Int32) (by decide) d_Ps_init_56 ?_
  obtain ⟨g12, h⟩ := zgd_some h
  refine z_putI C 5 (by decide) 9 (by decide) rfl (Or.inl rfl) (Or.inr g12) h0 zfl_5_41 (Or.inr ⟨hname, rfl⟩) d_Ps_init_57 ?_
  refine z_aload_n C 0 rfl d_Ps_init_60 rfl ?_
  refine z_bipush C (6 : Int32) (by decide) d_Ps_init_61 ?_
  obtain ⟨g13, h⟩ := zgd_some h
  refine z_newI C 6 (by decide) (by decide) (by decide) g13 (by decide) (by decide) d_Ps_init_63 ?_
  obtain ⟨g14, h⟩ := zgd_some h
  refine z_putR C 5 (by decide) 10 (by decide) rfl g14 h0 zfl_5_44 (Or.inr ⟨hname, rfl⟩) d_Ps_init_65 ?_
  refine z_aload_n C 0 rfl d_Ps_init_68 rfl ?_
  refine z_bipush C (6 : Int32) (by decide) d_Ps_init_69 ?_
  obtain ⟨g15, h⟩ := zgd_some h
  refine z_newI C 6 (by decide) (by decide) (by decide) g15 (by decide) (by decide) d_Ps_init_71 ?_
  obtain ⟨g16, h⟩ := zgd_some h
  refine z_putR C 5 (by decide) 11 (by decide) rfl g16 h0 zfl_5_47 (Or.inr ⟨hname, rfl⟩) d_Ps_init_73 ?_
  refine z_aload_n C 0 rfl d_Ps_init_76 rfl ?_
  refine z_iconst C (0 : Int32) (by decide) d_Ps_init_77 ?_
  obtain ⟨g17, h⟩ := zgd_some h
  refine z_putI C 5 (by decide) 12 (by decide) rfl (Or.inl rfl) (Or.inr g17) h0 zfl_5_50 (Or.inr ⟨hname, rfl⟩) d_Ps_init_78 ?_
  refine z_aload_n C 0 rfl d_Ps_init_81 rfl ?_
  refine z_bipush C (6 : Int32) (by decide) d_Ps_init_82 ?_
  obtain ⟨g18, h⟩ := zgd_some h
  refine z_newT C 6 (by decide) (by decide) (by decide) g18 cl_5_53 (by decide) (by decide) d_Ps_init_84 ?_
  obtain ⟨g19, h⟩ := zgd_some h
  refine z_putR C 5 (by decide) 13 (by decide) rfl g19 h0 zfl_5_55 (Or.inr ⟨hname, rfl⟩) d_Ps_init_87 ?_
  refine z_aload_n C 0 rfl d_Ps_init_90 rfl ?_
  refine z_iconst C (-1 : Int32) (by decide) d_Ps_init_91 ?_
  obtain ⟨g20, h⟩ := zgd_some h
  refine z_putI C 5 (by decide) 14 (by decide) rfl (Or.inl rfl) (Or.inr g20) h0 zfl_5_59 (Or.inr ⟨hname, rfl⟩) d_Ps_init_92 ?_
  refine z_aload_n C 0 rfl d_Ps_init_95 rfl ?_
  refine z_iconst C (0 : Int32) (by decide) d_Ps_init_96 ?_
  obtain ⟨g21, h⟩ := zgd_some h
  refine z_putI C 5 (by decide) 15 (by decide) rfl (Or.inr (Or.inl rfl)) (Or.inr g21) h0 zfl_5_62 (Or.inr ⟨hname, rfl⟩) d_Ps_init_97 ?_
  cases h
  exact z_vret C hret ⟨by decide, by decide⟩ d_Ps_init_100
abbrev rm_Jo_init : Room := { frames := 1, cells := 5, slots := 80, locals := 64 }
def f_Jo_init (a0 : Nat) (S : zSt) : Option zSt := zgd (a0 < zN S) (zgd (a0 < zN S) (zgd (zK (zN S) = 50 ∧ zN S < zX) (zgd (a0 < zN S + 1) (zgd (zK (zN S + 1) = 50 ∧ zN S + 1 < zX) (zgd (a0 < zN S + 2) (zgd (zK (zN S + 2) = 50 ∧ zN S + 2 < zX) (zgd (a0 < zN S + 3) (zgd (zK (zN S + 3) = 51 ∧ zN S + 3 < zX) (zgd (a0 < zN S + 4) (zgd (zK (zN S + 4) = 51 ∧ zN S + 4 < zX) (zgd (a0 < zN S + 5) (some (zwR (znew (zwR (znew (zwR (znew (zwR (znew (zwR (znew (zwI (zwI S a0 0 (0 : Int32)) a0 1 (0 : Int32)) 16) a0 2 (some (zN S))) 16) a0 3 (some (zN S + 1))) 16) a0 4 (some (zN S + 2))) 16) a0 5 (some (zN S + 3))) 16) a0 6 (some (zN S + 4)))))))))))))))
set_option maxRecDepth 100000 in
set_option maxHeartbeats 16000000 in
theorem m_Jo_init (l : Launch) {a0 : Nat} {S S1 : zSt} (h0 : zK a0 = 2) (h : f_Jo_init a0 S = some S1) : zPM l y_Jo_init b_Jo_init 1 none rm_Jo_init false false [zr (some a0)] S none S1 := by
  refine zPM_of (by decide) (Nat.le_of_ble_eq_true rfl) (fun p e s m args below meth c G C hret hname => ?_)
  unfold f_Jo_init at h
  refine (?_ : zJ p l e rm_Jo_init s m args below meth c G false 1 0 0 (zQm below G args s rm_Jo_init false none S1) S 0 [(0, zr (some a0))] [])
  refine z_aload_n C 0 rfl d_Jo_init_0 rfl ?_
  refine z_objInit C lk_2_5 ⟨by decide, by decide⟩ (Nat.le_of_ble_eq_true rfl) d_Jo_init_1 ?_
  refine z_aload_n C 0 rfl d_Jo_init_4 rfl ?_
  refine z_iconst C (0 : Int32) (by decide) d_Jo_init_5 ?_
  obtain ⟨g1, h⟩ := zgd_some h
  refine z_putI C 2 (by decide) 0 (by decide) rfl (Or.inl rfl) (Or.inr g1) h0 zfl_2_11 (Or.inr ⟨hname, rfl⟩) d_Jo_init_6 ?_
  refine z_aload_n C 0 rfl d_Jo_init_9 rfl ?_
  refine z_iconst C (0 : Int32) (by decide) d_Jo_init_10 ?_
  obtain ⟨g2, h⟩ := zgd_some h
  refine z_putI C 2 (by decide) 1 (by decide) rfl (Or.inl rfl) (Or.inr g2) h0 zfl_2_15 (Or.inr ⟨hname, rfl⟩) d_Jo_init_11 ?_
  refine z_aload_n C 0 rfl d_Jo_init_14 rfl ?_
  refine z_bipush C (16 : Int32) (by decide) d_Jo_init_15 ?_
  obtain ⟨g3, h⟩ := zgd_some h
  refine z_newI C 16 (by decide) (by decide) (by decide) g3 (by decide) (by decide) d_Jo_init_17 ?_
  obtain ⟨g4, h⟩ := zgd_some h
  refine z_putR C 2 (by decide) 2 (by decide) rfl g4 h0 zfl_2_18 (Or.inr ⟨hname, rfl⟩) d_Jo_init_19 ?_
  refine z_aload_n C 0 rfl d_Jo_init_22 rfl ?_
  refine z_bipush C (16 : Int32) (by decide) d_Jo_init_23 ?_
  obtain ⟨g5, h⟩ := zgd_some h
  refine z_newI C 16 (by decide) (by decide) (by decide) g5 (by decide) (by decide) d_Jo_init_25 ?_
  obtain ⟨g6, h⟩ := zgd_some h
  refine z_putR C 2 (by decide) 3 (by decide) rfl g6 h0 zfl_2_22 (Or.inr ⟨hname, rfl⟩) d_Jo_init_27 ?_
  refine z_aload_n C 0 rfl d_Jo_init_30 rfl ?_
  refine z_bipush C (16 : Int32) (by decide) d_Jo_init_31 ?_
  obtain ⟨g7, h⟩ := zgd_some h
  refine z_newI C 16 (by decide) (by decide) (by decide) g7 (by decide) (by decide) d_Jo_init_33 ?_
  obtain ⟨g8, h⟩ := zgd_some h
  refine z_putR C 2 (by decide) 4 (by decide) rfl g8 h0 zfl_2_25 (Or.inr ⟨hname, rfl⟩) d_Jo_init_35 ?_
  refine z_aload_n C 0 rfl d_Jo_init_38 rfl ?_
  refine z_bipush C (16 : Int32) (by decide) d_Jo_init_39 ?_
  obtain ⟨g9, h⟩ := zgd_some h
  refine z_newL C 16 (by decide) (by decide) (by decide) g9 (by decide) (by decide) d_Jo_init_41 ?_
  obtain ⟨g10, h⟩ := zgd_some h
  refine z_putR C 2 (by decide) 5 (by decide) rfl g10 h0 zfl_2_28 (Or.inr ⟨hname, rfl⟩) d_Jo_init_43 ?_
  refine z_aload_n C 0 rfl d_Jo_init_46 rfl ?_
  refine z_bipush C (16 : Int32) (by decide) d_Jo_init_47 ?_
  obtain ⟨g11, h⟩ := zgd_some h
  refine z_newL C 16 (by decide) (by decide) (by decide) g11 (by decide) (by decide) d_Jo_init_49 ?_
  obtain ⟨g12, h⟩ := zgd_some h
  refine z_putR C 2 (by decide) 6 (by decide) rfl g12 h0 zfl_2_32 (Or.inr ⟨hname, rfl⟩) d_Jo_init_51 ?_
  cases h
  exact z_vret C hret ⟨by decide, by decide⟩ d_Jo_init_54
abbrev rm_Ta_init : Room := { frames := 1, cells := 1, slots := 400, locals := 64 }
def f_Ta_init (a0 : Nat) (S : zSt) : Option zSt := zgd (zK (zN S) = 52 ∧ zN S < zX) (zgd (a0 < zN S + 1) (zgd (a0 < zN S + 1) (zgd (a0 < zN S + 1) (zgd (a0 < zN S + 1) (zgd (a0 < zN S + 1) (zgd (a0 < zN S + 1) (some (zwI (zwI (zwI (zwI (zwI (zwR (znew S 400) a0 0 (some (zN S))) a0 1 (0 : Int32)) a0 2 (0 : Int32)) a0 3 (0 : Int32)) a0 4 (0 : Int32)) a0 5 (0 : Int32)))))))))
set_option maxRecDepth 100000 in
set_option maxHeartbeats 16000000 in
theorem m_Ta_init (l : Launch) {a0 : Nat} {S S1 : zSt} (h0 : zK a0 = 9) (h : f_Ta_init a0 S = some S1) : zPM l y_Ta_init b_Ta_init 1 none rm_Ta_init false false [zr (some a0)] S none S1 := by
  refine zPM_of (by decide) (Nat.le_of_ble_eq_true rfl) (fun p e s m args below meth c G C hret hname => ?_)
  unfold f_Ta_init at h
  refine (?_ : zJ p l e rm_Ta_init s m args below meth c G false 1 0 0 (zQm below G args s rm_Ta_init false none S1) S 0 [(0, zr (some a0))] [])
  refine z_aload_n C 0 rfl d_Ta_init_0 rfl ?_
  refine z_objInit C lk_9_3 ⟨by decide, by decide⟩ (Nat.le_of_ble_eq_true rfl) d_Ta_init_1 ?_
  refine z_aload_n C 0 rfl d_Ta_init_4 rfl ?_
  refine z_sipush C (400 : Int32) (by decide) d_Ta_init_5 ?_
  obtain ⟨g1, h⟩ := zgd_some h
  refine z_newB C 400 (by decide) (by decide) (by decide) g1 (by decide) (by decide) d_Ta_init_8 ?_
  obtain ⟨g2, h⟩ := zgd_some h
  refine z_putR C 9 (by decide) 0 (by decide) rfl g2 h0 zfl_9_9 (Or.inr ⟨hname, rfl⟩) d_Ta_init_10 ?_
  refine z_aload_n C 0 rfl d_Ta_init_13 rfl ?_
  refine z_iconst C (0 : Int32) (by decide) d_Ta_init_14 ?_
  obtain ⟨g3, h⟩ := zgd_some h
  refine z_putI C 9 (by decide) 1 (by decide) rfl (Or.inl rfl) (Or.inr g3) h0 zfl_9_15 (Or.inr ⟨hname, rfl⟩) d_Ta_init_15 ?_
  refine z_aload_n C 0 rfl d_Ta_init_18 rfl ?_
  refine z_iconst C (0 : Int32) (by decide) d_Ta_init_19 ?_
  obtain ⟨g4, h⟩ := zgd_some h
  refine z_putI C 9 (by decide) 2 (by decide) rfl (Or.inl rfl) (Or.inr g4) h0 zfl_9_19 (Or.inr ⟨hname, rfl⟩) d_Ta_init_20 ?_
  refine z_aload_n C 0 rfl d_Ta_init_23 rfl ?_
  refine z_iconst C (0 : Int32) (by decide) d_Ta_init_24 ?_
  obtain ⟨g5, h⟩ := zgd_some h
  refine z_putI C 9 (by decide) 3 (by decide) rfl (Or.inl rfl) (Or.inr g5) h0 zfl_9_22 (Or.inr ⟨hname, rfl⟩) d_Ta_init_25 ?_
  refine z_aload_n C 0 rfl d_Ta_init_28 rfl ?_
  refine z_iconst C (0 : Int32) (by decide) d_Ta_init_29 ?_
  obtain ⟨g6, h⟩ := zgd_some h
  refine z_putI C 9 (by decide) 4 (by decide) rfl (Or.inl rfl) (Or.inr g6) h0 zfl_9_25 (Or.inr ⟨hname, rfl⟩) d_Ta_init_30 ?_
  refine z_aload_n C 0 rfl d_Ta_init_33 rfl ?_
  refine z_iconst C (0 : Int32) (by decide) d_Ta_init_34 ?_
  obtain ⟨g7, h⟩ := zgd_some h
  refine z_putI C 9 (by decide) 5 (by decide) rfl (Or.inl rfl) (Or.inr g7) h0 zfl_9_28 (Or.inr ⟨hname, rfl⟩) d_Ta_init_35 ?_
  cases h
  exact z_vret C hret ⟨by decide, by decide⟩ d_Ta_init_38
abbrev rm_Tx_init : Room := { frames := 1, cells := 4, slots := 496, locals := 64 }
def f_Tx_init (a0 : Nat) (a1 : Int32) (S : zSt) : Option zSt := zgd (a0 < zN S) (zgd (a0 < zN S) (zgd (a0 < zN S) (zgd (zK (zN S) = 50 ∧ zN S < zX) (zgd (a0 < zN S + 1) (zgd (zK (zN S + 1) = 50 ∧ zN S + 1 < zX) (zgd (a0 < zN S + 2) (zgd (zK (zN S + 2) = 50 ∧ zN S + 2 < zX) (zgd (a0 < zN S + 3) (if a1 ≤ 0 then zgd (zK (zN S + 3) = 50 ∧ zN S + 3 < zX) (zgd (a0 < zN S + 4) (some (zwR (znew (zwR (znew (zwR (znew (zwR (znew (zwI (zwI (zwI S a0 1 (0 : Int32)) a0 2 (0 : Int32)) a0 3 (0 : Int32)) 12) a0 4 (some (zN S))) 12) a0 5 (some (zN S + 1))) 36) a0 6 (some (zN S + 2))) 0) a0 0 (some (zN S + 3))))) else zgd (zK (zN S + 3) = 50 ∧ zN S + 3 < zX) (zgd (¬ a1 < 0 ∧ a1.toNatClampNeg ≤ 436) (zgd (a0 < zN S + 4) (some (zwR (znew (zwR (znew (zwR (znew (zwR (znew (zwI (zwI (zwI S a0 1 (0 : Int32)) a0 2 (0 : Int32)) a0 3 (0 : Int32)) 12) a0 4 (some (zN S))) 12) a0 5 (some (zN S + 1))) 36) a0 6 (some (zN S + 2))) a1.toNatClampNeg) a0 0 (some (zN S + 3)))))))))))))))
set_option maxRecDepth 100000 in
set_option maxHeartbeats 16000000 in
theorem m_Tx_init (l : Launch) {a0 : Nat} {a1 : Int32} {S S1 : zSt} (h0 : zK a0 = 10) (h : f_Tx_init a0 a1 S = some S1) : zPM l y_Tx_init b_Tx_init 2 none rm_Tx_init false false [zr (some a0), zi a1] S none S1 := by
  refine zPM_of (by decide) (Nat.le_of_ble_eq_true rfl) (fun p e s m args below meth c G C hret hname => ?_)
  unfold f_Tx_init at h
  refine (?_ : zJ p l e rm_Tx_init s m args below meth c G false 2 0 0 (zQm below G args s rm_Tx_init false none S1) S 0 [(0, zr (some a0)), (1, zi a1)] [])
  refine z_aload_n C 0 rfl d_Tx_init_0 rfl ?_
  refine z_objInit C lk_10_3 ⟨by decide, by decide⟩ (Nat.le_of_ble_eq_true rfl) d_Tx_init_1 ?_
  refine z_aload_n C 0 rfl d_Tx_init_4 rfl ?_
  refine z_iconst C (0 : Int32) (by decide) d_Tx_init_5 ?_
  obtain ⟨g1, h⟩ := zgd_some h
  refine z_putI C 10 (by decide) 1 (by decide) rfl (Or.inl rfl) (Or.inr g1) h0 zfl_10_9 (Or.inr ⟨hname, rfl⟩) d_Tx_init_6 ?_
  refine z_aload_n C 0 rfl d_Tx_init_9 rfl ?_
  refine z_iconst C (0 : Int32) (by decide) d_Tx_init_10 ?_
  obtain ⟨g2, h⟩ := zgd_some h
  refine z_putI C 10 (by decide) 2 (by decide) rfl (Or.inl rfl) (Or.inr g2) h0 zfl_10_15 (Or.inr ⟨hname, rfl⟩) d_Tx_init_11 ?_
  refine z_aload_n C 0 rfl d_Tx_init_14 rfl ?_
  refine z_iconst C (0 : Int32) (by decide) d_Tx_init_15 ?_
  obtain ⟨g3, h⟩ := zgd_some h
  refine z_putI C 10 (by decide) 3 (by decide) rfl (Or.inr (Or.inl rfl)) (Or.inr g3) h0 zfl_10_18 (Or.inr ⟨hname, rfl⟩) d_Tx_init_16 ?_
  refine z_aload_n C 0 rfl d_Tx_init_19 rfl ?_
  refine z_bipush C (12 : Int32) (by decide) d_Tx_init_20 ?_
  obtain ⟨g4, h⟩ := zgd_some h
  refine z_newI C 12 (by decide) (by decide) (by decide) g4 (by decide) (by decide) d_Tx_init_22 ?_
  obtain ⟨g5, h⟩ := zgd_some h
  refine z_putR C 10 (by decide) 4 (by decide) rfl g5 h0 zfl_10_22 (Or.inr ⟨hname, rfl⟩) d_Tx_init_24 ?_
  refine z_aload_n C 0 rfl d_Tx_init_27 rfl ?_
  refine z_bipush C (12 : Int32) (by decide) d_Tx_init_28 ?_
  obtain ⟨g6, h⟩ := zgd_some h
  refine z_newI C 12 (by decide) (by decide) (by decide) g6 (by decide) (by decide) d_Tx_init_30 ?_
  obtain ⟨g7, h⟩ := zgd_some h
  refine z_putR C 10 (by decide) 5 (by decide) rfl g7 h0 zfl_10_26 (Or.inr ⟨hname, rfl⟩) d_Tx_init_32 ?_
  refine z_aload_n C 0 rfl d_Tx_init_35 rfl ?_
  refine z_bipush C (36 : Int32) (by decide) d_Tx_init_36 ?_
  obtain ⟨g8, h⟩ := zgd_some h
  refine z_newI C 36 (by decide) (by decide) (by decide) g8 (by decide) (by decide) d_Tx_init_38 ?_
  obtain ⟨g9, h⟩ := zgd_some h
  refine z_putR C 10 (by decide) 6 (by decide) rfl g9 h0 zfl_10_29 (Or.inr ⟨hname, rfl⟩) d_Tx_init_40 ?_
  refine z_aload_n C 0 rfl d_Tx_init_43 rfl ?_
  refine z_iload_n C 1 rfl d_Tx_init_44 rfl ?_
  rcases zite h with ⟨c10, h⟩ | ⟨c10, h⟩
  · refine z_if_let C 52 c10 d_Tx_init_45 (by decide) ?_
    refine z_iconst C (0 : Int32) (by decide) d_Tx_init_52 ?_
    obtain ⟨g11, h⟩ := zgd_some h
    refine z_newI C 0 (by decide) (by decide) (by decide) g11 (by decide) (by decide) d_Tx_init_53 ?_
    obtain ⟨g12, h⟩ := zgd_some h
    refine z_putR C 10 (by decide) 0 (by decide) rfl g12 h0 zfl_10_32 (Or.inr ⟨hname, rfl⟩) d_Tx_init_55 ?_
    cases h
    exact z_vret C hret ⟨by decide, by decide⟩ d_Tx_init_58
  · refine z_if_lef C 52 c10 d_Tx_init_45 (by decide) ?_
    refine z_iload_n C 1 rfl d_Tx_init_48 rfl ?_
    refine z_goto C 53 d_Tx_init_49 (by decide) ?_
    obtain ⟨g13, h⟩ := zgd_some h
    obtain ⟨g14, h⟩ := zgd_some h
    refine z_newI C a1.toNatClampNeg g14.1 rfl (by have := g14.2; omega) g13 (by decide) (by have := g14.2; show 0 + 12 + 12 + 36 + _ ≤ 496; omega) d_Tx_init_53 ?_
    refine z_widen 4 496 (by decide) (by have := g14.2; omega) ?_
    obtain ⟨g15, h⟩ := zgd_some h
    refine z_putR C 10 (by decide) 0 (by decide) rfl g15 h0 zfl_10_32 (Or.inr ⟨hname, rfl⟩) d_Tx_init_55 ?_
    cases h
    exact z_vret C hret ⟨by decide, by decide⟩ d_Tx_init_58
abbrev rm_Re_init : Room := { frames := 2, cells := 5, slots := 503, locals := 85 }
def f_Re_init (a0 : Nat) (S : zSt) : Option zSt := zgd (zK (zN S) = 10 ∧ zN S < zX) (zgd ((zN S) < zN S + 1 ∧ zK (zN S) = 10) (zb1 (f_Tx_init (zN S) (436 : Int32) (znew S 0)) (fun S3 => zgd (a0 < zN S3) (zgd (a0 < zN S3) (zgd (a0 < zN S3) (zgd (a0 < zN S3) (some (zwI (zwI (zwI (zwR S3 a0 0 (some (zN S))) a0 1 (0 : Int32)) a0 2 (0 : Int32)) a0 3 (0 : Int32)))))))))
set_option maxRecDepth 100000 in
set_option maxHeartbeats 16000000 in
theorem m_Re_init (l : Launch) {a0 : Nat} {S S1 : zSt} (h0 : zK a0 = 6) (h : f_Re_init a0 S = some S1) : zPM l y_Re_init b_Re_init 1 none rm_Re_init false false [zr (some a0)] S none S1 := by
  refine zPM_of (by decide) (Nat.le_of_ble_eq_true rfl) (fun p e s m args below meth c G C hret hname => ?_)
  unfold f_Re_init at h
  refine (?_ : zJ p l e rm_Re_init s m args below meth c G false 1 0 0 (zQm below G args s rm_Re_init false none S1) S 0 [(0, zr (some a0))] [])
  refine z_aload_n C 0 rfl d_Re_init_0 rfl ?_
  refine z_objInit C lk_6_3 ⟨by decide, by decide⟩ (Nat.le_of_ble_eq_true rfl) d_Re_init_1 ?_
  refine z_aload_n C 0 rfl d_Re_init_4 rfl ?_
  obtain ⟨g1, h⟩ := zgd_some h
  refine z_new C 10 (by decide) g1.1 g1.2 cl_6_9 inst_10 ini_10 (by decide) (by decide) d_Re_init_5 ?_
  refine z_dup C rfl d_Re_init_8 ?_
  refine z_sipush C (436 : Int32) (by decide) d_Re_init_9 ?_
  obtain ⟨g2, h⟩ := zgd_some h
  obtain ⟨S3, h4, h⟩ := zb1_some h
  refine z_callI C (m_Tx_init l g2.2 h4) mf_Tx_init (Or.inl lk_6_11) in_Tx_init rfl g2.1 ⟨by decide, by decide, by decide, by decide⟩ rfl _ [zr (some (zN S)), zr (some a0)] rfl (Nat.le_of_ble_eq_true rfl) d_Re_init_12 ?_
  obtain ⟨g5, h⟩ := zgd_some h
  refine z_putR C 6 (by decide) 0 (by decide) rfl g5 h0 zfl_6_14 (Or.inr ⟨hname, rfl⟩) d_Re_init_15 ?_
  refine z_aload_n C 0 rfl d_Re_init_18 rfl ?_
  refine z_iconst C (0 : Int32) (by decide) d_Re_init_19 ?_
  obtain ⟨g6, h⟩ := zgd_some h
  refine z_putI C 6 (by decide) 1 (by decide) rfl (Or.inr (Or.inl rfl)) (Or.inr g6) h0 zfl_6_20 (Or.inr ⟨hname, rfl⟩) d_Re_init_20 ?_
  refine z_aload_n C 0 rfl d_Re_init_23 rfl ?_
  refine z_iconst C (0 : Int32) (by decide) d_Re_init_24 ?_
  obtain ⟨g7, h⟩ := zgd_some h
  refine z_putI C 6 (by decide) 2 (by decide) rfl (Or.inl rfl) (Or.inr g7) h0 zfl_6_24 (Or.inr ⟨hname, rfl⟩) d_Re_init_25 ?_
  refine z_aload_n C 0 rfl d_Re_init_28 rfl ?_
  refine z_iconst C (0 : Int32) (by decide) d_Re_init_29 ?_
  obtain ⟨g8, h⟩ := zgd_some h
  refine z_putI C 6 (by decide) 3 (by decide) rfl (Or.inl rfl) (Or.inr g8) h0 zfl_6_28 (Or.inr ⟨hname, rfl⟩) d_Re_init_30 ?_
  cases h
  exact z_vret C hret ⟨by decide, by decide⟩ d_Re_init_33
abbrev rm_As_init : Room := { frames := 1, cells := 2, slots := 57, locals := 64 }
def f_As_init (a0 : Nat) (S : zSt) : Option zSt := zgd (zK (zN S) = 51 ∧ zN S < zX) (zgd (a0 < zN S + 1) (zgd (zK (zN S + 1) = 50 ∧ zN S + 1 < zX) (zgd (a0 < zN S + 2) (some (zwR (znew (zwR (znew S 50) a0 0 (some (zN S))) 7) a0 1 (some (zN S + 1)))))))
set_option maxRecDepth 100000 in
set_option maxHeartbeats 16000000 in
theorem m_As_init (l : Launch) {a0 : Nat} {S S1 : zSt} (h0 : zK a0 = 1) (h : f_As_init a0 S = some S1) : zPM l y_As_init b_As_init 1 none rm_As_init false false [zr (some a0)] S none S1 := by
  refine zPM_of (by decide) (Nat.le_of_ble_eq_true rfl) (fun p e s m args below meth c G C hret hname => ?_)
  unfold f_As_init at h
  refine (?_ : zJ p l e rm_As_init s m args below meth c G false 1 0 0 (zQm below G args s rm_As_init false none S1) S 0 [(0, zr (some a0))] [])
  refine z_aload_n C 0 rfl d_As_init_0 rfl ?_
  refine z_objInit C lk_1_3 ⟨by decide, by decide⟩ (Nat.le_of_ble_eq_true rfl) d_As_init_1 ?_
  refine z_aload_n C 0 rfl d_As_init_4 rfl ?_
  refine z_bipush C (50 : Int32) (by decide) d_As_init_5 ?_
  obtain ⟨g1, h⟩ := zgd_some h
  refine z_newL C 50 (by decide) (by decide) (by decide) g1 (by decide) (by decide) d_As_init_7 ?_
  obtain ⟨g2, h⟩ := zgd_some h
  refine z_putR C 1 (by decide) 0 (by decide) rfl g2 h0 zfl_1_9 (Or.inr ⟨hname, rfl⟩) d_As_init_9 ?_
  refine z_aload_n C 0 rfl d_As_init_12 rfl ?_
  refine z_bipush C (7 : Int32) (by decide) d_As_init_13 ?_
  obtain ⟨g3, h⟩ := zgd_some h
  refine z_newI C 7 (by decide) (by decide) (by decide) g3 (by decide) (by decide) d_As_init_15 ?_
  obtain ⟨g4, h⟩ := zgd_some h
  refine z_putR C 1 (by decide) 1 (by decide) rfl g4 h0 zfl_1_15 (Or.inr ⟨hname, rfl⟩) d_As_init_17 ?_
  cases h
  exact z_vret C hret ⟨by decide, by decide⟩ d_As_init_20
abbrev rm_Pa_init : Room := { frames := 1, cells := 4, slots := 324, locals := 64 }
def f_Pa_init (a0 : Nat) (S : zSt) : Option zSt := zgd (a0 < zN S) (zgd (zK (zN S) = 50 ∧ zN S < zX) (zgd (a0 < zN S + 1) (zgd (zK (zN S + 1) = 50 ∧ zN S + 1 < zX) (zgd (a0 < zN S + 2) (zgd (zK (zN S + 2) = 50 ∧ zN S + 2 < zX) (zgd (a0 < zN S + 3) (zgd (zK (zN S + 3) = 50 ∧ zN S + 3 < zX) (zgd (a0 < zN S + 4) (some (zwR (znew (zwR (znew (zwR (znew (zwR (znew (zwI S a0 0 (0 : Int32)) 81) a0 1 (some (zN S))) 81) a0 2 (some (zN S + 1))) 81) a0 3 (some (zN S + 2))) 81) a0 4 (some (zN S + 3))))))))))))
set_option maxRecDepth 100000 in
set_option maxHeartbeats 16000000 in
theorem m_Pa_init (l : Launch) {a0 : Nat} {S S1 : zSt} (h0 : zK a0 = 4) (h : f_Pa_init a0 S = some S1) : zPM l y_Pa_init b_Pa_init 1 none rm_Pa_init false false [zr (some a0)] S none S1 := by
  refine zPM_of (by decide) (Nat.le_of_ble_eq_true rfl) (fun p e s m args below meth c G C hret hname => ?_)
  unfold f_Pa_init at h
  refine (?_ : zJ p l e rm_Pa_init s m args below meth c G false 1 0 0 (zQm below G args s rm_Pa_init false none S1) S 0 [(0, zr (some a0))] [])
  refine z_aload_n C 0 rfl d_Pa_init_0 rfl ?_
  refine z_objInit C lk_4_3 ⟨by decide, by decide⟩ (Nat.le_of_ble_eq_true rfl) d_Pa_init_1 ?_
  refine z_aload_n C 0 rfl d_Pa_init_4 rfl ?_
  refine z_iconst C (0 : Int32) (by decide) d_Pa_init_5 ?_
  obtain ⟨g1, h⟩ := zgd_some h
  refine z_putI C 4 (by decide) 0 (by decide) rfl (Or.inl rfl) (Or.inr g1) h0 zfl_4_9 (Or.inr ⟨hname, rfl⟩) d_Pa_init_6 ?_
  refine z_aload_n C 0 rfl d_Pa_init_9 rfl ?_
  refine z_bipush C (81 : Int32) (by decide) d_Pa_init_10 ?_
  obtain ⟨g2, h⟩ := zgd_some h
  refine z_newI C 81 (by decide) (by decide) (by decide) g2 (by decide) (by decide) d_Pa_init_12 ?_
  obtain ⟨g3, h⟩ := zgd_some h
  refine z_putR C 4 (by decide) 1 (by decide) rfl g3 h0 zfl_4_15 (Or.inr ⟨hname, rfl⟩) d_Pa_init_14 ?_
  refine z_aload_n C 0 rfl d_Pa_init_17 rfl ?_
  refine z_bipush C (81 : Int32) (by decide) d_Pa_init_18 ?_
  obtain ⟨g4, h⟩ := zgd_some h
  refine z_newI C 81 (by decide) (by decide) (by decide) g4 (by decide) (by decide) d_Pa_init_20 ?_
  obtain ⟨g5, h⟩ := zgd_some h
  refine z_putR C 4 (by decide) 2 (by decide) rfl g5 h0 zfl_4_19 (Or.inr ⟨hname, rfl⟩) d_Pa_init_22 ?_
  refine z_aload_n C 0 rfl d_Pa_init_25 rfl ?_
  refine z_bipush C (81 : Int32) (by decide) d_Pa_init_26 ?_
  obtain ⟨g6, h⟩ := zgd_some h
  refine z_newI C 81 (by decide) (by decide) (by decide) g6 (by decide) (by decide) d_Pa_init_28 ?_
  obtain ⟨g7, h⟩ := zgd_some h
  refine z_putR C 4 (by decide) 3 (by decide) rfl g7 h0 zfl_4_22 (Or.inr ⟨hname, rfl⟩) d_Pa_init_30 ?_
  refine z_aload_n C 0 rfl d_Pa_init_33 rfl ?_
  refine z_bipush C (81 : Int32) (by decide) d_Pa_init_34 ?_
  obtain ⟨g8, h⟩ := zgd_some h
  refine z_newI C 81 (by decide) (by decide) (by decide) g8 (by decide) (by decide) d_Pa_init_36 ?_
  obtain ⟨g9, h⟩ := zgd_some h
  refine z_putR C 4 (by decide) 4 (by decide) rfl g9 h0 zfl_4_25 (Or.inr ⟨hname, rfl⟩) d_Pa_init_38 ?_
  cases h
  exact z_vret C hret ⟨by decide, by decide⟩ d_Pa_init_41
abbrev rm_Ro_init : Room := { frames := 1, cells := 4, slots := 2128, locals := 64 }
def f_Ro_init (a0 : Nat) (S : zSt) : Option zSt := zgd (zK (zN S) = 50 ∧ zN S < zX) (zgd (a0 < zN S + 1) (zgd (a0 < zN S + 1) (zgd (zK (zN S + 1) = 50 ∧ zN S + 1 < zX) (zgd (a0 < zN S + 2) (zgd (zK (zN S + 2) = 50 ∧ zN S + 2 < zX) (zgd (a0 < zN S + 3) (zgd (zK (zN S + 3) = 50 ∧ zN S + 3 < zX) (zgd (a0 < zN S + 4) (some (zwR (znew (zwR (znew (zwR (znew (zwI (zwR (znew S 8) a0 0 (some (zN S))) a0 1 (0 : Int32)) 8) a0 2 (some (zN S + 1))) 64) a0 3 (some (zN S + 2))) 2048) a0 4 (some (zN S + 3))))))))))))
set_option maxRecDepth 100000 in
set_option maxHeartbeats 16000000 in
theorem m_Ro_init (l : Launch) {a0 : Nat} {S S1 : zSt} (h0 : zK a0 = 7) (h : f_Ro_init a0 S = some S1) : zPM l y_Ro_init b_Ro_init 1 none rm_Ro_init false false [zr (some a0)] S none S1 := by
  refine zPM_of (by decide) (Nat.le_of_ble_eq_true rfl) (fun p e s m args below meth c G C hret hname => ?_)
  unfold f_Ro_init at h
  refine (?_ : zJ p l e rm_Ro_init s m args below meth c G false 1 0 0 (zQm below G args s rm_Ro_init false none S1) S 0 [(0, zr (some a0))] [])
  refine z_aload_n C 0 rfl d_Ro_init_0 rfl ?_
  refine z_objInit C lk_7_3 ⟨by decide, by decide⟩ (Nat.le_of_ble_eq_true rfl) d_Ro_init_1 ?_
  refine z_aload_n C 0 rfl d_Ro_init_4 rfl ?_
  refine z_bipush C (8 : Int32) (by decide) d_Ro_init_5 ?_
  obtain ⟨g1, h⟩ := zgd_some h
  refine z_newI C 8 (by decide) (by decide) (by decide) g1 (by decide) (by decide) d_Ro_init_7 ?_
  obtain ⟨g2, h⟩ := zgd_some h
  refine z_putR C 7 (by decide) 0 (by decide) rfl g2 h0 zfl_7_11 (Or.inr ⟨hname, rfl⟩) d_Ro_init_9 ?_
  refine z_aload_n C 0 rfl d_Ro_init_12 rfl ?_
  refine z_iconst C (0 : Int32) (by decide) d_Ro_init_13 ?_
  obtain ⟨g3, h⟩ := zgd_some h
  refine z_putI C 7 (by decide) 1 (by decide) rfl (Or.inl rfl) (Or.inr g3) h0 zfl_7_15 (Or.inr ⟨hname, rfl⟩) d_Ro_init_14 ?_
  refine z_aload_n C 0 rfl d_Ro_init_17 rfl ?_
  refine z_bipush C (8 : Int32) (by decide) d_Ro_init_18 ?_
  obtain ⟨g4, h⟩ := zgd_some h
  refine z_newI C 8 (by decide) (by decide) (by decide) g4 (by decide) (by decide) d_Ro_init_20 ?_
  obtain ⟨g5, h⟩ := zgd_some h
  refine z_putR C 7 (by decide) 2 (by decide) rfl g5 h0 zfl_7_19 (Or.inr ⟨hname, rfl⟩) d_Ro_init_22 ?_
  refine z_aload_n C 0 rfl d_Ro_init_25 rfl ?_
  refine z_bipush C (64 : Int32) (by decide) d_Ro_init_26 ?_
  obtain ⟨g6, h⟩ := zgd_some h
  refine z_newI C 64 (by decide) (by decide) (by decide) g6 (by decide) (by decide) d_Ro_init_28 ?_
  obtain ⟨g7, h⟩ := zgd_some h
  refine z_putR C 7 (by decide) 3 (by decide) rfl g7 h0 zfl_7_22 (Or.inr ⟨hname, rfl⟩) d_Ro_init_30 ?_
  refine z_aload_n C 0 rfl d_Ro_init_33 rfl ?_
  refine z_sipush C (2048 : Int32) (by decide) d_Ro_init_34 ?_
  obtain ⟨g8, h⟩ := zgd_some h
  refine z_newI C 2048 (by decide) (by decide) (by decide) g8 (by decide) (by decide) d_Ro_init_37 ?_
  obtain ⟨g9, h⟩ := zgd_some h
  refine z_putR C 7 (by decide) 4 (by decide) rfl g9 h0 zfl_7_25 (Or.inr ⟨hname, rfl⟩) d_Ro_init_39 ?_
  cases h
  exact z_vret C hret ⟨by decide, by decide⟩ d_Ro_init_42
abbrev rm_Ou_init : Room := { frames := 1, cells := 1, slots := 90, locals := 64 }
def f_Ou_init (a0 : Nat) (S : zSt) : Option zSt := zgd (zK (zN S) = 50 ∧ zN S < zX) (zgd (a0 < zN S + 1) (zgd (a0 < zN S + 1) (some (zwI (zwR (znew S 90) a0 0 (some (zN S))) a0 1 (0 : Int32)))))
set_option maxRecDepth 100000 in
set_option maxHeartbeats 16000000 in
theorem m_Ou_init (l : Launch) {a0 : Nat} {S S1 : zSt} (h0 : zK a0 = 3) (h : f_Ou_init a0 S = some S1) : zPM l y_Ou_init b_Ou_init 1 none rm_Ou_init false false [zr (some a0)] S none S1 := by
  refine zPM_of (by decide) (Nat.le_of_ble_eq_true rfl) (fun p e s m args below meth c G C hret hname => ?_)
  unfold f_Ou_init at h
  refine (?_ : zJ p l e rm_Ou_init s m args below meth c G false 1 0 0 (zQm below G args s rm_Ou_init false none S1) S 0 [(0, zr (some a0))] [])
  refine z_aload_n C 0 rfl d_Ou_init_0 rfl ?_
  refine z_objInit C lk_3_3 ⟨by decide, by decide⟩ (Nat.le_of_ble_eq_true rfl) d_Ou_init_1 ?_
  refine z_aload_n C 0 rfl d_Ou_init_4 rfl ?_
  refine z_bipush C (90 : Int32) (by decide) d_Ou_init_5 ?_
  obtain ⟨g1, h⟩ := zgd_some h
  refine z_newI C 90 (by decide) (by decide) (by decide) g1 (by decide) (by decide) d_Ou_init_7 ?_
  obtain ⟨g2, h⟩ := zgd_some h
  refine z_putR C 3 (by decide) 0 (by decide) rfl g2 h0 zfl_3_9 (Or.inr ⟨hname, rfl⟩) d_Ou_init_9 ?_
  refine z_aload_n C 0 rfl d_Ou_init_12 rfl ?_
  refine z_iconst C (0 : Int32) (by decide) d_Ou_init_13 ?_
  obtain ⟨g3, h⟩ := zgd_some h
  refine z_putI C 3 (by decide) 1 (by decide) rfl (Or.inl rfl) (Or.inr g3) h0 zfl_3_15 (Or.inr ⟨hname, rfl⟩) d_Ou_init_14 ?_
  cases h
  exact z_vret C hret ⟨by decide, by decide⟩ d_Ou_init_17
abbrev rm_Ru_init : Room := { frames := 1, cells := 1, slots := 9, locals := 64 }
def f_Ru_init (a0 : Nat) (S : zSt) : Option zSt := zgd (zK (zN S) = 50 ∧ zN S < zX) (zgd (a0 < zN S + 1) (zgd (a0 < zN S + 1) (some (zwI (zwR (znew S 9) a0 0 (some (zN S))) a0 1 (0 : Int32)))))
set_option maxRecDepth 100000 in
set_option maxHeartbeats 16000000 in
theorem m_Ru_init (l : Launch) {a0 : Nat} {S S1 : zSt} (h0 : zK a0 = 8) (h : f_Ru_init a0 S = some S1) : zPM l y_Ru_init b_Ru_init 1 none rm_Ru_init false false [zr (some a0)] S none S1 := by
  refine zPM_of (by decide) (Nat.le_of_ble_eq_true rfl) (fun p e s m args below meth c G C hret hname => ?_)
  unfold f_Ru_init at h
  refine (?_ : zJ p l e rm_Ru_init s m args below meth c G false 1 0 0 (zQm below G args s rm_Ru_init false none S1) S 0 [(0, zr (some a0))] [])
  refine z_aload_n C 0 rfl d_Ru_init_0 rfl ?_
  refine z_objInit C lk_8_3 ⟨by decide, by decide⟩ (Nat.le_of_ble_eq_true rfl) d_Ru_init_1 ?_
  refine z_aload_n C 0 rfl d_Ru_init_4 rfl ?_
  refine z_bipush C (9 : Int32) (by decide) d_Ru_init_5 ?_
  obtain ⟨g1, h⟩ := zgd_some h
  refine z_newI C 9 (by decide) (by decide) (by decide) g1 (by decide) (by decide) d_Ru_init_7 ?_
  obtain ⟨g2, h⟩ := zgd_some h
  refine z_putR C 8 (by decide) 0 (by decide) rfl g2 h0 zfl_8_9 (Or.inr ⟨hname, rfl⟩) d_Ru_init_9 ?_
  refine z_aload_n C 0 rfl d_Ru_init_12 rfl ?_
  refine z_iconst C (0 : Int32) (by decide) d_Ru_init_13 ?_
  obtain ⟨g3, h⟩ := zgd_some h
  refine z_putI C 8 (by decide) 1 (by decide) rfl (Or.inl rfl) (Or.inr g3) h0 zfl_8_15 (Or.inr ⟨hname, rfl⟩) d_Ru_init_14 ?_
  cases h
  exact z_vret C hret ⟨by decide, by decide⟩ d_Ru_init_17
abbrev rm_E_init : Room := { frames := 3, cells := 71, slots := 4157, locals := 105 }
def f_E_init (a0 : Nat) (S : zSt) : Option zSt := zgd (zK (zN S) = 5 ∧ zN S < zX) (zgd ((zN S) < zN S + 1 ∧ zK (zN S) = 5) (zb1 (f_Ps_init (zN S) (znew S 0)) (fun S3 => zgd (a0 < zN S3) (zgd (zK (zN S3) = 5 ∧ zN S3 < zX) (zgd ((zN S3) < zN S3 + 1 ∧ zK (zN S3) = 5) (zb1 (f_Ps_init (zN S3) (znew (zwR S3 a0 0 (some (zN S))) 0)) (fun S8 => zgd (a0 < zN S8) (zgd (zK (zN S8) = 5 ∧ zN S8 < zX) (zgd ((zN S8) < zN S8 + 1 ∧ zK (zN S8) = 5) (zb1 (f_Ps_init (zN S8) (znew (zwR S8 a0 1 (some (zN S3))) 0)) (fun S13 => zgd (a0 < zN S13) (zgd (zK (zN S13) = 54 ∧ zN S13 < zX) (zgd (zK (zN S13 + 1) = 5 ∧ zN S13 + 1 < zX) (zgd ((zN S13 + 1) < zN S13 + 2 ∧ zK (zN S13 + 1) = 5) (zb1 (f_Ps_init (zN S13 + 1) (znew (znew (zwR S13 a0 2 (some (zN S8))) 2) 0)) (fun S19 => zgd (((zN S13) < zN S19 ∧ zK (zN S13) = 54) ∧ 0 ≤ (0 : Int32) ∧ (0 : Int32).toNatClampNeg < zA S19 (zN S13)) (zgd (zK (zN S13 + 1) = 5 ∧ (zN S13 + 1) < zN S19) (zgd (zK (zN S19) = 5 ∧ zN S19 < zX) (zgd ((zN S19) < zN S19 + 1 ∧ zK (zN S19) = 5) (zb1 (f_Ps_init (zN S19) (znew (zwR S19 (zN S13) (0 : Int32).toNatClampNeg (some (zN S13 + 1))) 0)) (fun S25 => zgd (((zN S13) < zN S25 ∧ zK (zN S13) = 54) ∧ 0 ≤ (1 : Int32) ∧ (1 : Int32).toNatClampNeg < zA S25 (zN S13)) (zgd (zK (zN S19) = 5 ∧ (zN S19) < zN S25) (zgd (a0 < zN S25) (zgd (zK (zN S25) = 2 ∧ zN S25 < zX) (zgd ((zN S25) < zN S25 + 1 ∧ zK (zN S25) = 2) (zb1 (f_Jo_init (zN S25) (znew (zwR (zwR S25 (zN S13) (1 : Int32).toNatClampNeg (some (zN S19))) a0 3 (some (zN S13))) 0)) (fun S32 => zgd (a0 < zN S32) (zgd (zK (zN S32) = 2 ∧ zN S32 < zX) (zgd ((zN S32) < zN S32 + 1 ∧ zK (zN S32) = 2) (zb1 (f_Jo_init (zN S32) (znew (zwR S32 a0 4 (some (zN S25))) 0)) (fun S37 => zgd (a0 < zN S37) (zgd (zK (zN S37) = 9 ∧ zN S37 < zX) (zgd ((zN S37) < zN S37 + 1 ∧ zK (zN S37) = 9) (zb1 (f_Ta_init (zN S37) (znew (zwR S37 a0 5 (some (zN S32))) 0)) (fun S42 => zgd (a0 < zN S42) (zgd (zK (zN S42) = 6 ∧ zN S42 < zX) (zgd ((zN S42) < zN S42 + 1 ∧ zK (zN S42) = 6) (zb1 (f_Re_init (zN S42) (znew (zwR S42 a0 6 (some (zN S37))) 0)) (fun S47 => zgd (a0 < zN S47) (zgd (zK (zN S47) = 1 ∧ zN S47 < zX) (zgd ((zN S47) < zN S47 + 1 ∧ zK (zN S47) = 1) (zb1 (f_As_init (zN S47) (znew (zwR S47 a0 7 (some (zN S42))) 0)) (fun S52 => zgd (a0 < zN S52) (zgd (zK (zN S52) = 4 ∧ zN S52 < zX) (zgd ((zN S52) < zN S52 + 1 ∧ zK (zN S52) = 4) (zb1 (f_Pa_init (zN S52) (znew (zwR S52 a0 8 (some (zN S47))) 0)) (fun S57 => zgd (a0 < zN S57) (zgd (zK (zN S57) = 7 ∧ zN S57 < zX) (zgd ((zN S57) < zN S57 + 1 ∧ zK (zN S57) = 7) (zb1 (f_Ro_init (zN S57) (znew (zwR S57 a0 9 (some (zN S52))) 0)) (fun S62 => zgd (a0 < zN S62) (zgd (zK (zN S62) = 3 ∧ zN S62 < zX) (zgd ((zN S62) < zN S62 + 1 ∧ zK (zN S62) = 3) (zb1 (f_Ou_init (zN S62) (znew (zwR S62 a0 10 (some (zN S57))) 0)) (fun S67 => zgd (a0 < zN S67) (zgd (zK (zN S67) = 8 ∧ zN S67 < zX) (zgd ((zN S67) < zN S67 + 1 ∧ zK (zN S67) = 8) (zb1 (f_Ru_init (zN S67) (znew (zwR S67 a0 11 (some (zN S62))) 0)) (fun S72 => zgd (a0 < zN S72) (zgd (zK (zN S72) = 50 ∧ zN S72 < zX) (zgd (a0 < zN S72 + 1) (zgd (zK (zN S72 + 1) = 51 ∧ zN S72 + 1 < zX) (zgd (a0 < zN S72 + 2) (zgd (zK (zN S72 + 2) = 50 ∧ zN S72 + 2 < zX) (zgd (a0 < zN S72 + 3) (zgd (a0 < zN S72 + 3) (zgd (a0 < zN S72 + 3) (zgd (a0 < zN S72 + 3) (zgd (a0 < zN S72 + 3) (some (zwI (zwI (zwI (zwI (zwR (znew (zwR (znew (zwR (znew (zwR S72 a0 12 (some (zN S67))) 23) a0 13 (some (zN S72))) 20) a0 14 (some (zN S72 + 1))) 6) a0 15 (some (zN S72 + 2))) a0 16 (0 : Int32)) a0 17 (-1 : Int32)) a0 18 (-1 : Int32)) a0 19 (0 : Int32))))))))))))))))))))))))))))))))))))))))))))))))))))))))))))))))))))))))
set_option maxRecDepth 100000 in
set_option maxHeartbeats 16000000 in
theorem m_E_init (l : Launch) {a0 : Nat} {S S1 : zSt} (h0 : zK a0 = 0) (h : f_E_init a0 S = some S1) : zPM l y_E_init b_E_init 1 none rm_E_init false false [zr (some a0)] S none S1 := by
  refine zPM_of (by decide) (Nat.le_of_ble_eq_true rfl) (fun p e s m args below meth c G C hret hname => ?_)
  unfold f_E_init at h
  refine (?_ : zJ p l e rm_E_init s m args below meth c G false 1 0 0 (zQm below G args s rm_E_init false none S1) S 0 [(0, zr (some a0))] [])
  refine z_aload_n C 0 rfl d_E_init_0 rfl ?_
  refine z_objInit C lk_0_3 ⟨by decide, by decide⟩ (Nat.le_of_ble_eq_true rfl) d_E_init_1 ?_
  refine z_aload_n C 0 rfl d_E_init_4 rfl ?_
  obtain ⟨g1, h⟩ := zgd_some h
  refine z_new C 5 (by decide) g1.1 g1.2 cl_0_9 inst_5 ini_5 (by decide) (by decide) d_E_init_5 ?_
  refine z_dup C rfl d_E_init_8 ?_
  obtain ⟨g2, h⟩ := zgd_some h
  obtain ⟨S3, h4, h⟩ := zb1_some h
  refine z_callI C (m_Ps_init l g2.2 h4) mf_Ps_init (Or.inr (C.2.2.2.2.2.2.2.2.2.2.1 _ (by decide : (11, 5) ∈ zMX))) in_Ps_init rfl g2.1 ⟨by decide, by decide, by decide, by decide⟩ rfl _ [zr (some (zN S)), zr (some a0)] rfl (Nat.le_of_ble_eq_true rfl) d_E_init_9 ?_
  obtain ⟨g5, h⟩ := zgd_some h
  refine z_putR C 0 (by decide) 0 (by decide) rfl g5 h0 zfl_0_12 (Or.inr ⟨hname, rfl⟩) d_E_init_12 ?_
  refine z_aload_n C 0 rfl d_E_init_15 rfl ?_
  obtain ⟨g6, h⟩ := zgd_some h
  refine z_new C 5 (by decide) g6.1 g6.2 cl_0_9 inst_5 ini_5 (by decide) (by decide) d_E_init_16 ?_
  refine z_dup C rfl d_E_init_19 ?_
  obtain ⟨g7, h⟩ := zgd_some h
  obtain ⟨S8, h9, h⟩ := zb1_some h
  refine z_callI C (m_Ps_init l g7.2 h9) mf_Ps_init (Or.inr (C.2.2.2.2.2.2.2.2.2.2.1 _ (by decide : (11, 5) ∈ zMX))) in_Ps_init rfl g7.1 ⟨by decide, by decide, by decide, by decide⟩ rfl _ [zr (some (zN S3)), zr (some a0)] rfl (Nat.le_of_ble_eq_true rfl) d_E_init_20 ?_
  obtain ⟨g10, h⟩ := zgd_some h
  refine z_putR C 0 (by decide) 1 (by decide) rfl g10 h0 zfl_0_16 (Or.inr ⟨hname, rfl⟩) d_E_init_23 ?_
  refine z_aload_n C 0 rfl d_E_init_26 rfl ?_
  obtain ⟨g11, h⟩ := zgd_some h
  refine z_new C 5 (by decide) g11.1 g11.2 cl_0_9 inst_5 ini_5 (by decide) (by decide) d_E_init_27 ?_
  refine z_dup C rfl d_E_init_30 ?_
  obtain ⟨g12, h⟩ := zgd_some h
  obtain ⟨S13, h14, h⟩ := zb1_some h
  refine z_callI C (m_Ps_init l g12.2 h14) mf_Ps_init (Or.inr (C.2.2.2.2.2.2.2.2.2.2.1 _ (by decide : (11, 5) ∈ zMX))) in_Ps_init rfl g12.1 ⟨by decide, by decide, by decide, by decide⟩ rfl _ [zr (some (zN S8)), zr (some a0)] rfl (Nat.le_of_ble_eq_true rfl) d_E_init_31 ?_
  obtain ⟨g15, h⟩ := zgd_some h
  refine z_putR C 0 (by decide) 2 (by decide) rfl g15 h0 zfl_0_19 (Or.inr ⟨hname, rfl⟩) d_E_init_34 ?_
  refine z_aload_n C 0 rfl d_E_init_37 rfl ?_
  refine z_iconst C (2 : Int32) (by decide) d_E_init_38 ?_
  obtain ⟨g16, h⟩ := zgd_some h
  refine z_newP C 2 (by decide) (by decide) (by decide) g16 cl_0_9 (by decide) (by decide) d_E_init_39 ?_
  refine z_dup C rfl d_E_init_42 ?_
  refine z_iconst C (0 : Int32) (by decide) d_E_init_43 ?_
  obtain ⟨g17, h⟩ := zgd_some h
  refine z_new C 5 (by decide) g17.1 g17.2 cl_0_9 inst_5 ini_5 (by decide) (by decide) d_E_init_44 ?_
  refine z_dup C rfl d_E_init_47 ?_
  obtain ⟨g18, h⟩ := zgd_some h
  obtain ⟨S19, h20, h⟩ := zb1_some h
  refine z_callI C (m_Ps_init l g18.2 h20) mf_Ps_init (Or.inr (C.2.2.2.2.2.2.2.2.2.2.1 _ (by decide : (11, 5) ∈ zMX))) in_Ps_init rfl g18.1 ⟨by decide, by decide, by decide, by decide⟩ rfl _ [zr (some (zN S13 + 1)), zi (0 : Int32), zr (some (zN S13)), zr (some (zN S13)), zr (some a0)] rfl (Nat.le_of_ble_eq_true rfl) d_E_init_48 ?_
  obtain ⟨g21, h⟩ := zgd_some h
  obtain ⟨g22, h⟩ := zgd_some h
  refine z_pastore C (Or.inr g21.1.1) g21.1.2 g21.2 (fun j hj => by cases hj; exact g22) d_E_init_51 ?_
  refine z_dup C rfl d_E_init_52 ?_
  refine z_iconst C (1 : Int32) (by decide) d_E_init_53 ?_
  obtain ⟨g23, h⟩ := zgd_some h
  refine z_new C 5 (by decide) g23.1 g23.2 cl_0_9 inst_5 ini_5 (by decide) (by decide) d_E_init_54 ?_
  refine z_dup C rfl d_E_init_57 ?_
  obtain ⟨g24, h⟩ := zgd_some h
  obtain ⟨S25, h26, h⟩ := zb1_some h
  refine z_callI C (m_Ps_init l g24.2 h26) mf_Ps_init (Or.inr (C.2.2.2.2.2.2.2.2.2.2.1 _ (by decide : (11, 5) ∈ zMX))) in_Ps_init rfl g24.1 ⟨by decide, by decide, by decide, by decide⟩ rfl _ [zr (some (zN S19)), zi (1 : Int32), zr (some (zN S13)), zr (some (zN S13)), zr (some a0)] rfl (Nat.le_of_ble_eq_true rfl) d_E_init_58 ?_
  obtain ⟨g27, h⟩ := zgd_some h
  obtain ⟨g28, h⟩ := zgd_some h
  refine z_pastore C (Or.inr g27.1.1) g27.1.2 g27.2 (fun j hj => by cases hj; exact g28) d_E_init_61 ?_
  obtain ⟨g29, h⟩ := zgd_some h
  refine z_putR C 0 (by decide) 3 (by decide) rfl g29 h0 zfl_0_22 (Or.inr ⟨hname, rfl⟩) d_E_init_62 ?_
  refine z_aload_n C 0 rfl d_E_init_65 rfl ?_
  obtain ⟨g30, h⟩ := zgd_some h
  refine z_new C 2 (by decide) g30.1 g30.2 cl_0_26 inst_2 ini_2 (by decide) (by decide) d_E_init_66 ?_
  refine z_dup C rfl d_E_init_69 ?_
  obtain ⟨g31, h⟩ := zgd_some h
  obtain ⟨S32, h33, h⟩ := zb1_some h
  refine z_callI C (m_Jo_init l g31.2 h33) mf_Jo_init (Or.inr (C.2.2.2.2.2.2.2.2.2.2.1 _ (by decide : (28, 2) ∈ zMX))) in_Jo_init rfl g31.1 ⟨by decide, by decide, by decide, by decide⟩ rfl _ [zr (some (zN S25)), zr (some a0)] rfl (Nat.le_of_ble_eq_true rfl) d_E_init_70 ?_
  obtain ⟨g34, h⟩ := zgd_some h
  refine z_putR C 0 (by decide) 4 (by decide) rfl g34 h0 zfl_0_29 (Or.inr ⟨hname, rfl⟩) d_E_init_73 ?_
  refine z_aload_n C 0 rfl d_E_init_76 rfl ?_
  obtain ⟨g35, h⟩ := zgd_some h
  refine z_new C 2 (by decide) g35.1 g35.2 cl_0_26 inst_2 ini_2 (by decide) (by decide) d_E_init_77 ?_
  refine z_dup C rfl d_E_init_80 ?_
  obtain ⟨g36, h⟩ := zgd_some h
  obtain ⟨S37, h38, h⟩ := zb1_some h
  refine z_callI C (m_Jo_init l g36.2 h38) mf_Jo_init (Or.inr (C.2.2.2.2.2.2.2.2.2.2.1 _ (by decide : (28, 2) ∈ zMX))) in_Jo_init rfl g36.1 ⟨by decide, by decide, by decide, by decide⟩ rfl _ [zr (some (zN S32)), zr (some a0)] rfl (Nat.le_of_ble_eq_true rfl) d_E_init_81 ?_
  obtain ⟨g39, h⟩ := zgd_some h
  refine z_putR C 0 (by decide) 5 (by decide) rfl g39 h0 zfl_0_33 (Or.inr ⟨hname, rfl⟩) d_E_init_84 ?_
  refine z_aload_n C 0 rfl d_E_init_87 rfl ?_
  obtain ⟨g40, h⟩ := zgd_some h
  refine z_new C 9 (by decide) g40.1 g40.2 cl_0_36 inst_9 ini_9 (by decide) (by decide) d_E_init_88 ?_
  refine z_dup C rfl d_E_init_91 ?_
  obtain ⟨g41, h⟩ := zgd_some h
  obtain ⟨S42, h43, h⟩ := zb1_some h
  refine z_callI C (m_Ta_init l g41.2 h43) mf_Ta_init (Or.inr (C.2.2.2.2.2.2.2.2.2.2.1 _ (by decide : (38, 9) ∈ zMX))) in_Ta_init rfl g41.1 ⟨by decide, by decide, by decide, by decide⟩ rfl _ [zr (some (zN S37)), zr (some a0)] rfl (Nat.le_of_ble_eq_true rfl) d_E_init_92 ?_
  obtain ⟨g44, h⟩ := zgd_some h
  refine z_putR C 0 (by decide) 6 (by decide) rfl g44 h0 zfl_0_39 (Or.inr ⟨hname, rfl⟩) d_E_init_95 ?_
  refine z_aload_n C 0 rfl d_E_init_98 rfl ?_
  obtain ⟨g45, h⟩ := zgd_some h
  refine z_new C 6 (by decide) g45.1 g45.2 cl_0_43 inst_6 ini_6 (by decide) (by decide) d_E_init_99 ?_
  refine z_dup C rfl d_E_init_102 ?_
  obtain ⟨g46, h⟩ := zgd_some h
  obtain ⟨S47, h48, h⟩ := zb1_some h
  refine z_callI C (m_Re_init l g46.2 h48) mf_Re_init (Or.inr (C.2.2.2.2.2.2.2.2.2.2.1 _ (by decide : (45, 6) ∈ zMX))) in_Re_init rfl g46.1 ⟨by decide, by decide, by decide, by decide⟩ rfl _ [zr (some (zN S42)), zr (some a0)] rfl (Nat.le_of_ble_eq_true rfl) d_E_init_103 ?_
  obtain ⟨g49, h⟩ := zgd_some h
  refine z_putR C 0 (by decide) 7 (by decide) rfl g49 h0 zfl_0_46 (Or.inr ⟨hname, rfl⟩) d_E_init_106 ?_
  refine z_aload_n C 0 rfl d_E_init_109 rfl ?_
  obtain ⟨g50, h⟩ := zgd_some h
  refine z_new C 1 (by decide) g50.1 g50.2 cl_0_50 inst_1 ini_1 (by decide) (by decide) d_E_init_110 ?_
  refine z_dup C rfl d_E_init_113 ?_
  obtain ⟨g51, h⟩ := zgd_some h
  obtain ⟨S52, h53, h⟩ := zb1_some h
  refine z_callI C (m_As_init l g51.2 h53) mf_As_init (Or.inr (C.2.2.2.2.2.2.2.2.2.2.1 _ (by decide : (52, 1) ∈ zMX))) in_As_init rfl g51.1 ⟨by decide, by decide, by decide, by decide⟩ rfl _ [zr (some (zN S47)), zr (some a0)] rfl (Nat.le_of_ble_eq_true rfl) d_E_init_114 ?_
  obtain ⟨g54, h⟩ := zgd_some h
  refine z_putR C 0 (by decide) 8 (by decide) rfl g54 h0 zfl_0_53 (Or.inr ⟨hname, rfl⟩) d_E_init_117 ?_
  refine z_aload_n C 0 rfl d_E_init_120 rfl ?_
  obtain ⟨g55, h⟩ := zgd_some h
  refine z_new C 4 (by decide) g55.1 g55.2 cl_0_57 inst_4 ini_4 (by decide) (by decide) d_E_init_121 ?_
  refine z_dup C rfl d_E_init_124 ?_
  obtain ⟨g56, h⟩ := zgd_some h
  obtain ⟨S57, h58, h⟩ := zb1_some h
  refine z_callI C (m_Pa_init l g56.2 h58) mf_Pa_init (Or.inr (C.2.2.2.2.2.2.2.2.2.2.1 _ (by decide : (59, 4) ∈ zMX))) in_Pa_init rfl g56.1 ⟨by decide, by decide, by decide, by decide⟩ rfl _ [zr (some (zN S52)), zr (some a0)] rfl (Nat.le_of_ble_eq_true rfl) d_E_init_125 ?_
  obtain ⟨g59, h⟩ := zgd_some h
  refine z_putR C 0 (by decide) 9 (by decide) rfl g59 h0 zfl_0_60 (Or.inr ⟨hname, rfl⟩) d_E_init_128 ?_
  refine z_aload_n C 0 rfl d_E_init_131 rfl ?_
  obtain ⟨g60, h⟩ := zgd_some h
  refine z_new C 7 (by decide) g60.1 g60.2 cl_0_64 inst_7 ini_7 (by decide) (by decide) d_E_init_132 ?_
  refine z_dup C rfl d_E_init_135 ?_
  obtain ⟨g61, h⟩ := zgd_some h
  obtain ⟨S62, h63, h⟩ := zb1_some h
  refine z_callI C (m_Ro_init l g61.2 h63) mf_Ro_init (Or.inr (C.2.2.2.2.2.2.2.2.2.2.1 _ (by decide : (66, 7) ∈ zMX))) in_Ro_init rfl g61.1 ⟨by decide, by decide, by decide, by decide⟩ rfl _ [zr (some (zN S57)), zr (some a0)] rfl (Nat.le_of_ble_eq_true rfl) d_E_init_136 ?_
  obtain ⟨g64, h⟩ := zgd_some h
  refine z_putR C 0 (by decide) 10 (by decide) rfl g64 h0 zfl_0_67 (Or.inr ⟨hname, rfl⟩) d_E_init_139 ?_
  refine z_aload_n C 0 rfl d_E_init_142 rfl ?_
  obtain ⟨g65, h⟩ := zgd_some h
  refine z_new C 3 (by decide) g65.1 g65.2 cl_0_71 inst_3 ini_3 (by decide) (by decide) d_E_init_143 ?_
  refine z_dup C rfl d_E_init_146 ?_
  obtain ⟨g66, h⟩ := zgd_some h
  obtain ⟨S67, h68, h⟩ := zb1_some h
  refine z_callI C (m_Ou_init l g66.2 h68) mf_Ou_init (Or.inr (C.2.2.2.2.2.2.2.2.2.2.1 _ (by decide : (73, 3) ∈ zMX))) in_Ou_init rfl g66.1 ⟨by decide, by decide, by decide, by decide⟩ rfl _ [zr (some (zN S62)), zr (some a0)] rfl (Nat.le_of_ble_eq_true rfl) d_E_init_147 ?_
  obtain ⟨g69, h⟩ := zgd_some h
  refine z_putR C 0 (by decide) 11 (by decide) rfl g69 h0 zfl_0_74 (Or.inr ⟨hname, rfl⟩) d_E_init_150 ?_
  refine z_aload_n C 0 rfl d_E_init_153 rfl ?_
  obtain ⟨g70, h⟩ := zgd_some h
  refine z_new C 8 (by decide) g70.1 g70.2 cl_0_78 inst_8 ini_8 (by decide) (by decide) d_E_init_154 ?_
  refine z_dup C rfl d_E_init_157 ?_
  obtain ⟨g71, h⟩ := zgd_some h
  obtain ⟨S72, h73, h⟩ := zb1_some h
  refine z_callI C (m_Ru_init l g71.2 h73) mf_Ru_init (Or.inr (C.2.2.2.2.2.2.2.2.2.2.1 _ (by decide : (80, 8) ∈ zMX))) in_Ru_init rfl g71.1 ⟨by decide, by decide, by decide, by decide⟩ rfl _ [zr (some (zN S67)), zr (some a0)] rfl (Nat.le_of_ble_eq_true rfl) d_E_init_158 ?_
  obtain ⟨g74, h⟩ := zgd_some h
  refine z_putR C 0 (by decide) 12 (by decide) rfl g74 h0 zfl_0_81 (Or.inr ⟨hname, rfl⟩) d_E_init_161 ?_
  refine z_aload_n C 0 rfl d_E_init_164 rfl ?_
  refine z_bipush C (23 : Int32) (by decide) d_E_init_165 ?_
  obtain ⟨g75, h⟩ := zgd_some h
  refine z_newI C 23 (by decide) (by decide) (by decide) g75 (by decide) (by decide) d_E_init_167 ?_
  obtain ⟨g76, h⟩ := zgd_some h
  refine z_putR C 0 (by decide) 13 (by decide) rfl g76 h0 zfl_0_85 (Or.inr ⟨hname, rfl⟩) d_E_init_169 ?_
  refine z_aload_n C 0 rfl d_E_init_172 rfl ?_
  refine z_bipush C (20 : Int32) (by decide) d_E_init_173 ?_
  obtain ⟨g77, h⟩ := zgd_some h
  refine z_newL C 20 (by decide) (by decide) (by decide) g77 (by decide) (by decide) d_E_init_175 ?_
  obtain ⟨g78, h⟩ := zgd_some h
  refine z_putR C 0 (by decide) 14 (by decide) rfl g78 h0 zfl_0_89 (Or.inr ⟨hname, rfl⟩) d_E_init_177 ?_
  refine z_aload_n C 0 rfl d_E_init_180 rfl ?_
  refine z_bipush C (6 : Int32) (by decide) d_E_init_181 ?_
  obtain ⟨g79, h⟩ := zgd_some h
  refine z_newI C 6 (by decide) (by decide) (by decide) g79 (by decide) (by decide) d_E_init_183 ?_
  obtain ⟨g80, h⟩ := zgd_some h
  refine z_putR C 0 (by decide) 15 (by decide) rfl g80 h0 zfl_0_93 (Or.inr ⟨hname, rfl⟩) d_E_init_185 ?_
  refine z_aload_n C 0 rfl d_E_init_188 rfl ?_
  refine z_iconst C (0 : Int32) (by decide) d_E_init_189 ?_
  obtain ⟨g81, h⟩ := zgd_some h
  refine z_putI C 0 (by decide) 16 (by decide) rfl (Or.inl rfl) (Or.inr g81) h0 zfl_0_96 (Or.inr ⟨hname, rfl⟩) d_E_init_190 ?_
  refine z_aload_n C 0 rfl d_E_init_193 rfl ?_
  refine z_iconst C (-1 : Int32) (by decide) d_E_init_194 ?_
  obtain ⟨g82, h⟩ := zgd_some h
  refine z_putI C 0 (by decide) 17 (by decide) rfl (Or.inl rfl) (Or.inr g82) h0 zfl_0_100 (Or.inr ⟨hname, rfl⟩) d_E_init_195 ?_
  refine z_aload_n C 0 rfl d_E_init_198 rfl ?_
  refine z_iconst C (-1 : Int32) (by decide) d_E_init_199 ?_
  obtain ⟨g83, h⟩ := zgd_some h
  refine z_putI C 0 (by decide) 18 (by decide) rfl (Or.inl rfl) (Or.inr g83) h0 zfl_0_103 (Or.inr ⟨hname, rfl⟩) d_E_init_200 ?_
  refine z_aload_n C 0 rfl d_E_init_203 rfl ?_
  refine z_iconst C (0 : Int32) (by decide) d_E_init_204 ?_
  obtain ⟨g84, h⟩ := zgd_some h
  refine z_putI C 0 (by decide) 19 (by decide) rfl (Or.inl rfl) (Or.inr g84) h0 zfl_0_106 (Or.inr ⟨hname, rfl⟩) d_E_init_205 ?_
  cases h
  exact z_vret C hret ⟨by decide, by decide⟩ d_E_init_208

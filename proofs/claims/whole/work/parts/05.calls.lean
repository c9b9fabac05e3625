/-! contracts, calls, ends, new objects -/
def zres (v : Option zV) (st : List zV) : List zV := match v with
  | none => st
  | some x => x :: st
/-- the contract of a method: from these arguments and this state it returns v, and the state is S' -/
def zPM (l : Launch) (y : MethodName) (bytes : ByteArray) (maxL : Nat) (ret : Option FieldType) (rm : Room) (f0 f1 : Bool) (As : List zV) (S : zSt) (v : Option zV) (S' : zSt) : Prop :=
  ∀ G : zG, Met l y (Cond.code y bytes maxL ret :: zGW) rm (fun a U => a = (As.map (zmv G)).toArray ∧ zW G f0 S U.heap ∧ zKK G U) (fun _ _ o t => o = .returned (v.map (zmv G)) ∧ zW G f1 S' t.heap) rm.cells rm.slots (fun q => zb G ≤ q)
def zQm (below : List Frame) (G : zG) (args : Array Value) (s : State) (rm : Room) (f1 : Bool) (v : Option zV) (S' : zSt) : State → Prop :=
  MQ below (fun _ _ o t => o = .returned (v.map (zmv G)) ∧ zW G f1 S' t.heap) args s rm.cells rm.slots (fun q => zb G ≤ q)
def zargs : Nat → List zV → List (Nat × zV)
  | _, [] => []
  | i, v :: vs => (i, v) :: zargs (if zcat v = 2 then i + 2 else i + 1) vs
theorem zargs_eq (G : zG) (vs : List zV) : ∀ i, lv_args i (vs.map (zmv G)) = zls G (zargs i vs) := by
  induction vs with
  | nil => intro i; rfl
  | cons v vs ih =>
    intro i
    show (i, zmv G v) :: lv_args (if (zmv G v).category = 2 then i + 2 else i + 1) (vs.map (zmv G)) = (i, zmv G v) :: zls G (zargs (if zcat v = 2 then i + 2 else i + 1) vs)
    rw [zmv_cat, ih]
theorem zwords (G : zG) (vs : List zV) : (lg_sl (vs.map (zmv G))).length = (vs.map zcat).sum := by
  unfold lg_sl
  induction vs with
  | nil => rfl
  | cons v vs ih =>
    rw [List.map_cons, List.flatMap_cons, List.length_append, ih, List.map_cons, List.sum_cons, zmv_cat]
    congr 1
    rcases v with x | x | x <;> rfl
theorem zPM_of {l : Launch} {y : MethodName} {bytes : ByteArray} {maxL : Nat} {ret : Option FieldType} {rm : Room} {f0 f1 : Bool} {As : List zV} {S : zSt} {v : Option zV} {S' : zSt} (hy : plainName y.cls = true) (hw : (As.map zcat).sum ≤ maxL)
    (body : ∀ (p : Program) (e : Env) (s : State) (m : MethodId) (args : Array Value) (below : List Frame) (meth : Method) (c : Code) (G : zG), zC p s m args meth c G bytes maxL y.cls → meth.sig.returnType = ret → meth.name = y.name →
      zJ p l e rm s m args below meth c G f0 maxL 0 0 (zQm below G args s rm f1 v S') S 0 (zargs 0 As) []) : zPM l y bytes maxL ret rm f0 f1 As S v S' := by
  intro G
  refine Met.ofW (cc := bytes) (maxL := maxL) (ret := ret) hy rfl ?_
  intro p e s m args below meth c s₁ B hml hv
  obtain ⟨rfl, hW, hKK⟩ := hv
  have hts := atoms_spec (ws := Cond.code y bytes maxL ret :: zGW) B.pre
  have hown : s.vm.findClass y.cls = some m.cls := findClass_of_methodNamed B.named
  have hl := lv_entry (As.map (zmv G)) (n := maxL) (by rw [zwords]; exact hw)
  rw [lg_entry_eq]
  generalize (lg_sl (As.map (zmv G)) ++ List.replicate (maxL - (lg_sl (As.map (zmv G))).length) Slot.unset).toArray = ls at hl ⊢
  rw [zargs_eq] at hl
  exact body p e s m _ below meth c G ⟨B.exec, B.bytes, hml, hown, fun w h => hts w (List.mem_cons_of_mem _ h), B.notSynchronized, hKK⟩ B.returns (name_of_methodNamed B.named B.method).1 s.heap [] ls hW (fun q h => by cases h) hl
/-- what is the same at every call of a method -/
def zMF (y : MethodName) (bytes : ByteArray) (maxL : Nat) (ret : Option FieldType) (n : Nat) : Prop :=
  Cond.code y bytes maxL ret ∈ zGW ∧ Cond.initialized y.cls ∈ zGW ∧ (y.cls ≠ "java/lang/invoke/MethodHandle" ∧ y.cls ≠ "java/lang/invoke/VarHandle" ∧ (parseMethodDescriptor y.desc).map (fun d => d.parameters.length) = some n)
theorem zGood {y : MethodName} {bytes : ByteArray} {maxL : Nat} {ret : Option FieldType} (h : Cond.code y bytes maxL ret ∈ zGW) : GoodIn zGW (Cond.code y bytes maxL ret :: zGW) := by
  intro w hw
  rcases List.mem_cons.mp hw with rfl | hw
  · exact ⟨h, good_of_word (zGW_good h)⟩
  · exact ⟨hw, good_of_word (zGW_good hw)⟩
theorem zblind {G : zG} {f0 : Bool} {S : zSt} {a0 : Array Value} : FrameBlind (fun a U => a = a0 ∧ zW G f0 S U.heap ∧ zKK G U) := fun a U g mk q => ⟨q.1, q.2.1, zKK.same rfl q.2.2⟩
section ZR3
variable {p : Program} {l : Launch} {e : Env} {R : Room} {s : State} {m : MethodId} {args : Array Value} {below : List Frame} {meth : Method} {c : Code} {G : zG} {f : Bool} {nL cells slots : Nat} {Q : State → Prop} {S : zSt} {cc : ByteArray} {own : String} {pc : Nat} {ls : List (Nat × zV)} {st : List zV}
theorem zcallW {f1 : Bool} {rest : List zV} {S1 : zSt} {v : Option zV} {mc ms : Nat} {H : Heap} {locs : List Loc} {la : Array Slot} {st0 : List Value} {Qc : State → Outcome → State → Prop}
    (hr : va_Run p l e R s m args below meth c H locs cells slots mc ms (F0 m pc la st0) (zst G rest) Qc (fun q => zb G ≤ q)) (hQ : ∀ st1 o t, Qc st1 o t → o = .returned (v.map (zmv G)) ∧ zW G f1 S1 t.heap)
    (hq : ∀ q ∈ locs, zb G ≤ q.base) (hl : lv_has la nL (zls G ls))
    (kk : zJ p l e R s m args below meth c G f1 nL (cells + mc) (slots + ms) Q S1 (pc + 3) ls (zres v rest)) : W p l e R s m args below meth c H locs cells slots Q (F0 m pc la st0) := by
  intro T hT X
  obtain ⟨r, st₀, t, T', L, h0, X', hL, e1, e2, hqc, stp⟩ := hr T hT X
  obtain ⟨hv, hW1⟩ := hQ _ _ _ hqc
  have hr1 : r = v.map (zmv G) := Outcome.returned.inj hv
  have k2 := kk t.heap (locs ++ L) la hW1 (fun q h => (List.mem_append.mp h).elim (hq q) (hL q)) hl
  obtain ⟨t2, a1, b1⟩ := k2 T' e1 X'
  refine ⟨t2, stp t2 ?_, b1⟩
  rw [hr1]
  cases v <;> exact a1
theorem z_callV {y : MethodName} {bytes : ByteArray} {maxL : Nat} {ret : Option FieldType} {rm : Room} {f1 : Bool} {As : List zV} {S1 : zSt} {v : Option zV} {i idx n : Nat} (C : zC p s m args meth c G cc nL own) (t : Nat) (ht : t < 12) (hM : zPM l y bytes maxL ret rm f f1 (zr (some i) :: As) S v S1)
    (hF : zMF y bytes maxL ret n) (hlk : Cond.methodLink own idx y ∈ zGW) (hin : Cond.instanceMethod y ∈ zGW) (hse : Cond.selects y.cls y y ∈ zGW ∨ Cond.selects y.cls y y ∈ lw_tbl) (hyt : y.cls = zNm t) (hi : (f = true ∧ i < zN0) ∨ i < zN S) (hK : zK i = t)
    (hR : rm.frames + 1 ≤ R.frames ∧ 8 + (maxL + 11) + rm.locals ≤ R.locals ∧ cells + rm.cells ≤ R.cells ∧ slots + rm.slots ≤ R.slots) (hn : As.length = n) (stk rest : List zV) (hstk : stk = As.reverse ++ zr (some i) :: rest) (hst : (rest.map zcat).sum ≤ 8) (d : decode cc pc = .ok (.invokevirtual idx, 3))
    (kk : zJ p l e R s m args below meth c G f1 nL (cells + rm.cells) (slots + rm.slots) Q S1 (pc + 3) ls (zres v rest)) : zJ p l e R s m args below meth c G f nL cells slots Q S pc ls stk := by
  subst hstk
  intro H locs la hW hq hl
  obtain ⟨hx, hb, hml, hown, hts, hlk', hKK⟩ := C
  obtain ⟨hn', hX⟩ := zin_n hW hi
  obtain ⟨cell, q1, q2, q3, -⟩ := zcell_obj (hW.2.2.2.1 i hn') (by omega)
  have hfc := (hKK.1.1 t _ (zCL_at ht)).2.1
  have hsel : (Cond.selects y.cls y y).before args s = true := by
    rcases hse with h | h
    · exact hts _ h
    · exact hts _ (List.mem_filter.mpr ⟨h, rfl⟩)
  refine zcallW (va_runV (As := As.map (zmv G)) (rest := zst G rest) (g := F0 m pc la (zst G (As.reverse ++ zr (some i) :: rest))) (C := y.cls) (b := zb G + i) ⟨hx, hb, hml, hown, hts⟩ (hM G) ⟨callB_of n hts (zGood hF.1) rfl rfl rfl (hts _ hF.2.1) (hts _ hlk) hF.2.2 ⟨hR.1, hR.2.1⟩, hts _ hin, hsel⟩
    ⟨zblind, ⟨cell, q1, by rw [q3]; rfl, by rw [q2, hK, hyt]; exact hfc⟩, fun U hU hWm => ⟨?_, by rw [hU]; exact hW, zKK.warm hWm hKK⟩⟩ rfl (by rw [List.length_map]; exact hn) hl.1 ?_ ?_ d ⟨hR.2.2.1, hR.2.2.2⟩) (fun _ _ _ h => h) hq hl kk
  · show (Value.ref (zb G + i) :: _).toArray = (Value.ref (zad G i) :: _).toArray
    rw [zad_lt hX]
  · show zst G _ = _
    unfold zst
    rw [List.map_append, List.map_reverse, List.map_cons]
    show _ ++ Value.ref (zad G i) :: _ = _
    rw [zad_lt hX]
  · show 0 + _ ≤ 8
    unfold zst
    rw [List.map_map, show ((fun v : Value => v.category) ∘ zmv G) = zcat from funext (zmv_cat G)]
    omega
theorem z_callS {y : MethodName} {bytes : ByteArray} {maxL : Nat} {ret : Option FieldType} {rm : Room} {f1 : Bool} {As : List zV} {S1 : zSt} {v : Option zV} {idx n : Nat} (C : zC p s m args meth c G cc nL own) (hM : zPM l y bytes maxL ret rm f f1 As S v S1)
    (hF : zMF y bytes maxL ret n) (hlk : Cond.methodLink own idx y ∈ zGW) (hin : Cond.static y ∈ zGW)
    (hR : rm.frames + 1 ≤ R.frames ∧ 8 + (maxL + 11) + rm.locals ≤ R.locals ∧ cells + rm.cells ≤ R.cells ∧ slots + rm.slots ≤ R.slots) (hn : As.length = n) (stk rest : List zV) (hstk : stk = As.reverse ++ rest) (hst : (rest.map zcat).sum ≤ 8) (d : decode cc pc = .ok (.invokestatic idx, 3))
    (kk : zJ p l e R s m args below meth c G f1 nL (cells + rm.cells) (slots + rm.slots) Q S1 (pc + 3) ls (zres v rest)) : zJ p l e R s m args below meth c G f nL cells slots Q S pc ls stk := by
  subst hstk
  intro H locs la hW hq hl
  obtain ⟨hx, hb, hml, hown, hts, hlk', hKK⟩ := C
  refine zcallW (va_runS (As := As.map (zmv G)) (rest := zst G rest) (g := F0 m pc la (zst G (As.reverse ++ rest))) ⟨hx, hb, hml, hown, hts⟩ (hM G) ⟨callB_of n hts (zGood hF.1) rfl rfl rfl (hts _ hF.2.1) (hts _ hlk) hF.2.2 ⟨hR.1, hR.2.1⟩, hts _ hin⟩
    ⟨zblind, fun U hU hWm => ⟨rfl, by rw [hU]; exact hW, zKK.warm hWm hKK⟩⟩ rfl (by rw [List.length_map]; exact hn) hl.1 ?_ ?_ d ⟨hR.2.2.1, hR.2.2.2⟩) (fun _ _ _ h => h) hq hl kk
  · show zst G _ = _
    unfold zst
    rw [List.map_append, List.map_reverse]
  · show 0 + _ ≤ 8
    unfold zst
    rw [List.map_map, show ((fun v : Value => v.category) ∘ zmv G) = zcat from funext (zmv_cat G)]
    omega
/-- a constructor -/
theorem z_callI {y : MethodName} {bytes : ByteArray} {maxL : Nat} {rm : Room} {f1 : Bool} {As : List zV} {S1 : zSt} {i idx n : Nat} (C : zC p s m args meth c G cc nL own) (hM : zPM l y bytes maxL none rm f f1 (zr (some i) :: As) S none S1)
    (hF : zMF y bytes maxL none n) (hlk : Cond.methodLink own idx y ∈ zGW ∨ va_Nw (.methodLinkNest own idx y (zNm 0)) s) (hin : Cond.instanceMethod y ∈ zGW) (hy : y.name = "<init>") (hi : i < zN S)
    (hR : rm.frames + 1 ≤ R.frames ∧ 8 + (maxL + 11) + rm.locals ≤ R.locals ∧ cells + rm.cells ≤ R.cells ∧ slots + rm.slots ≤ R.slots) (hn : As.length = n) (stk rest : List zV) (hstk : stk = As.reverse ++ zr (some i) :: rest) (hst : (rest.map zcat).sum ≤ 8) (d : decode cc pc = .ok (.invokespecial idx, 3))
    (kk : zJ p l e R s m args below meth c G f1 nL (cells + rm.cells) (slots + rm.slots) Q S1 (pc + 3) ls rest) : zJ p l e R s m args below meth c G f nL cells slots Q S pc ls stk := by
  subst hstk
  intro H locs la hW hq hl
  obtain ⟨hx, hb, hml, hown, hts, hlk', hKK⟩ := C
  have hX : i < zX := by have := hW.2.1; omega
  have hp : PreS s H (fun a U => a = ((zr (some i) :: As).map (zmv G)).toArray ∧ zW G f S U.heap ∧ zKK G U) (.ref (zb G + i) :: As.map (zmv G)) := ⟨zblind, fun U hU hWm => ⟨by
    show (Value.ref (zb G + i) :: _).toArray = (Value.ref (zad G i) :: _).toArray
    rw [zad_lt hX], by rw [hU]; exact hW, zKK.warm hWm hKK⟩⟩
  have hstack : zst G (As.reverse ++ zr (some i) :: rest) = (As.map (zmv G)).reverse ++ .ref (zb G + i) :: zst G rest := by
    unfold zst
    rw [List.map_append, List.map_reverse, List.map_cons]
    show _ ++ Value.ref (zad G i) :: _ = _
    rw [zad_lt hX]
  have hroom : 2 * (F0 m pc la (zst G (As.reverse ++ zr (some i) :: rest))).monitorRoom + ((zst G rest).map fun v => v.category).sum ≤ 8 := by
    show 0 + _ ≤ 8
    unfold zst
    rw [List.map_map, show ((fun v : Value => v.category) ∘ zmv G) = zcat from funext (zmv_cat G)]
    omega
  rcases hlk with hlk | hlk
  · exact zcallW (v := none) (va_runI (As := As.map (zmv G)) (rest := zst G rest) (g := F0 m pc la (zst G (As.reverse ++ zr (some i) :: rest))) (b := zb G + i) ⟨hx, hb, hml, hown, hts⟩ (hM G) ⟨callB_of n hts (zGood hF.1) rfl rfl rfl (hts _ hF.2.1) (hts _ hlk) hF.2.2 ⟨hR.1, hR.2.1⟩, hy, hts _ hin⟩
      hp rfl (by rw [List.length_map]; exact hn) hl.1 hstack hroom d ⟨hR.2.2.1, hR.2.2.2⟩) (fun _ _ _ h => h) hq hl kk
  · exact zcallW (v := none) (va_runIN (As := As.map (zmv G)) (rest := zst G rest) (g := F0 m pc la (zst G (As.reverse ++ zr (some i) :: rest))) (b := zb G + i) ⟨hx, hb, hml, hown, hts⟩ (hM G) ⟨va_cnB n hts (zGood hF.1) rfl rfl rfl hlk (hts _ hF.2.1) hF.2.2 ⟨hR.1, hR.2.1⟩, hy, hts _ hin⟩
      hp rfl (by rw [List.length_map]; exact hn) hl.1 hstack hroom d ⟨hR.2.2.1, hR.2.2.2⟩) (fun _ _ _ h => h) hq hl kk
/-! ends: the cells and slots that the contract has -/
theorem z_iret {rm : Room} {v : Int32} (C : zC p s m args meth c G cc nL own) (ty : FieldType) (hr : meth.sig.returnType = some ty) (hn : narrow ty (.int v) = .int v) (hc : cells ≤ rm.cells ∧ slots ≤ rm.slots) (d : decode cc pc = .ok (.ireturn, 1)) :
    zJ p l e R s m args below meth c G f nL cells slots (zQm below G args s rm f (some (zi v)) S) S pc ls [zi v] := by
  intro H locs la hW hq hl
  obtain ⟨hx, hb, hml, hown, hts, hlk', hKK⟩ := C
  refine W.widen hc.1 hc.2 ?_
  exact W.zret hx hb hr hn (fun t ht _ => ⟨rfl, by rw [ht]; exact hW⟩) hq d hlk'
theorem z_lret {rm : Room} {v : Int64} (C : zC p s m args meth c G cc nL own) (hr : meth.sig.returnType = some .long) (hc : cells ≤ rm.cells ∧ slots ≤ rm.slots) (d : decode cc pc = .ok (.lreturn, 1)) :
    zJ p l e R s m args below meth c G f nL cells slots (zQm below G args s rm f (some (zl v)) S) S pc ls [zl v] := by
  intro H locs la hW hq hl
  obtain ⟨hx, hb, hml, hown, hts, hlk', hKK⟩ := C
  refine W.widen hc.1 hc.2 ?_
  exact W.lret hx hb hr (fun t ht _ => ⟨rfl, by rw [ht]; exact hW⟩) hq d hlk'
theorem z_vret {rm : Room} (C : zC p s m args meth c G cc nL own) (hr : meth.sig.returnType = none) (hc : cells ≤ rm.cells ∧ slots ≤ rm.slots) (d : decode cc pc = .ok (.return_, 1)) :
    zJ p l e R s m args below meth c G f nL cells slots (zQm below G args s rm f none S) S pc ls [] := by
  intro H locs la hW hq hl
  obtain ⟨hx, hb, hml, hown, hts, hlk', hKK⟩ := C
  refine W.widen hc.1 hc.2 ?_
  exact W.vret hx hb hr (fun t ht _ => ⟨rfl, by rw [ht]; exact hW⟩) hq d hlk'
theorem z_aret {rm : Room} {v : Option Nat} (C : zC p s m args meth c G cc nL own) (n : String) (hr : meth.sig.returnType = some (.object n)) (hc : cells ≤ rm.cells ∧ slots ≤ rm.slots) (d : decode cc pc = .ok (.areturn, 1)) :
    zJ p l e R s m args below meth c G f nL cells slots (zQm below G args s rm f (some (zr v)) S) S pc ls [zr v] := by
  intro H locs la hW hq hl
  obtain ⟨hx, hb, hml, hown, hts, hlk', hKK⟩ := C
  refine W.widen hc.1 hc.2 ?_
  exact W.aret hx hb hr (Or.inl ⟨_, rfl⟩) (by cases v; exact Or.inl rfl; exact Or.inr ⟨_, rfl⟩) (fun t ht _ => ⟨rfl, by rw [ht]; exact hW⟩) hq d hlk'
/-! one more object -/
theorem znew_N (S : zSt) (n : Nat) : zN (znew S n) = zN S + 1 := rfl
theorem zW_new {S : zSt} {H H' : Heap} {n : Nat} (h : zW G false S H) (hX : zN S < zX) (z : H'.size = H.size + 1) (oq : ∀ q : Nat, q < H.size → H'[q]? = H[q]?) (hc : zcell G (znew S n) (zN S) H') : zW G false (znew S n) H' := by
  obtain ⟨a1, a0, a2, a3, -⟩ := h
  refine ⟨by rw [z, a1, znew_N]; omega, by rw [znew_N]; omega, fun q hq => ?_, fun j hj => ?_, fun h => by cases h⟩
  · rw [oq q (by omega)]
    exact a2 q hq
  · by_cases hji : j = zN S
    · rw [hji]; exact hc
    · have hj' : j < zN S := by rw [znew_N] at hj; omega
      refine zcell_kept (a3 j hj') (oq _ (by omega)) (fun k => ?_) (fun k => ?_) (fun k => ?_) ?_
      · show (if j = zN S then 0 else S.1 j k) = _; rw [if_neg hji]; rfl
      · show (if j = zN S then 0 else S.2.1 j k) = _; rw [if_neg hji]; rfl
      · show (if j = zN S then none else S.2.2.1 j k) = _; rw [if_neg hji]; rfl
      · show (if j = zN S then n else zA S j) = _; rw [if_neg hji]
theorem z_new (C : zC p s m args meth c G cc nL own) {idx : Nat} (t : Nat) (ht : t < 12) (hK : zK (zN S) = t) (hX : zN S < zX) (hlk : Cond.classLink own idx (zNm t) ∈ zGW) (hin : Cond.instantiable (zNm t) (zFN t) ∈ zGW) (hini : Cond.initialized (zNm t) ∈ zGW) (hcells : cells + 1 ≤ R.cells) (hslots : slots + zFN t ≤ R.slots) (d : decode cc pc = .ok (.new idx, 3))
    (kk : zJ p l e R s m args below meth c G false nL (cells + 1) (slots + zFN t) Q (znew S 0) (pc + 3) ls (zr (some (zN S)) :: st)) : zJ p l e R s m args below meth c G false nL cells slots Q S pc ls st := by
  intro H locs la hW hq hl1
  obtain ⟨hxx, hb, hml, hown, hts, hlk', hKK⟩ := C
  have hKn := hKK.1.1 t _ (zCL_at ht)
  refine W.newcK hxx hb hown (hts _ hlk) (hts _ hin) (hts _ hini) rfl d hcells hslots (cC := G.2.2.1.1 t) hKn.2.1 (h := zb G + zN S) hW.1 (fun H' kC h1 h2 h3 h4 => ?_)
  have hob := u_born (zTy t) hts (zig t ht) hKn h1 h2 (zTy_ok t ht)
  have hW' : zW G false (znew S 0) H' := by
    refine zW_new hW hX (by rw [h3, hW.1]) (fun q h => h4 q (by rw [← hW.1]; exact h)) ?_
    unfold zcell
    rw [if_pos (by omega), hK]
    refine hob.to (fun k hk => ?_)
    unfold zobjV
    rw [hK]
    rcases zft_ok t ht k hk with ⟨h, h5 | h5⟩ | ⟨h, h5⟩ | ⟨h, ⟨n, h5⟩ | ⟨n, h5⟩⟩ <;> rw [h, h5] <;> simp [znew, zI, zL, zR, defaultValue, zmv]
  have k2 := kk H' locs la hW' hq hl1
  have e : zst G (zr (some (zN S)) :: st) = Value.ref (zb G + zN S) :: zst G st := by
    show Value.ref (zad G (zN S)) :: _ = _
    rw [zad_lt hX]; rfl
  rw [e] at k2
  exact k2
theorem znewarr {kd tix : Nat} {ty : FieldType} {at0 : ArrayType} (C : zC p s m args meth c G cc nL own) (hty : newarray.typeOf at0 = ty) (hkd : 12 ≤ kd) (htix : (ztys G)[tix]? = some (G.2.2.2 kd, ty)) (hnm : ∀ U cA, va_RA U cA ty = (U.vm.findClass ("[" ++ ty.toString) = some cA)) {x : Int32} {n : Nat} (hx : ¬ x < 0) (hxn : x.toNatClampNeg = n) (hbig : n ≤ 1000000) (hcb : componentBytes ty ≤ 8) (hK : zK (zN S) = kd) (hX : zN S < zX) (harr : Cond.arrayClass ty ∈ zGW) (hdef : ∀ k, zarrV G (znew S n) (zN S) k = defaultValue ty)
    (hcells : cells + 1 ≤ R.cells) (hslots : slots + n ≤ R.slots) (d : decode cc pc = .ok (.newarray at0, 2))
    (kk : zJ p l e R s m args below meth c G false nL (cells + 1) (slots + n) Q (znew S n) (pc + 2) ls (zr (some (zN S)) :: st)) : zJ p l e R s m args below meth c G false nL cells slots Q S pc ls (zi x :: st) := by
  intro H locs la hW hq hl1
  obtain ⟨hxx, hb, hml, hown, hts, hlk', hKK⟩ := C
  subst hty
  refine W.of (g := F0 m pc la (Value.int x :: zst G st)) (g2 := F0 m pc la (Value.int x :: zst G st)) (fun T hT X => ⟨T, hT, X, fun _ h => h⟩) ?_
  refine W.newa hxx hb (hts _ harr) rfl d rfl hx (by rw [hxn]; exact Nat.le_trans (Nat.mul_le_mul hbig hcb) (Nat.le_of_ble_eq_true rfl)) hcells (by rw [hxn]; exact hslots) (fun cA kA comp h1 h2 h3 => ?_)
  have hRA := (hKK.1.2 tix _ htix).2
  rw [hnm] at hRA
  have hcA : cA = G.2.2.2 kd := Option.some.inj (h1.symm.trans hRA)
  subst hcA
  rw [hxn]
  have hW' : zW G false (znew S n) (H.push { cls := G.2.2.2 kd, slots := Array.replicate n (defaultValue (newarray.typeOf at0)), vm := .none }) := by
    refine zW_new hW hX (by simp) (fun q h => by rw [Array.getElem?_push, if_neg (Nat.ne_of_lt h)]) ?_
    unfold zcell
    rw [if_neg (by omega), hK, ← hW.1, Array.getElem?_push_size, arrV_new]
    congr 2
    · show n = (if zN S = zN S then n else zA S (zN S))
      rw [if_pos rfl]
    · funext k
      exact (hdef k).symm
  have k2 := kk _ locs la hW' hq hl1
  have e : zst G (zr (some (zN S)) :: st) = Value.ref H.size :: zst G st := by
    show Value.ref (zad G (zN S)) :: _ = _
    rw [zad_lt hX, hW.1]; rfl
  rw [e] at k2
  exact k2
end ZR3

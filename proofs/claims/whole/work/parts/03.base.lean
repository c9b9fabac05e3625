/-! the state of the system: objects by number; ints, longs, references of each by place; how many; arrays' lengths -/
abbrev zV : Type := Int32 ⊕ (Int64 ⊕ Option Nat)
abbrev zi (x : Int32) : zV := Sum.inl x
abbrev zl (x : Int64) : zV := Sum.inr (Sum.inl x)
abbrev zr (o : Option Nat) : zV := Sum.inr (Sum.inr o)
abbrev zSt : Type := (Nat → Nat → Int32) × (Nat → Nat → Int64) × (Nat → Nat → Option Nat) × Nat × (Nat → Nat)
def zI (S : zSt) : Nat → Nat → Int32 := S.1
def zL (S : zSt) : Nat → Nat → Int64 := S.2.1
def zR (S : zSt) : Nat → Nat → Option Nat := S.2.2.1
def zN (S : zSt) : Nat := S.2.2.2.1
def zA (S : zSt) : Nat → Nat := S.2.2.2.2
def zup {α : Type} (f : Nat → Nat → α) (i k : Nat) (v : α) : Nat → Nat → α := fun j l => if j = i ∧ l = k then v else f j l
def zwI (S : zSt) (i k : Nat) (v : Int32) : zSt := (zup S.1 i k v, S.2)
def zwL (S : zSt) (i k : Nat) (v : Int64) : zSt := (S.1, zup S.2.1 i k v, S.2.2)
def zwR (S : zSt) (i k : Nat) (v : Option Nat) : zSt := (S.1, S.2.1, zup S.2.2.1 i k v, S.2.2.2)
/-- one more object, its cells as new ones are; of an array: so long -/
def znew (S : zSt) (len : Nat) : zSt := (fun j l => if j = zN S then 0 else S.1 j l, fun j l => if j = zN S then 0 else S.2.1 j l, fun j l => if j = zN S then none else S.2.2.1 j l, zN S + 1, fun j => if j = zN S then len else zA S j)
theorem zup_self {α : Type} (f : Nat → Nat → α) (i k : Nat) (v : α) : zup f i k v i k = v := by simp [zup]
theorem zup_row {α : Type} (f : Nat → Nat → α) {i j : Nat} (h : j ≠ i) (k l : Nat) (v : α) : zup f i k v j l = f j l := by simp [zup, h]
theorem zup_upd {α : Type} (f : Nat → Nat → α) (i k l : Nat) (v : α) : zup f i k v i l = if l = k then v else f i l := by simp [zup]
/-! the real machine's side: where the objects lie, the classes' numbers and slots, the arrays' classes -/
abbrev zG : Type := Heap × (Nat → Nat) × va_G × (Nat → ClassId)
def zb (G : zG) : Nat := G.1.size
def zad (G : zG) (i : Nat) : Nat := if i < zX then zb G + i else G.2.1 (i - zX)
def zmv (G : zG) : zV → Value
  | .inl x => .int x
  | .inr (.inl x) => .long x
  | .inr (.inr none) => .null
  | .inr (.inr (some i)) => .ref (zad G i)
def zcat : zV → Nat
  | .inl _ => 1
  | .inr (.inl _) => 2
  | .inr (.inr _) => 1
theorem zmv_cat (G : zG) (v : zV) : (zmv G v).category = zcat v := by
  rcases v with x | x | (_ | i) <;> rfl
def zobjV (G : zG) (S : zSt) (i : Nat) (k : Nat) : Value := match zft (zK i) k with
  | 0 => .int (zI S i k)
  | 1 => .long (zL S i k)
  | _ => zmv G (zr (zR S i k))
def zarrV (G : zG) (S : zSt) (i : Nat) (k : Nat) : Value := match zK i with
  | 51 => .long (zL S i k)
  | 54 => zmv G (zr (zR S i k))
  | 55 => zmv G (zr (zR S i k))
  | _ => .int (zI S i k)
def zcell (G : zG) (S : zSt) (i : Nat) (H : Heap) : Prop :=
  if zK i < 12 then t_OB (zb G + i) (G.2.2.1.1 (zK i)) (zFN (zK i)) (G.2.2.1.2 (zK i)) H (zobjV G S i) else H[zb G + i]? = some (arrV (G.2.2.2 (zK i)) (zA S i) (zarrV G S i))
/-- which reference fields never change, and what they hold: their object's number and so many more -/
def zoff (c k : Nat) : Option (Nat × Nat) := match c, k with
  | 5, 1 => some (1, 9)
  | 5, 2 => some (2, 36)
  | 5, 10 => some (3, 6)
  | 5, 11 => some (4, 6)
  | 5, 13 => some (5, 6)
  | 0, 0 => some (1, 0)
  | 0, 1 => some (7, 0)
  | 0, 2 => some (13, 0)
  | 0, 3 => some (19, 2)
  | 2, 2 => some (1, 16)
  | 2, 3 => some (2, 16)
  | 2, 4 => some (3, 16)
  | 2, 5 => some (4, 16)
  | 2, 6 => some (5, 16)
  | 0, 4 => some (32, 0)
  | 0, 5 => some (38, 0)
  | 9, 0 => some (1, 400)
  | 0, 6 => some (44, 0)
  | 0, 7 => some (46, 0)
  | 10, 4 => some (1, 12)
  | 10, 5 => some (2, 12)
  | 10, 6 => some (3, 36)
  | 10, 0 => some (4, 0)
  | 6, 0 => some (1, 0)
  | 1, 0 => some (1, 50)
  | 1, 1 => some (2, 7)
  | 0, 8 => some (52, 0)
  | 4, 1 => some (1, 81)
  | 4, 2 => some (2, 81)
  | 4, 3 => some (3, 81)
  | 4, 4 => some (4, 81)
  | 0, 9 => some (55, 0)
  | 7, 0 => some (1, 8)
  | 7, 2 => some (2, 8)
  | 7, 3 => some (3, 64)
  | 7, 4 => some (4, 2048)
  | 0, 10 => some (60, 0)
  | 3, 0 => some (1, 90)
  | 0, 11 => some (65, 0)
  | 8, 0 => some (1, 9)
  | 0, 12 => some (67, 0)
  | 0, 13 => some (69, 23)
  | 0, 14 => some (70, 20)
  | 0, 15 => some (71, 6)
  | 11, 1 => some (1, 7)
  | 11, 2 => some (2, 5807)
  | 11, 3 => some (3, 11614)
  | 11, 4 => some (4, 2)
  | 11, 5 => some (5, 184)
  | 11, 7 => some (6, 121)
  | 11, 11 => some (7, 400)
  | 11, 12 => some (8, 5)
  | 11, 15 => some (9, 401)
  | 11, 16 => some (10, 401)
  | 11, 17 => some (11, 401)
  | 11, 26 => some (12, 7)
  | 11, 29 => some (13, 9)
  | 11, 30 => some (14, 1488)
  | 11, 31 => some (15, 1488)
  | 11, 33 => some (16, 9)
  | 11, 34 => some (17, 81)
  | 11, 35 => some (18, 81)
  | 11, 36 => some (19, 4608)
  | 11, 37 => some (20, 81)
  | 11, 38 => some (21, 81)
  | 11, 39 => some (22, 90)
  | 11, 40 => some (23, 21)
  | 11, 47 => some (24, 2)
  | 11, 48 => some (25, 92)
  | _, _ => none
/-- the statics of the state: behind the constructors -/
def zSR (S : zSt) : Prop := zN0 ≤ zN S ∧ zN S ≤ zX ∧ ∀ i, i < zN S → zK i < 12 → ∀ k o n, zoff (zK i) k = some (o, n) → zR S i k = some (i + o) ∧ i + o < zN S ∧ (n ≠ 0 → zA S (i + o) = n)
def zW (G : zG) (f : Bool) (S : zSt) (H : Heap) : Prop := H.size = zb G + zN S ∧ zN S ≤ zX ∧ (∀ q : Nat, q < zb G → H[q]? = G.1[q]?) ∧ (∀ i, i < zN S → zcell G S i H) ∧ (f = true → zSR S)
def ztys (G : zG) : List (ClassId × FieldType) := [(G.2.2.2 50, .int), (G.2.2.2 51, .long), (G.2.2.2 52, .byte), (G.2.2.2 53, .boolean), (G.2.2.2 54, .object (zNm 5)), (G.2.2.2 55, .object (zNm 10))]
def zSX : Nat → Nat × String
  | 0 => (103, "swim")
  | 1 => (105, "gate")
  | 2 => (107, "stir")
  | 3 => (109, "pass")
  | 4 => (95, "takes")
  | 5 => (97, "weighs")
  | 6 => (99, "settles")
  | 7 => (101, "bars")
  | 8 => (69, "to")
  | 9 => (140, "not")
  | 10 => (138, "and")
  | 11 => (127, "or")
  | 12 => (158, "mud")
  | 13 => (164, "soon")
  | 14 => (183, "day")
  | 15 => (187, "done")
  | 16 => (189, "latest")
  | 17 => (191, "at")
  | 18 => (193, "shut")
  | 19 => (175, "from")
  | 20 => (179, "far")
  | 21 => (181, "fall")
  | 22 => (185, "mood")
  | 23 => (85, "times")
  | 24 => (90, "if")
  | _ => (0, "")
def zMN (c : Nat) : MethodName := ⟨zNm c, "<init>", "()V"⟩
/-- private constructors called from the outer class: pool entry, class -/
def zMX : List (Nat × Nat) := [(11, 5), (28, 2), (38, 9), (45, 6), (52, 1), (59, 4), (66, 7), (73, 3), (80, 8)]
/-- the texts of the literals: lengths, bytes; what is known of them, and of two statics -/
def zSln : List Nat := [4, 4, 4, 4, 5, 6, 7, 4, 2, 3, 3, 2, 3, 4, 3, 4, 6, 2, 4, 4, 3, 4, 4, 5, 2]
def zSby : List (List Int32) := [[115, 119, 105, 109], [103, 97, 116, 101], [115, 116, 105, 114], [112, 97, 115, 115], [116, 97, 107, 101, 115], [119, 101, 105, 103, 104, 115], [115, 101, 116, 116, 108, 101, 115], [98, 97, 114, 115], [116, 111], [110, 111, 116], [97, 110, 100], [111, 114], [109, 117, 100], [115, 111, 111, 110], [100, 97, 121], [100, 111, 110, 101], [108, 97, 116, 101, 115, 116], [97, 116], [115, 104, 117, 116], [102, 114, 111, 109], [102, 97, 114], [102, 97, 108, 108], [109, 111, 111, 100], [116, 105, 109, 101, 115], [105, 102]]
def zSK (G : zG) (U : State) : Prop := vk_S 25 zSln zSby G.2.1 (fun j => G.2.1 (25 + j)) (fun q => zb G ≤ q) U G.1 ∧ va_Z "java/lang/String" "COMPACT_STRINGS" "Z" (.int 1) (fun q => zb G ≤ q) U G.1 ∧ (va_Z "jdk/internal/util/Preconditions" "SIOOBE_FORMATTER" "Ljava/util/function/BiFunction;" .null (fun q => zb G ≤ q) U G.1 ∨ va_Z "jdk/internal/util/Preconditions" "SIOOBE_FORMATTER" "Ljava/util/function/BiFunction;" (.ref (G.2.1 50)) (fun q => zb G ≤ q) U G.1)
theorem zSK.moved {G : zG} {s U : State} (hvm : s.vm.Alike U.vm) (h : zSK G s) : zSK G U := by
  obtain ⟨h1, h2, h3⟩ := h
  exact ⟨h1.moved hvm, h2.moved hvm, h3.imp (fun z => z.moved hvm) (fun z => z.moved hvm)⟩
/-- what is known of the tables -/
def zKK (G : zG) (U : State) : Prop := va_K G.2.2.1 zCL (ztys G) U ∧ (∀ j, j < 25 → vk_R (zNm 6) (zSX j).1 (zSX j).2 (G.2.1 j) U) ∧ (va_AO (zNm 5) U ∧ va_AO (zNm 10) U) ∧
  (va_Nw (.fieldLinkNest (zNm 8) 31 (zNm 5) (zT 5 10).2.1 (zT 5 10).2.2.1 (zNm 0)) U ∧ va_Nw (.fieldLinkNest (zNm 8) 38 (zNm 5) (zT 5 11).2.1 (zT 5 11).2.2.1 (zNm 0)) U) ∧ (∀ q ∈ zMX, va_Nw (.methodLinkNest (zNm 0) q.1 (zMN q.2) (zNm 0)) U) ∧ zSK G U
theorem zKK.warm {G : zG} {s U : State} (hW : s.WarmedH U.vm) (h : zKK G s) : zKK G U := ⟨va_K.moved hW.alike h.1, fun j hj => (h.2.1 j hj).warm hW, ⟨va_AO.moved hW.alike h.2.2.1.1, va_AO.moved hW.alike h.2.2.1.2⟩, ⟨va_Nw.warmF hW h.2.2.2.1.1, va_Nw.warmF hW h.2.2.2.1.2⟩, fun q hq => va_Nw.warmM hW (h.2.2.2.2.1 q hq), h.2.2.2.2.2.moved hW.alike⟩
theorem zKK.same {G : zG} {s U : State} (hW : U.vm = s.vm) (h : zKK G s) : zKK G U := ⟨va_K.moved (by rw [hW]; exact Vm.Alike.refl _) h.1, fun j hj => (h.2.1 j hj).same hW, ⟨va_AO.moved (by rw [hW]; exact Vm.Alike.refl _) h.2.2.1.1, va_AO.moved (by rw [hW]; exact Vm.Alike.refl _) h.2.2.1.2⟩, ⟨va_tabs rfl hW.symm h.2.2.2.1.1, va_tabs rfl hW.symm h.2.2.2.1.2⟩, fun q hq => va_tabs rfl hW.symm (h.2.2.2.2.1 q hq), h.2.2.2.2.2.moved (by rw [hW]; exact Vm.Alike.refl _)⟩
def zst (G : zG) (st : List zV) : List Value := st.map (zmv G)
def zls (G : zG) (ls : List (Nat × zV)) : List (Nat × Value) := ls.map (fun q => (q.1, zmv G q.2))
theorem zls_at {G : zG} {la : Array Slot} {nL : Nat} {ls : List (Nat × zV)} (h : lv_has la nL (zls G ls)) {k i : Nat} {v : zV} (hk : ls[k]? = some (i, v)) : la[i]? = some (.val (zmv G v)) :=
  lv_at h k (by simp [zls, hk])
/-- behind a store of one word (w = 1) or two -/
def zput (ls : List (Nat × zV)) (i : Nat) (v : zV) : List (Nat × zV) := match zcat v with
  | 2 => (i, v) :: ls.filter (fun q => !(q.1 == i) && (!(q.1 == i + 1) && !(q.1 + 1 == i && zcat q.2 == 2)))
  | _ => (i, v) :: ls.filter (fun q => !(q.1 == i) && !(q.1 + 1 == i && zcat q.2 == 2))
theorem zls_f1 (G : zG) (ls : List (Nat × zV)) (i : Nat) : (zls G ls).filter (fun q => !(q.1 == i) && !(q.1 + 1 == i && q.2.category == 2)) = zls G (ls.filter (fun q => !(q.1 == i) && !(q.1 + 1 == i && zcat q.2 == 2))) := by
  unfold zls
  rw [List.filter_map]
  congr 1
  apply List.filter_congr
  intro q _
  simp [zmv_cat]
theorem zls_f2 (G : zG) (ls : List (Nat × zV)) (i : Nat) : (zls G ls).filter (fun q => !(q.1 == i) && (!(q.1 == i + 1) && !(q.1 + 1 == i && q.2.category == 2))) = zls G (ls.filter (fun q => !(q.1 == i) && (!(q.1 == i + 1) && !(q.1 + 1 == i && zcat q.2 == 2)))) := by
  unfold zls
  rw [List.filter_map]
  congr 1
  apply List.filter_congr
  intro q _
  simp [zmv_cat]
/-! cells: what is read of the state, what a write does -/
theorem zcell_obj {G : zG} {S : zSt} {i : Nat} {H : Heap} (h : zcell G S i H) (hk : zK i < 12) : t_OB (zb G + i) (G.2.2.1.1 (zK i)) (zFN (zK i)) (G.2.2.1.2 (zK i)) H (zobjV G S i) := by
  unfold zcell at h
  rwa [if_pos hk] at h
theorem zcell_arr {G : zG} {S : zSt} {i : Nat} {H : Heap} (h : zcell G S i H) (hk : 12 ≤ zK i) : H[zb G + i]? = some (arrV (G.2.2.2 (zK i)) (zA S i) (zarrV G S i)) := by
  unfold zcell at h
  rwa [if_neg (by omega)] at h
theorem zcell_kept {G : zG} {S S' : zSt} {i : Nat} {H H' : Heap} (h : zcell G S i H) (hH : H'[zb G + i]? = H[zb G + i]?) (h1 : ∀ k, zI S' i k = zI S i k) (h2 : ∀ k, zL S' i k = zL S i k) (h3 : ∀ k, zR S' i k = zR S i k) (h4 : zA S' i = zA S i) : zcell G S' i H' := by
  have e1 : zobjV G S' i = zobjV G S i := by funext k; unfold zobjV; rw [h1, h2, h3]
  have e2 : zarrV G S' i = zarrV G S i := by funext k; unfold zarrV; rw [h1, h2, h3]
  unfold zcell at h ⊢
  rw [e1, e2, h4]
  split at h
  · rename_i hc
    rw [if_pos hc]
    exact h.kept hH
  · rename_i hc
    rw [if_neg hc, hH]
    exact h
/-- a write to one cell: the rest stays -/
theorem zW_write {G : zG} {f : Bool} {S S' : zSt} {H H' : Heap} {i : Nat} (h : zW G f S H) (hi : i < zN S) (z : H'.size = H.size) (oq : ∀ q : Nat, q ≠ zb G + i → H'[q]? = H[q]?) (hc : zcell G S' i H')
    (hN : zN S' = zN S) (hA : zA S' = zA S) (h1 : ∀ j k, j ≠ i → zI S' j k = zI S j k) (h2 : ∀ j k, j ≠ i → zL S' j k = zL S j k) (h3 : ∀ j k, j ≠ i → zR S' j k = zR S j k) (hR : f = true → zSR S → zSR S') : zW G f S' H' := by
  obtain ⟨a1, a0, a2, a3, a4⟩ := h
  refine ⟨by rw [z, a1, hN], by rw [hN]; exact a0, fun q hq => ?_, fun j hj => ?_, fun hf => hR hf (a4 hf)⟩
  · rw [oq q (by omega)]
    exact a2 q hq
  · by_cases hji : j = i
    · rw [hji]; exact hc
    · exact zcell_kept (a3 j (by rw [← hN]; exact hj)) (oq _ (by omega)) (fun k => h1 j k hji) (fun k => h2 j k hji) (fun k => h3 j k hji) (by rw [hA])
/-! the judgement over the state -/
def zC (p : Program) (s : State) (m : MethodId) (args : Array Value) (meth : Method) (c : Code) (G : zG) (cc : ByteArray) (nL : Nat) (own : String) : Prop :=
  p.tables.exec = Jvm.exec ∧ c.code = cc ∧ c.maxLocals = nL ∧ s.vm.findClass own = some m.cls ∧ (∀ w ∈ zGW, w.before args s = true) ∧ meth.locks = false ∧ zKK G s
def zJ (p : Program) (l : Launch) (e : Env) (R : Room) (s : State) (m : MethodId) (args : Array Value) (below : List Frame) (meth : Method) (c : Code) (G : zG) (f : Bool) (nL cells slots : Nat) (Q : State → Prop) (S : zSt) (pc : Nat) (ls : List (Nat × zV)) (st : List zV) : Prop :=
  ∀ (H : Heap) (locs : List Loc) (la : Array Slot), zW G f S H → (∀ q ∈ locs, zb G ≤ q.base) → lv_has la nL (zls G ls) → W p l e R s m args below meth c H locs cells slots Q (F0 m pc la (zst G st))
section ZR
variable {p : Program} {l : Launch} {e : Env} {R : Room} {s : State} {m : MethodId} {args : Array Value} {below : List Frame} {meth : Method} {c : Code} {G : zG} {f : Bool} {nL cells slots : Nat} {Q : State → Prop} {S : zSt} {cc : ByteArray} {own : String} {pc : Nat} {ls : List (Nat × zV)} {st : List zV}
theorem z_iconst (C : zC p s m args meth c G cc nL own) {n : Int} (v : Int32) (hv : Int32.ofInt n = v) (d : decode cc pc = .ok (.iconst n, 1)) (k : zJ p l e R s m args below meth c G f nL cells slots Q S (pc + 1) ls (zi v :: st)) : zJ p l e R s m args below meth c G f nL cells slots Q S pc ls st := by
  intro H locs la hW hq hl
  obtain ⟨hx, hb, hml, hown, hts, hlk, hKK⟩ := C
  exact lv_iconst hx hb d hv (k H locs la hW hq hl)
theorem z_bipush (C : zC p s m args meth c G cc nL own) {n : Int} (v : Int32) (hv : (Int8.ofInt n).toInt32 = v) (d : decode cc pc = .ok (.bipush n, 2)) (k : zJ p l e R s m args below meth c G f nL cells slots Q S (pc + 2) ls (zi v :: st)) : zJ p l e R s m args below meth c G f nL cells slots Q S pc ls st := by
  intro H locs la hW hq hl
  obtain ⟨hx, hb, hml, hown, hts, hlk, hKK⟩ := C
  exact lv_bipush hx hb d hv (k H locs la hW hq hl)
theorem z_sipush (C : zC p s m args meth c G cc nL own) {n : Int} (v : Int32) (hv : (Int16.ofInt n).toInt32 = v) (d : decode cc pc = .ok (.sipush n, 3)) (k : zJ p l e R s m args below meth c G f nL cells slots Q S (pc + 3) ls (zi v :: st)) : zJ p l e R s m args below meth c G f nL cells slots Q S pc ls st := by
  intro H locs la hW hq hl
  obtain ⟨hx, hb, hml, hown, hts, hlk, hKK⟩ := C
  exact lv_sipush hx hb d hv (k H locs la hW hq hl)
theorem z_lconst (C : zC p s m args meth c G cc nL own) {n : Fin 2} (v : Int64) (hv : Int64.ofNat (n : Nat) = v) (d : decode cc pc = .ok (.lconst n, 1)) (k : zJ p l e R s m args below meth c G f nL cells slots Q S (pc + 1) ls (zl v :: st)) : zJ p l e R s m args below meth c G f nL cells slots Q S pc ls st := by
  intro H locs la hW hq hl
  obtain ⟨hx, hb, hml, hown, hts, hlk, hKK⟩ := C
  exact lv_lconst hx hb d hv (k H locs la hW hq hl)
theorem z_ldc (C : zC p s m args meth c G cc nL own) {index : Nat} {v : Int32} (hc : Cond.constant own index v ∈ zGW) (d : decode cc pc = .ok (.ldc index, 2)) (k : zJ p l e R s m args below meth c G f nL cells slots Q S (pc + 2) ls (zi v :: st)) : zJ p l e R s m args below meth c G f nL cells slots Q S pc ls st := by
  intro H locs la hW hq hl
  obtain ⟨hx, hb, hml, hown, hts, hlk, hKK⟩ := C
  exact lv_ldc hx hb hown (hts _ hc) d (k H locs la hW hq hl)
theorem z_ldc2 (C : zC p s m args meth c G cc nL own) {index : Nat} {v : Int64} (hc : Cond.constantLong own index v ∈ zGW) (d : decode cc pc = .ok (.ldc2_w index, 3)) (k : zJ p l e R s m args below meth c G f nL cells slots Q S (pc + 3) ls (zl v :: st)) : zJ p l e R s m args below meth c G f nL cells slots Q S pc ls st := by
  intro H locs la hW hq hl
  obtain ⟨hx, hb, hml, hown, hts, hlk, hKK⟩ := C
  exact lv_ldc2 hx hb hown (hts _ hc) d (k H locs la hW hq hl)
theorem z_ldcS (C : zC p s m args meth c G cc nL own) {index : Nat} (j : Nat) (hj : j < 25) (ho : own = zNm 6) (hi : (zSX j).1 = index) (d : decode cc pc = .ok (.ldc index, 2)) (k : zJ p l e R s m args below meth c G f nL cells slots Q S (pc + 2) ls (zr (some (zX + j)) :: st)) : zJ p l e R s m args below meth c G f nL cells slots Q S pc ls st := by
  intro H locs la hW hq hl
  obtain ⟨hx, hb, hml, hown, hts, hlk, hKK⟩ := C
  subst hi
  have e : zad G (zX + j) = G.2.1 j := by unfold zad; rw [if_neg (by omega), Nat.add_sub_cancel_left]
  refine va_ldcS (q := G.2.1 j) (tx := (zSX j).2) hx hb hown (by rw [ho]; exact hKK.2.1 j hj) d ?_
  have h := k H locs la hW hq hl
  unfold zst zr at h
  simp only [List.map_cons, zmv] at h
  rw [e] at h
  exact h
theorem z_null (C : zC p s m args meth c G cc nL own) (d : decode cc pc = .ok (.aconst_null, 1)) (k : zJ p l e R s m args below meth c G f nL cells slots Q S (pc + 1) ls (zr none :: st)) : zJ p l e R s m args below meth c G f nL cells slots Q S pc ls st := by
  intro H locs la hW hq hl
  obtain ⟨hx, hb, hml, hown, hts, hlk, hKK⟩ := C
  exact lv_null hx hb d (k H locs la hW hq hl)
theorem z_iload_n (C : zC p s m args meth c G cc nL own) {k0 : Fin 4} {i : Nat} {x : Int32} (j : Nat) (hj : ls[j]? = some (i, zi x)) (d : decode cc pc = .ok (.iload_n k0, 1)) (hi : (k0 : Nat) = i) (k : zJ p l e R s m args below meth c G f nL cells slots Q S (pc + 1) ls (zi x :: st)) : zJ p l e R s m args below meth c G f nL cells slots Q S pc ls st := by
  intro H locs la hW hq hl
  obtain ⟨hx, hb, hml, hown, hts, hlk, hKK⟩ := C
  exact lv_iload_n hx hb d hi (zls_at hl hj) (k H locs la hW hq hl)
theorem z_iload (C : zC p s m args meth c G cc nL own) {i : Nat} {x : Int32} (j : Nat) (hj : ls[j]? = some (i, zi x)) (d : decode cc pc = .ok (.iload i, 2)) (k : zJ p l e R s m args below meth c G f nL cells slots Q S (pc + 2) ls (zi x :: st)) : zJ p l e R s m args below meth c G f nL cells slots Q S pc ls st := by
  intro H locs la hW hq hl
  obtain ⟨hx, hb, hml, hown, hts, hlk, hKK⟩ := C
  exact lv_iload hx hb d (zls_at hl hj) (k H locs la hW hq hl)
theorem z_lload_n (C : zC p s m args meth c G cc nL own) {k0 : Fin 4} {i : Nat} {x : Int64} (j : Nat) (hj : ls[j]? = some (i, zl x)) (d : decode cc pc = .ok (.lload_n k0, 1)) (hi : (k0 : Nat) = i) (k : zJ p l e R s m args below meth c G f nL cells slots Q S (pc + 1) ls (zl x :: st)) : zJ p l e R s m args below meth c G f nL cells slots Q S pc ls st := by
  intro H locs la hW hq hl
  obtain ⟨hx, hb, hml, hown, hts, hlk, hKK⟩ := C
  exact lv_lload_n hx hb d hi (zls_at hl hj) (k H locs la hW hq hl)
theorem z_lload (C : zC p s m args meth c G cc nL own) {i : Nat} {x : Int64} (j : Nat) (hj : ls[j]? = some (i, zl x)) (d : decode cc pc = .ok (.lload i, 2)) (k : zJ p l e R s m args below meth c G f nL cells slots Q S (pc + 2) ls (zl x :: st)) : zJ p l e R s m args below meth c G f nL cells slots Q S pc ls st := by
  intro H locs la hW hq hl
  obtain ⟨hx, hb, hml, hown, hts, hlk, hKK⟩ := C
  exact lv_lload hx hb d (zls_at hl hj) (k H locs la hW hq hl)
theorem z_aload_n (C : zC p s m args meth c G cc nL own) {k0 : Fin 4} {i : Nat} {x : Option Nat} (j : Nat) (hj : ls[j]? = some (i, zr x)) (d : decode cc pc = .ok (.aload_n k0, 1)) (hi : (k0 : Nat) = i) (k : zJ p l e R s m args below meth c G f nL cells slots Q S (pc + 1) ls (zr x :: st)) : zJ p l e R s m args below meth c G f nL cells slots Q S pc ls st := by
  intro H locs la hW hq hl
  obtain ⟨hx, hb, hml, hown, hts, hlk, hKK⟩ := C
  have h := zls_at hl hj
  cases x with
  | none => exact lv_aload_nN hx hb d hi h (k H locs la hW hq hl)
  | some x => exact lv_aload_n hx hb d hi h (k H locs la hW hq hl)
theorem z_aload (C : zC p s m args meth c G cc nL own) {i : Nat} {x : Option Nat} (j : Nat) (hj : ls[j]? = some (i, zr x)) (d : decode cc pc = .ok (.aload i, 2)) (k : zJ p l e R s m args below meth c G f nL cells slots Q S (pc + 2) ls (zr x :: st)) : zJ p l e R s m args below meth c G f nL cells slots Q S pc ls st := by
  intro H locs la hW hq hl
  obtain ⟨hx, hb, hml, hown, hts, hlk, hKK⟩ := C
  have h := zls_at hl hj
  cases x with
  | none => exact lv_aloadN hx hb d h (k H locs la hW hq hl)
  | some x => exact lv_aload hx hb d h (k H locs la hW hq hl)
theorem z_istore_n (C : zC p s m args meth c G cc nL own) {k0 : Fin 4} {i : Nat} {x : Int32} (ls1 : List (Nat × zV)) (d : decode cc pc = .ok (.istore_n k0, 1)) (hi : (k0 : Nat) = i) (hn : i < nL) (hz : zput ls i (zi x) = ls1) (k : zJ p l e R s m args below meth c G f nL cells slots Q S (pc + 1) ls1 st) : zJ p l e R s m args below meth c G f nL cells slots Q S pc ls (zi x :: st) := by
  intro H locs la hW hq hl
  obtain ⟨hx, hb, hml, hown, hts, hlk, hKK⟩ := C
  subst hz
  refine lv_istore_n hx hb d hi hl hn rfl (fun la1 hl1 => ?_)
  exact k H locs la1 hW hq (by rw [zls_f1] at hl1; exact hl1)
theorem z_istore (C : zC p s m args meth c G cc nL own) {i : Nat} {x : Int32} (ls1 : List (Nat × zV)) (d : decode cc pc = .ok (.istore i, 2)) (hn : i < nL) (hz : zput ls i (zi x) = ls1) (k : zJ p l e R s m args below meth c G f nL cells slots Q S (pc + 2) ls1 st) : zJ p l e R s m args below meth c G f nL cells slots Q S pc ls (zi x :: st) := by
  intro H locs la hW hq hl
  obtain ⟨hx, hb, hml, hown, hts, hlk, hKK⟩ := C
  subst hz
  refine lv_istore hx hb d hl hn rfl (fun la1 hl1 => ?_)
  exact k H locs la1 hW hq (by rw [zls_f1] at hl1; exact hl1)
theorem z_lstore_n (C : zC p s m args meth c G cc nL own) {k0 : Fin 4} {i : Nat} {x : Int64} (ls1 : List (Nat × zV)) (d : decode cc pc = .ok (.lstore_n k0, 1)) (hi : (k0 : Nat) = i) (hn : i + 1 < nL) (hz : zput ls i (zl x) = ls1) (k : zJ p l e R s m args below meth c G f nL cells slots Q S (pc + 1) ls1 st) : zJ p l e R s m args below meth c G f nL cells slots Q S pc ls (zl x :: st) := by
  intro H locs la hW hq hl
  obtain ⟨hx, hb, hml, hown, hts, hlk, hKK⟩ := C
  subst hz
  refine lv_lstore_n hx hb d hi hl hn rfl (fun la1 hl1 => ?_)
  exact k H locs la1 hW hq (by rw [zls_f2] at hl1; exact hl1)
theorem z_lstore (C : zC p s m args meth c G cc nL own) {i : Nat} {x : Int64} (ls1 : List (Nat × zV)) (d : decode cc pc = .ok (.lstore i, 2)) (hn : i + 1 < nL) (hz : zput ls i (zl x) = ls1) (k : zJ p l e R s m args below meth c G f nL cells slots Q S (pc + 2) ls1 st) : zJ p l e R s m args below meth c G f nL cells slots Q S pc ls (zl x :: st) := by
  intro H locs la hW hq hl
  obtain ⟨hx, hb, hml, hown, hts, hlk, hKK⟩ := C
  subst hz
  refine lv_lstore hx hb d hl hn rfl (fun la1 hl1 => ?_)
  exact k H locs la1 hW hq (by rw [zls_f2] at hl1; exact hl1)
theorem z_astore_n (C : zC p s m args meth c G cc nL own) {k0 : Fin 4} {i : Nat} {x : Option Nat} (ls1 : List (Nat × zV)) (d : decode cc pc = .ok (.astore_n k0, 1)) (hi : (k0 : Nat) = i) (hn : i < nL) (hz : zput ls i (zr x) = ls1) (k : zJ p l e R s m args below meth c G f nL cells slots Q S (pc + 1) ls1 st) : zJ p l e R s m args below meth c G f nL cells slots Q S pc ls (zr x :: st) := by
  intro H locs la hW hq hl
  obtain ⟨hx, hb, hml, hown, hts, hlk, hKK⟩ := C
  subst hz
  cases x with
  | none =>
    refine lv_astore_nN hx hb d hi hl hn rfl (fun la1 hl1 => ?_)
    exact k H locs la1 hW hq (by rw [zls_f1] at hl1; exact hl1)
  | some x =>
    refine lv_astore_n hx hb d hi hl hn rfl (fun la1 hl1 => ?_)
    exact k H locs la1 hW hq (by rw [zls_f1] at hl1; exact hl1)
theorem z_astore (C : zC p s m args meth c G cc nL own) {i : Nat} {x : Option Nat} (ls1 : List (Nat × zV)) (d : decode cc pc = .ok (.astore i, 2)) (hn : i < nL) (hz : zput ls i (zr x) = ls1) (k : zJ p l e R s m args below meth c G f nL cells slots Q S (pc + 2) ls1 st) : zJ p l e R s m args below meth c G f nL cells slots Q S pc ls (zr x :: st) := by
  intro H locs la hW hq hl
  obtain ⟨hx, hb, hml, hown, hts, hlk, hKK⟩ := C
  subst hz
  cases x with
  | none =>
    refine lv_astoreN hx hb d hl hn rfl (fun la1 hl1 => ?_)
    exact k H locs la1 hW hq (by rw [zls_f1] at hl1; exact hl1)
  | some x =>
    refine lv_astore hx hb d hl hn rfl (fun la1 hl1 => ?_)
    exact k H locs la1 hW hq (by rw [zls_f1] at hl1; exact hl1)
theorem z_iinc (C : zC p s m args meth c G cc nL own) {i : Nat} {n : Int} {x : Int32} (j : Nat) (v : Int32) (ls1 : List (Nat × zV)) (hj : ls[j]? = some (i, zi x)) (d : decode cc pc = .ok (.iinc i n, 3)) (hv : x + Int32.ofInt n = v) (hn : i < nL) (hz : zput ls i (zi v) = ls1) (k : zJ p l e R s m args below meth c G f nL cells slots Q S (pc + 3) ls1 st) : zJ p l e R s m args below meth c G f nL cells slots Q S pc ls st := by
  intro H locs la hW hq hl
  obtain ⟨hx, hb, hml, hown, hts, hlk, hKK⟩ := C
  subst hz
  refine lv_iinc (k := j) hx hb d hl (by simp [zls, hj, zmv]) hv hn rfl (fun la1 hl1 => ?_)
  exact k H locs la1 hW hq (by rw [zls_f1] at hl1; exact hl1)
theorem z_iadd (C : zC p s m args meth c G cc nL own) {x y : Int32} (d : decode cc pc = .ok (.iadd, 1)) (k : zJ p l e R s m args below meth c G f nL cells slots Q S (pc + 1) ls (zi (x + y) :: st)) : zJ p l e R s m args below meth c G f nL cells slots Q S pc ls (zi y :: zi x :: st) := by
  intro H locs la hW hq hl
  obtain ⟨hx, hb, hml, hown, hts, hlk, hKK⟩ := C
  exact lv_iadd hx hb d (k H locs la hW hq hl)
theorem z_isub (C : zC p s m args meth c G cc nL own) {x y : Int32} (d : decode cc pc = .ok (.isub, 1)) (k : zJ p l e R s m args below meth c G f nL cells slots Q S (pc + 1) ls (zi (x - y) :: st)) : zJ p l e R s m args below meth c G f nL cells slots Q S pc ls (zi y :: zi x :: st) := by
  intro H locs la hW hq hl
  obtain ⟨hx, hb, hml, hown, hts, hlk, hKK⟩ := C
  exact lv_isub hx hb d (k H locs la hW hq hl)
theorem z_imul (C : zC p s m args meth c G cc nL own) {x y : Int32} (d : decode cc pc = .ok (.imul, 1)) (k : zJ p l e R s m args below meth c G f nL cells slots Q S (pc + 1) ls (zi (x * y) :: st)) : zJ p l e R s m args below meth c G f nL cells slots Q S pc ls (zi y :: zi x :: st) := by
  intro H locs la hW hq hl
  obtain ⟨hx, hb, hml, hown, hts, hlk, hKK⟩ := C
  exact lv_imul hx hb d (k H locs la hW hq hl)
theorem z_iand (C : zC p s m args meth c G cc nL own) {x y : Int32} (d : decode cc pc = .ok (.iand, 1)) (k : zJ p l e R s m args below meth c G f nL cells slots Q S (pc + 1) ls (zi (x &&& y) :: st)) : zJ p l e R s m args below meth c G f nL cells slots Q S pc ls (zi y :: zi x :: st) := by
  intro H locs la hW hq hl
  obtain ⟨hx, hb, hml, hown, hts, hlk, hKK⟩ := C
  exact lv_iand hx hb d (k H locs la hW hq hl)
theorem z_ior (C : zC p s m args meth c G cc nL own) {x y : Int32} (d : decode cc pc = .ok (.ior, 1)) (k : zJ p l e R s m args below meth c G f nL cells slots Q S (pc + 1) ls (zi (x ||| y) :: st)) : zJ p l e R s m args below meth c G f nL cells slots Q S pc ls (zi y :: zi x :: st) := by
  intro H locs la hW hq hl
  obtain ⟨hx, hb, hml, hown, hts, hlk, hKK⟩ := C
  exact lv_ior hx hb d (k H locs la hW hq hl)
theorem z_ixor (C : zC p s m args meth c G cc nL own) {x y : Int32} (d : decode cc pc = .ok (.ixor, 1)) (k : zJ p l e R s m args below meth c G f nL cells slots Q S (pc + 1) ls (zi (x ^^^ y) :: st)) : zJ p l e R s m args below meth c G f nL cells slots Q S pc ls (zi y :: zi x :: st) := by
  intro H locs la hW hq hl
  obtain ⟨hx, hb, hml, hown, hts, hlk, hKK⟩ := C
  exact lv_ixor hx hb d (k H locs la hW hq hl)
theorem z_idiv (C : zC p s m args meth c G cc nL own) {x y : Int32} (hne : ¬ y = 0) (d : decode cc pc = .ok (.idiv, 1)) (k : zJ p l e R s m args below meth c G f nL cells slots Q S (pc + 1) ls (zi (x / y) :: st)) : zJ p l e R s m args below meth c G f nL cells slots Q S pc ls (zi y :: zi x :: st) := by
  intro H locs la hW hq hl
  obtain ⟨hx, hb, hml, hown, hts, hlk, hKK⟩ := C
  exact lv_idiv hx hb d hne (k H locs la hW hq hl)
theorem z_irem (C : zC p s m args meth c G cc nL own) {x y : Int32} (hne : ¬ y = 0) (d : decode cc pc = .ok (.irem, 1)) (k : zJ p l e R s m args below meth c G f nL cells slots Q S (pc + 1) ls (zi (x - x / y * y) :: st)) : zJ p l e R s m args below meth c G f nL cells slots Q S pc ls (zi y :: zi x :: st) := by
  intro H locs la hW hq hl
  obtain ⟨hx, hb, hml, hown, hts, hlk, hKK⟩ := C
  exact lv_irem hx hb d hne (k H locs la hW hq hl)
theorem z_ineg (C : zC p s m args meth c G cc nL own) {x : Int32} (d : decode cc pc = .ok (.ineg, 1)) (k : zJ p l e R s m args below meth c G f nL cells slots Q S (pc + 1) ls (zi (-x) :: st)) : zJ p l e R s m args below meth c G f nL cells slots Q S pc ls (zi x :: st) := by
  intro H locs la hW hq hl
  obtain ⟨hx, hb, hml, hown, hts, hlk, hKK⟩ := C
  exact lv_ineg hx hb d (k H locs la hW hq hl)
theorem z_ladd (C : zC p s m args meth c G cc nL own) {x y : Int64} (d : decode cc pc = .ok (.ladd, 1)) (k : zJ p l e R s m args below meth c G f nL cells slots Q S (pc + 1) ls (zl (x + y) :: st)) : zJ p l e R s m args below meth c G f nL cells slots Q S pc ls (zl y :: zl x :: st) := by
  intro H locs la hW hq hl
  obtain ⟨hx, hb, hml, hown, hts, hlk, hKK⟩ := C
  exact lv_ladd hx hb d (k H locs la hW hq hl)
theorem z_lsub (C : zC p s m args meth c G cc nL own) {x y : Int64} (d : decode cc pc = .ok (.lsub, 1)) (k : zJ p l e R s m args below meth c G f nL cells slots Q S (pc + 1) ls (zl (x - y) :: st)) : zJ p l e R s m args below meth c G f nL cells slots Q S pc ls (zl y :: zl x :: st) := by
  intro H locs la hW hq hl
  obtain ⟨hx, hb, hml, hown, hts, hlk, hKK⟩ := C
  exact lv_lsub hx hb d (k H locs la hW hq hl)
theorem z_lmul (C : zC p s m args meth c G cc nL own) {x y : Int64} (d : decode cc pc = .ok (.lmul, 1)) (k : zJ p l e R s m args below meth c G f nL cells slots Q S (pc + 1) ls (zl (x * y) :: st)) : zJ p l e R s m args below meth c G f nL cells slots Q S pc ls (zl y :: zl x :: st) := by
  intro H locs la hW hq hl
  obtain ⟨hx, hb, hml, hown, hts, hlk, hKK⟩ := C
  exact lv_lmul hx hb d (k H locs la hW hq hl)
theorem z_land (C : zC p s m args meth c G cc nL own) {x y : Int64} (d : decode cc pc = .ok (.land, 1)) (k : zJ p l e R s m args below meth c G f nL cells slots Q S (pc + 1) ls (zl (x &&& y) :: st)) : zJ p l e R s m args below meth c G f nL cells slots Q S pc ls (zl y :: zl x :: st) := by
  intro H locs la hW hq hl
  obtain ⟨hx, hb, hml, hown, hts, hlk, hKK⟩ := C
  exact lv_land hx hb d (k H locs la hW hq hl)
theorem z_lor (C : zC p s m args meth c G cc nL own) {x y : Int64} (d : decode cc pc = .ok (.lor, 1)) (k : zJ p l e R s m args below meth c G f nL cells slots Q S (pc + 1) ls (zl (x ||| y) :: st)) : zJ p l e R s m args below meth c G f nL cells slots Q S pc ls (zl y :: zl x :: st) := by
  intro H locs la hW hq hl
  obtain ⟨hx, hb, hml, hown, hts, hlk, hKK⟩ := C
  exact lv_lor hx hb d (k H locs la hW hq hl)
theorem z_lxor (C : zC p s m args meth c G cc nL own) {x y : Int64} (d : decode cc pc = .ok (.lxor, 1)) (k : zJ p l e R s m args below meth c G f nL cells slots Q S (pc + 1) ls (zl (x ^^^ y) :: st)) : zJ p l e R s m args below meth c G f nL cells slots Q S pc ls (zl y :: zl x :: st) := by
  intro H locs la hW hq hl
  obtain ⟨hx, hb, hml, hown, hts, hlk, hKK⟩ := C
  exact lv_lxor hx hb d (k H locs la hW hq hl)
theorem z_ldiv (C : zC p s m args meth c G cc nL own) {x y : Int64} (hne : ¬ y = 0) (d : decode cc pc = .ok (.ldiv, 1)) (k : zJ p l e R s m args below meth c G f nL cells slots Q S (pc + 1) ls (zl (x / y) :: st)) : zJ p l e R s m args below meth c G f nL cells slots Q S pc ls (zl y :: zl x :: st) := by
  intro H locs la hW hq hl
  obtain ⟨hx, hb, hml, hown, hts, hlk, hKK⟩ := C
  exact lv_ldiv hx hb d hne (k H locs la hW hq hl)
theorem z_lrem (C : zC p s m args meth c G cc nL own) {x y : Int64} (hne : ¬ y = 0) (d : decode cc pc = .ok (.lrem, 1)) (k : zJ p l e R s m args below meth c G f nL cells slots Q S (pc + 1) ls (zl (x - x / y * y) :: st)) : zJ p l e R s m args below meth c G f nL cells slots Q S pc ls (zl y :: zl x :: st) := by
  intro H locs la hW hq hl
  obtain ⟨hx, hb, hml, hown, hts, hlk, hKK⟩ := C
  exact lv_lrem hx hb d hne (k H locs la hW hq hl)
theorem z_ishl (C : zC p s m args meth c G cc nL own) {x y : Int32} (d : decode cc pc = .ok (.ishl, 1)) (k : zJ p l e R s m args below meth c G f nL cells slots Q S (pc + 1) ls (zi (x <<< (y &&& 31)) :: st)) : zJ p l e R s m args below meth c G f nL cells slots Q S pc ls (zi y :: zi x :: st) := by
  intro H locs la hW hq hl
  obtain ⟨hx, hb, hml, hown, hts, hlk, hKK⟩ := C
  exact lv_ishl hx hb d (k H locs la hW hq hl)
theorem z_ishr (C : zC p s m args meth c G cc nL own) {x y : Int32} (d : decode cc pc = .ok (.ishr, 1)) (k : zJ p l e R s m args below meth c G f nL cells slots Q S (pc + 1) ls (zi (x >>> (y &&& 31)) :: st)) : zJ p l e R s m args below meth c G f nL cells slots Q S pc ls (zi y :: zi x :: st) := by
  intro H locs la hW hq hl
  obtain ⟨hx, hb, hml, hown, hts, hlk, hKK⟩ := C
  exact lv_ishr hx hb d (k H locs la hW hq hl)
theorem z_lshl (C : zC p s m args meth c G cc nL own) {x : Int64} {y : Int32} (d : decode cc pc = .ok (.lshl, 1)) (k : zJ p l e R s m args below meth c G f nL cells slots Q S (pc + 1) ls (zl (x <<< (y.toInt64 &&& 63)) :: st)) : zJ p l e R s m args below meth c G f nL cells slots Q S pc ls (zi y :: zl x :: st) := by
  intro H locs la hW hq hl
  obtain ⟨hx, hb, hml, hown, hts, hlk, hKK⟩ := C
  exact lv_lshl hx hb d rfl (k H locs la hW hq hl)
theorem z_lshr (C : zC p s m args meth c G cc nL own) {x : Int64} {y : Int32} (d : decode cc pc = .ok (.lshr, 1)) (k : zJ p l e R s m args below meth c G f nL cells slots Q S (pc + 1) ls (zl (x >>> (y.toInt64 &&& 63)) :: st)) : zJ p l e R s m args below meth c G f nL cells slots Q S pc ls (zi y :: zl x :: st) := by
  intro H locs la hW hq hl
  obtain ⟨hx, hb, hml, hown, hts, hlk, hKK⟩ := C
  exact lv_lshr hx hb d rfl (k H locs la hW hq hl)
theorem z_lushr (C : zC p s m args meth c G cc nL own) {x : Int64} {y : Int32} (d : decode cc pc = .ok (.lushr, 1)) (k : zJ p l e R s m args below meth c G f nL cells slots Q S (pc + 1) ls (zl ((x.toUInt64 >>> (y.toInt64.toUInt64 &&& Int64.toUInt64 63)).toInt64) :: st)) : zJ p l e R s m args below meth c G f nL cells slots Q S pc ls (zi y :: zl x :: st) := by
  intro H locs la hW hq hl
  obtain ⟨hx, hb, hml, hown, hts, hlk, hKK⟩ := C
  exact lv_lushr hx hb d rfl (k H locs la hW hq hl)
theorem z_i2l (C : zC p s m args meth c G cc nL own) {x : Int32} (d : decode cc pc = .ok (.i2l, 1)) (k : zJ p l e R s m args below meth c G f nL cells slots Q S (pc + 1) ls (zl x.toInt64 :: st)) : zJ p l e R s m args below meth c G f nL cells slots Q S pc ls (zi x :: st) := by
  intro H locs la hW hq hl
  obtain ⟨hx, hb, hml, hown, hts, hlk, hKK⟩ := C
  exact lv_i2l hx hb d rfl (k H locs la hW hq hl)
theorem z_l2i (C : zC p s m args meth c G cc nL own) {x : Int64} (d : decode cc pc = .ok (.l2i, 1)) (k : zJ p l e R s m args below meth c G f nL cells slots Q S (pc + 1) ls (zi x.toInt32 :: st)) : zJ p l e R s m args below meth c G f nL cells slots Q S pc ls (zl x :: st) := by
  intro H locs la hW hq hl
  obtain ⟨hx, hb, hml, hown, hts, hlk, hKK⟩ := C
  exact lv_l2i hx hb d rfl (k H locs la hW hq hl)
theorem z_i2b (C : zC p s m args meth c G cc nL own) {x : Int32} (d : decode cc pc = .ok (.i2b, 1)) (k : zJ p l e R s m args below meth c G f nL cells slots Q S (pc + 1) ls (zi x.toInt8.toInt32 :: st)) : zJ p l e R s m args below meth c G f nL cells slots Q S pc ls (zi x :: st) := by
  intro H locs la hW hq hl
  obtain ⟨hx, hb, hml, hown, hts, hlk, hKK⟩ := C
  exact lv_i2b hx hb d rfl (k H locs la hW hq hl)
theorem z_lcmp (C : zC p s m args meth c G cc nL own) {x y : Int64} (d : decode cc pc = .ok (.lcmp, 1)) (k : zJ p l e R s m args below meth c G f nL cells slots Q S (pc + 1) ls (zi (lg_cmp x y) :: st)) : zJ p l e R s m args below meth c G f nL cells slots Q S pc ls (zl y :: zl x :: st) := by
  intro H locs la hW hq hl
  obtain ⟨hx, hb, hml, hown, hts, hlk, hKK⟩ := C
  exact W.lcmp hx hb d (k H locs la hW hq hl)
theorem z_dup (C : zC p s m args meth c G cc nL own) {v : zV} (hv : zcat v = 1) (d : decode cc pc = .ok (.dup, 1)) (k : zJ p l e R s m args below meth c G f nL cells slots Q S (pc + 1) ls (v :: v :: st)) : zJ p l e R s m args below meth c G f nL cells slots Q S pc ls (v :: st) := by
  intro H locs la hW hq hl
  obtain ⟨hx, hb, hml, hown, hts, hlk, hKK⟩ := C
  exact lv_dup hx hb d (by rw [zmv_cat]; exact hv) (k H locs la hW hq hl)
theorem z_pop (C : zC p s m args meth c G cc nL own) {v : zV} (hv : zcat v = 1) (d : decode cc pc = .ok (.pop, 1)) (k : zJ p l e R s m args below meth c G f nL cells slots Q S (pc + 1) ls st) : zJ p l e R s m args below meth c G f nL cells slots Q S pc ls (v :: st) := by
  intro H locs la hW hq hl
  obtain ⟨hx, hb, hml, hown, hts, hlk, hKK⟩ := C
  exact lv_pop hx hb d (by rw [zmv_cat]; exact hv) (k H locs la hW hq hl)
theorem z_dup2 (C : zC p s m args meth c G cc nL own) {v w : zV} (hv : zcat v = 1) (hw : zcat w = 1) (d : decode cc pc = .ok (.dup2, 1)) (k : zJ p l e R s m args below meth c G f nL cells slots Q S (pc + 1) ls (v :: w :: v :: w :: st)) : zJ p l e R s m args below meth c G f nL cells slots Q S pc ls (v :: w :: st) := by
  intro H locs la hW hq hl
  obtain ⟨hx, hb, hml, hown, hts, hlk, hKK⟩ := C
  exact lv_dup2_11 hx hb d (by rw [zmv_cat]; exact hv) (by rw [zmv_cat]; exact hw) (k H locs la hW hq hl)
theorem z_dup_x1 (C : zC p s m args meth c G cc nL own) {v w : zV} (hv : zcat v = 1) (hw : zcat w = 1) (d : decode cc pc = .ok (.dup_x1, 1)) (k : zJ p l e R s m args below meth c G f nL cells slots Q S (pc + 1) ls (v :: w :: v :: st)) : zJ p l e R s m args below meth c G f nL cells slots Q S pc ls (v :: w :: st) := by
  intro H locs la hW hq hl
  obtain ⟨hx, hb, hml, hown, hts, hlk, hKK⟩ := C
  exact lv_dup_x1 hx hb d (by rw [zmv_cat]; exact hv) (by rw [zmv_cat]; exact hw) (k H locs la hW hq hl)
theorem z_if_eqt (C : zC p s m args meth c G cc nL own) {x : Int32} {off : Int} (tgt : Nat) (h : x = 0) (d : decode cc pc = .ok (.ifCond .eq off, 3)) (ht : (pc : Int) + off = (tgt : Int)) (k : zJ p l e R s m args below meth c G f nL cells slots Q S tgt ls st) : zJ p l e R s m args below meth c G f nL cells slots Q S pc ls (zi x :: st) := by
  intro H locs la hW hq hl
  obtain ⟨hx, hb, hml, hown, hts, hlk, hKK⟩ := C
  exact lv_if_eq (tgt := tgt) hx hb d ht (fun h1 => k H locs la hW hq hl) (fun h1 => absurd h h1)
theorem z_if_eqf (C : zC p s m args meth c G cc nL own) {x : Int32} {off : Int} (tgt : Nat) (h : ¬ x = 0) (d : decode cc pc = .ok (.ifCond .eq off, 3)) (ht : (pc : Int) + off = (tgt : Int)) (k : zJ p l e R s m args below meth c G f nL cells slots Q S (pc + 3) ls st) : zJ p l e R s m args below meth c G f nL cells slots Q S pc ls (zi x :: st) := by
  intro H locs la hW hq hl
  obtain ⟨hx, hb, hml, hown, hts, hlk, hKK⟩ := C
  exact lv_if_eq (tgt := tgt) hx hb d ht (fun h1 => absurd h1 h) (fun h1 => k H locs la hW hq hl)
theorem z_if_net (C : zC p s m args meth c G cc nL own) {x : Int32} {off : Int} (tgt : Nat) (h : ¬ x = 0) (d : decode cc pc = .ok (.ifCond .ne off, 3)) (ht : (pc : Int) + off = (tgt : Int)) (k : zJ p l e R s m args below meth c G f nL cells slots Q S tgt ls st) : zJ p l e R s m args below meth c G f nL cells slots Q S pc ls (zi x :: st) := by
  intro H locs la hW hq hl
  obtain ⟨hx, hb, hml, hown, hts, hlk, hKK⟩ := C
  exact lv_if_ne (tgt := tgt) hx hb d ht (fun h1 => k H locs la hW hq hl) (fun h1 => absurd h1 h)
theorem z_if_nef (C : zC p s m args meth c G cc nL own) {x : Int32} {off : Int} (tgt : Nat) (h : x = 0) (d : decode cc pc = .ok (.ifCond .ne off, 3)) (ht : (pc : Int) + off = (tgt : Int)) (k : zJ p l e R s m args below meth c G f nL cells slots Q S (pc + 3) ls st) : zJ p l e R s m args below meth c G f nL cells slots Q S pc ls (zi x :: st) := by
  intro H locs la hW hq hl
  obtain ⟨hx, hb, hml, hown, hts, hlk, hKK⟩ := C
  exact lv_if_ne (tgt := tgt) hx hb d ht (fun h1 => absurd h h1) (fun h1 => k H locs la hW hq hl)
theorem z_if_ltt (C : zC p s m args meth c G cc nL own) {x : Int32} {off : Int} (tgt : Nat) (h : x < 0) (d : decode cc pc = .ok (.ifCond .lt off, 3)) (ht : (pc : Int) + off = (tgt : Int)) (k : zJ p l e R s m args below meth c G f nL cells slots Q S tgt ls st) : zJ p l e R s m args below meth c G f nL cells slots Q S pc ls (zi x :: st) := by
  intro H locs la hW hq hl
  obtain ⟨hx, hb, hml, hown, hts, hlk, hKK⟩ := C
  exact lv_if_lt (tgt := tgt) hx hb d ht (fun h1 => k H locs la hW hq hl) (fun h1 => absurd h h1)
theorem z_if_ltf (C : zC p s m args meth c G cc nL own) {x : Int32} {off : Int} (tgt : Nat) (h : ¬ x < 0) (d : decode cc pc = .ok (.ifCond .lt off, 3)) (ht : (pc : Int) + off = (tgt : Int)) (k : zJ p l e R s m args below meth c G f nL cells slots Q S (pc + 3) ls st) : zJ p l e R s m args below meth c G f nL cells slots Q S pc ls (zi x :: st) := by
  intro H locs la hW hq hl
  obtain ⟨hx, hb, hml, hown, hts, hlk, hKK⟩ := C
  exact lv_if_lt (tgt := tgt) hx hb d ht (fun h1 => absurd h1 h) (fun h1 => k H locs la hW hq hl)
theorem z_if_get (C : zC p s m args meth c G cc nL own) {x : Int32} {off : Int} (tgt : Nat) (h : 0 ≤ x) (d : decode cc pc = .ok (.ifCond .ge off, 3)) (ht : (pc : Int) + off = (tgt : Int)) (k : zJ p l e R s m args below meth c G f nL cells slots Q S tgt ls st) : zJ p l e R s m args below meth c G f nL cells slots Q S pc ls (zi x :: st) := by
  intro H locs la hW hq hl
  obtain ⟨hx, hb, hml, hown, hts, hlk, hKK⟩ := C
  exact lv_if_ge (tgt := tgt) hx hb d ht (fun h1 => k H locs la hW hq hl) (fun h1 => absurd h h1)
theorem z_if_gef (C : zC p s m args meth c G cc nL own) {x : Int32} {off : Int} (tgt : Nat) (h : ¬ 0 ≤ x) (d : decode cc pc = .ok (.ifCond .ge off, 3)) (ht : (pc : Int) + off = (tgt : Int)) (k : zJ p l e R s m args below meth c G f nL cells slots Q S (pc + 3) ls st) : zJ p l e R s m args below meth c G f nL cells slots Q S pc ls (zi x :: st) := by
  intro H locs la hW hq hl
  obtain ⟨hx, hb, hml, hown, hts, hlk, hKK⟩ := C
  exact lv_if_ge (tgt := tgt) hx hb d ht (fun h1 => absurd h1 h) (fun h1 => k H locs la hW hq hl)
theorem z_if_gtt (C : zC p s m args meth c G cc nL own) {x : Int32} {off : Int} (tgt : Nat) (h : 0 < x) (d : decode cc pc = .ok (.ifCond .gt off, 3)) (ht : (pc : Int) + off = (tgt : Int)) (k : zJ p l e R s m args below meth c G f nL cells slots Q S tgt ls st) : zJ p l e R s m args below meth c G f nL cells slots Q S pc ls (zi x :: st) := by
  intro H locs la hW hq hl
  obtain ⟨hx, hb, hml, hown, hts, hlk, hKK⟩ := C
  exact lv_if_gt (tgt := tgt) hx hb d ht (fun h1 => k H locs la hW hq hl) (fun h1 => absurd h h1)
theorem z_if_gtf (C : zC p s m args meth c G cc nL own) {x : Int32} {off : Int} (tgt : Nat) (h : ¬ 0 < x) (d : decode cc pc = .ok (.ifCond .gt off, 3)) (ht : (pc : Int) + off = (tgt : Int)) (k : zJ p l e R s m args below meth c G f nL cells slots Q S (pc + 3) ls st) : zJ p l e R s m args below meth c G f nL cells slots Q S pc ls (zi x :: st) := by
  intro H locs la hW hq hl
  obtain ⟨hx, hb, hml, hown, hts, hlk, hKK⟩ := C
  exact lv_if_gt (tgt := tgt) hx hb d ht (fun h1 => absurd h1 h) (fun h1 => k H locs la hW hq hl)
theorem z_if_let (C : zC p s m args meth c G cc nL own) {x : Int32} {off : Int} (tgt : Nat) (h : x ≤ 0) (d : decode cc pc = .ok (.ifCond .le off, 3)) (ht : (pc : Int) + off = (tgt : Int)) (k : zJ p l e R s m args below meth c G f nL cells slots Q S tgt ls st) : zJ p l e R s m args below meth c G f nL cells slots Q S pc ls (zi x :: st) := by
  intro H locs la hW hq hl
  obtain ⟨hx, hb, hml, hown, hts, hlk, hKK⟩ := C
  exact lv_if_le (tgt := tgt) hx hb d ht (fun h1 => k H locs la hW hq hl) (fun h1 => absurd h h1)
theorem z_if_lef (C : zC p s m args meth c G cc nL own) {x : Int32} {off : Int} (tgt : Nat) (h : ¬ x ≤ 0) (d : decode cc pc = .ok (.ifCond .le off, 3)) (ht : (pc : Int) + off = (tgt : Int)) (k : zJ p l e R s m args below meth c G f nL cells slots Q S (pc + 3) ls st) : zJ p l e R s m args below meth c G f nL cells slots Q S pc ls (zi x :: st) := by
  intro H locs la hW hq hl
  obtain ⟨hx, hb, hml, hown, hts, hlk, hKK⟩ := C
  exact lv_if_le (tgt := tgt) hx hb d ht (fun h1 => absurd h1 h) (fun h1 => k H locs la hW hq hl)
theorem z_icmp_eqt (C : zC p s m args meth c G cc nL own) {x y : Int32} {off : Int} (tgt : Nat) (h : x = y) (d : decode cc pc = .ok (.if_icmp .eq off, 3)) (ht : (pc : Int) + off = (tgt : Int)) (k : zJ p l e R s m args below meth c G f nL cells slots Q S tgt ls st) : zJ p l e R s m args below meth c G f nL cells slots Q S pc ls (zi y :: zi x :: st) := by
  intro H locs la hW hq hl
  obtain ⟨hx, hb, hml, hown, hts, hlk, hKK⟩ := C
  exact lv_icmp_eq (tgt := tgt) hx hb d ht (fun h1 => k H locs la hW hq hl) (fun h1 => absurd h h1)
theorem z_icmp_eqf (C : zC p s m args meth c G cc nL own) {x y : Int32} {off : Int} (tgt : Nat) (h : ¬ x = y) (d : decode cc pc = .ok (.if_icmp .eq off, 3)) (ht : (pc : Int) + off = (tgt : Int)) (k : zJ p l e R s m args below meth c G f nL cells slots Q S (pc + 3) ls st) : zJ p l e R s m args below meth c G f nL cells slots Q S pc ls (zi y :: zi x :: st) := by
  intro H locs la hW hq hl
  obtain ⟨hx, hb, hml, hown, hts, hlk, hKK⟩ := C
  exact lv_icmp_eq (tgt := tgt) hx hb d ht (fun h1 => absurd h1 h) (fun h1 => k H locs la hW hq hl)
theorem z_icmp_net (C : zC p s m args meth c G cc nL own) {x y : Int32} {off : Int} (tgt : Nat) (h : ¬ x = y) (d : decode cc pc = .ok (.if_icmp .ne off, 3)) (ht : (pc : Int) + off = (tgt : Int)) (k : zJ p l e R s m args below meth c G f nL cells slots Q S tgt ls st) : zJ p l e R s m args below meth c G f nL cells slots Q S pc ls (zi y :: zi x :: st) := by
  intro H locs la hW hq hl
  obtain ⟨hx, hb, hml, hown, hts, hlk, hKK⟩ := C
  exact lv_icmp_ne (tgt := tgt) hx hb d ht (fun h1 => k H locs la hW hq hl) (fun h1 => absurd h1 h)
theorem z_icmp_nef (C : zC p s m args meth c G cc nL own) {x y : Int32} {off : Int} (tgt : Nat) (h : x = y) (d : decode cc pc = .ok (.if_icmp .ne off, 3)) (ht : (pc : Int) + off = (tgt : Int)) (k : zJ p l e R s m args below meth c G f nL cells slots Q S (pc + 3) ls st) : zJ p l e R s m args below meth c G f nL cells slots Q S pc ls (zi y :: zi x :: st) := by
  intro H locs la hW hq hl
  obtain ⟨hx, hb, hml, hown, hts, hlk, hKK⟩ := C
  exact lv_icmp_ne (tgt := tgt) hx hb d ht (fun h1 => absurd h h1) (fun h1 => k H locs la hW hq hl)
theorem z_icmp_ltt (C : zC p s m args meth c G cc nL own) {x y : Int32} {off : Int} (tgt : Nat) (h : x < y) (d : decode cc pc = .ok (.if_icmp .lt off, 3)) (ht : (pc : Int) + off = (tgt : Int)) (k : zJ p l e R s m args below meth c G f nL cells slots Q S tgt ls st) : zJ p l e R s m args below meth c G f nL cells slots Q S pc ls (zi y :: zi x :: st) := by
  intro H locs la hW hq hl
  obtain ⟨hx, hb, hml, hown, hts, hlk, hKK⟩ := C
  exact lv_icmp_lt (tgt := tgt) hx hb d ht (fun h1 => k H locs la hW hq hl) (fun h1 => absurd h h1)
theorem z_icmp_ltf (C : zC p s m args meth c G cc nL own) {x y : Int32} {off : Int} (tgt : Nat) (h : ¬ x < y) (d : decode cc pc = .ok (.if_icmp .lt off, 3)) (ht : (pc : Int) + off = (tgt : Int)) (k : zJ p l e R s m args below meth c G f nL cells slots Q S (pc + 3) ls st) : zJ p l e R s m args below meth c G f nL cells slots Q S pc ls (zi y :: zi x :: st) := by
  intro H locs la hW hq hl
  obtain ⟨hx, hb, hml, hown, hts, hlk, hKK⟩ := C
  exact lv_icmp_lt (tgt := tgt) hx hb d ht (fun h1 => absurd h1 h) (fun h1 => k H locs la hW hq hl)
theorem z_icmp_get (C : zC p s m args meth c G cc nL own) {x y : Int32} {off : Int} (tgt : Nat) (h : y ≤ x) (d : decode cc pc = .ok (.if_icmp .ge off, 3)) (ht : (pc : Int) + off = (tgt : Int)) (k : zJ p l e R s m args below meth c G f nL cells slots Q S tgt ls st) : zJ p l e R s m args below meth c G f nL cells slots Q S pc ls (zi y :: zi x :: st) := by
  intro H locs la hW hq hl
  obtain ⟨hx, hb, hml, hown, hts, hlk, hKK⟩ := C
  exact lv_icmp_ge (tgt := tgt) hx hb d ht (fun h1 => k H locs la hW hq hl) (fun h1 => absurd h h1)
theorem z_icmp_gef (C : zC p s m args meth c G cc nL own) {x y : Int32} {off : Int} (tgt : Nat) (h : ¬ y ≤ x) (d : decode cc pc = .ok (.if_icmp .ge off, 3)) (ht : (pc : Int) + off = (tgt : Int)) (k : zJ p l e R s m args below meth c G f nL cells slots Q S (pc + 3) ls st) : zJ p l e R s m args below meth c G f nL cells slots Q S pc ls (zi y :: zi x :: st) := by
  intro H locs la hW hq hl
  obtain ⟨hx, hb, hml, hown, hts, hlk, hKK⟩ := C
  exact lv_icmp_ge (tgt := tgt) hx hb d ht (fun h1 => absurd h1 h) (fun h1 => k H locs la hW hq hl)
theorem z_icmp_gtt (C : zC p s m args meth c G cc nL own) {x y : Int32} {off : Int} (tgt : Nat) (h : y < x) (d : decode cc pc = .ok (.if_icmp .gt off, 3)) (ht : (pc : Int) + off = (tgt : Int)) (k : zJ p l e R s m args below meth c G f nL cells slots Q S tgt ls st) : zJ p l e R s m args below meth c G f nL cells slots Q S pc ls (zi y :: zi x :: st) := by
  intro H locs la hW hq hl
  obtain ⟨hx, hb, hml, hown, hts, hlk, hKK⟩ := C
  exact lv_icmp_gt (tgt := tgt) hx hb d ht (fun h1 => k H locs la hW hq hl) (fun h1 => absurd h h1)
theorem z_icmp_gtf (C : zC p s m args meth c G cc nL own) {x y : Int32} {off : Int} (tgt : Nat) (h : ¬ y < x) (d : decode cc pc = .ok (.if_icmp .gt off, 3)) (ht : (pc : Int) + off = (tgt : Int)) (k : zJ p l e R s m args below meth c G f nL cells slots Q S (pc + 3) ls st) : zJ p l e R s m args below meth c G f nL cells slots Q S pc ls (zi y :: zi x :: st) := by
  intro H locs la hW hq hl
  obtain ⟨hx, hb, hml, hown, hts, hlk, hKK⟩ := C
  exact lv_icmp_gt (tgt := tgt) hx hb d ht (fun h1 => absurd h1 h) (fun h1 => k H locs la hW hq hl)
theorem z_icmp_let (C : zC p s m args meth c G cc nL own) {x y : Int32} {off : Int} (tgt : Nat) (h : x ≤ y) (d : decode cc pc = .ok (.if_icmp .le off, 3)) (ht : (pc : Int) + off = (tgt : Int)) (k : zJ p l e R s m args below meth c G f nL cells slots Q S tgt ls st) : zJ p l e R s m args below meth c G f nL cells slots Q S pc ls (zi y :: zi x :: st) := by
  intro H locs la hW hq hl
  obtain ⟨hx, hb, hml, hown, hts, hlk, hKK⟩ := C
  exact lv_icmp_le (tgt := tgt) hx hb d ht (fun h1 => k H locs la hW hq hl) (fun h1 => absurd h h1)
theorem z_icmp_lef (C : zC p s m args meth c G cc nL own) {x y : Int32} {off : Int} (tgt : Nat) (h : ¬ x ≤ y) (d : decode cc pc = .ok (.if_icmp .le off, 3)) (ht : (pc : Int) + off = (tgt : Int)) (k : zJ p l e R s m args below meth c G f nL cells slots Q S (pc + 3) ls st) : zJ p l e R s m args below meth c G f nL cells slots Q S pc ls (zi y :: zi x :: st) := by
  intro H locs la hW hq hl
  obtain ⟨hx, hb, hml, hown, hts, hlk, hKK⟩ := C
  exact lv_icmp_le (tgt := tgt) hx hb d ht (fun h1 => absurd h1 h) (fun h1 => k H locs la hW hq hl)
theorem z_goto (C : zC p s m args meth c G cc nL own) {off : Int} (tgt : Nat) (d : decode cc pc = .ok (.goto off, 3)) (ht : (pc : Int) + off = (tgt : Int)) (k : zJ p l e R s m args below meth c G f nL cells slots Q S tgt ls st) : zJ p l e R s m args below meth c G f nL cells slots Q S pc ls st := by
  intro H locs la hW hq hl
  obtain ⟨hx, hb, hml, hown, hts, hlk, hKK⟩ := C
  exact lv_goto hx hb d ht (k H locs la hW hq hl)
theorem z_ifnonnull_t (C : zC p s m args meth c G cc nL own) {i : Nat} {off : Int} (tgt : Nat) (d : decode cc pc = .ok (.ifnonnull off, 3)) (ht : (pc : Int) + off = (tgt : Int)) (k : zJ p l e R s m args below meth c G f nL cells slots Q S tgt ls st) : zJ p l e R s m args below meth c G f nL cells slots Q S pc ls (zr (some i) :: st) := by
  intro H locs la hW hq hl
  obtain ⟨hx, hb, hml, hown, hts, hlk, hKK⟩ := C
  exact lv_ifnonnull hx hb d ht (k H locs la hW hq hl)
theorem z_ifnonnull_f (C : zC p s m args meth c G cc nL own) {off : Int} (d : decode cc pc = .ok (.ifnonnull off, 3)) (k : zJ p l e R s m args below meth c G f nL cells slots Q S (pc + 3) ls st) : zJ p l e R s m args below meth c G f nL cells slots Q S pc ls (zr none :: st) := by
  intro H locs la hW hq hl
  obtain ⟨hx, hb, hml, hown, hts, hlk, hKK⟩ := C
  exact lv_ifnonnullN hx hb d (k H locs la hW hq hl)
theorem z_ifnull_f (C : zC p s m args meth c G cc nL own) {i : Nat} {off : Int} (d : decode cc pc = .ok (.ifnull off, 3)) (k : zJ p l e R s m args below meth c G f nL cells slots Q S (pc + 3) ls st) : zJ p l e R s m args below meth c G f nL cells slots Q S pc ls (zr (some i) :: st) := by
  intro H locs la hW hq hl
  obtain ⟨hx, hb, hml, hown, hts, hlk, hKK⟩ := C
  exact lv_ifnull hx hb d (k H locs la hW hq hl)
theorem z_ifnull_t (C : zC p s m args meth c G cc nL own) {off : Int} (tgt : Nat) (d : decode cc pc = .ok (.ifnull off, 3)) (ht : (pc : Int) + off = (tgt : Int)) (k : zJ p l e R s m args below meth c G f nL cells slots Q S tgt ls st) : zJ p l e R s m args below meth c G f nL cells slots Q S pc ls (zr none :: st) := by
  intro H locs la hW hq hl
  obtain ⟨hx, hb, hml, hown, hts, hlk, hKK⟩ := C
  exact lv_ifnullN hx hb d ht (k H locs la hW hq hl)
theorem z_tableOut (C : zC p s m args meth c G cc nL own) {dflt lo hi : Int} {offs : Array Int} {len : Nat} {x : Int32} (tgt : Nat) (h : x.toInt < lo ∨ hi < x.toInt) (d : decode cc pc = .ok (.tableswitch dflt lo hi offs, len)) (ht : (pc : Int) + dflt = (tgt : Int)) (k : zJ p l e R s m args below meth c G f nL cells slots Q S tgt ls st) : zJ p l e R s m args below meth c G f nL cells slots Q S pc ls (zi x :: st) := by
  intro H locs la hW hq hl
  obtain ⟨hx, hb, hml, hown, hts, hlk, hKK⟩ := C
  exact lv_tableOut hx hb d h ht (k H locs la hW hq hl)
theorem z_tableIn (C : zC p s m args meth c G cc nL own) {dflt lo hi : Int} {offs : Array Int} {len : Nat} {x : Int32} (tgt : Nat) (off : Int) (h1 : ¬ x.toInt < lo) (h2 : ¬ hi < x.toInt) (d : decode cc pc = .ok (.tableswitch dflt lo hi offs, len)) (ho : offs[(x.toInt - lo).toNat]? = some off) (ht : (pc : Int) + off = (tgt : Int)) (k : zJ p l e R s m args below meth c G f nL cells slots Q S tgt ls st) : zJ p l e R s m args below meth c G f nL cells slots Q S pc ls (zi x :: st) := by
  intro H locs la hW hq hl
  obtain ⟨hx, hb, hml, hown, hts, hlk, hKK⟩ := C
  exact lv_tableIn hx hb d h1 h2 ho ht (k H locs la hW hq hl)
end ZR

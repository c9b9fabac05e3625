/-! rows of a few instructions and natives -/
def zgt {α : Type} (o : Option Nat) (S : zSt) (A : Option α) : Option α := match o with
  | none => A
  | some j => if zK j = 10 ∧ j < zN S then A else none
theorem zgt_some {α : Type} {o : Option Nat} {S : zSt} {A : Option α} {y : α} (h : zgt o S A = some y) : (∀ j, o = some j → zK j = 10 ∧ j < zN S) ∧ A = some y := by
  cases o with
  | none => exact ⟨fun j hj => (by cases hj), h⟩
  | some j =>
    unfold zgt at h
    dsimp only at h
    by_cases hc : zK j = 10 ∧ j < zN S
    · rw [if_pos hc] at h
      exact ⟨fun i hi => (by cases hi; exact hc), h⟩
    · rw [if_neg hc] at h; cases h
/-- a literal's length, its char at k -/
def zSlen (j : Nat) : Int32 := Int32.ofNat (zSln.getD j 0)
def zSch (j k : Nat) : Int32 := (zSby.getD j []).getD k 0
/-- a row copied into another one from its beginning -/
def zcpI (S : zSt) (a b n : Nat) : zSt := (fun j l => if j = b ∧ l < n then S.1 a l else S.1 j l, S.2)
def zcpL (S : zSt) (a b n : Nat) : zSt := (S.1, fun j l => if j = b ∧ l < n then S.2.1 a l else S.2.1 j l, S.2.2)
section ZS
variable {p : Program} {l : Launch} {e : Env} {R : Room} {s : State} {m : MethodId} {args : Array Value} {below : List Frame} {meth : Method} {c : Code} {G : zG} {f : Bool} {nL cells slots : Nat} {Q : State → Prop} {S : zSt} {cc : ByteArray} {own : String} {pc : Nat} {ls : List (Nat × zV)} {st : List zV}
theorem z_ldcw (C : zC p s m args meth c G cc nL own) {index : Nat} {v : Int32} (hc : Cond.constant own index v ∈ zGW) (d : decode cc pc = .ok (.ldc_w index, 3)) (k : zJ p l e R s m args below meth c G f nL cells slots Q S (pc + 3) ls (zi v :: st)) : zJ p l e R s m args below meth c G f nL cells slots Q S pc ls st := by
  intro H locs la hW hq hl
  obtain ⟨hx, hb, hml, hown, hts, hlk, hKK⟩ := C
  intro T hT X
  obtain ⟨t, a1, b1⟩ := k H locs la hW hq hl T hT X
  exact ⟨t, va_ldcwI X hx hown (hts _ hc) rfl (by rw [hb]; exact d) t a1, b1⟩
theorem z_copyI (C : zC p s m args meth c G cc nL own) {a b na nb idx : Nat} (n : Nat) {n0 : Int32} (hi : (true = true ∧ a < zN0) ∨ a < zN S) (hK : zK a = 50) (hA : zA S a = na) (hi2 : (true = true ∧ b < zN0) ∨ b < zN S) (hK2 : zK b = 50) (hA2 : zA S b = nb) (hn : n0 = Int32.ofNat n ∧ n ≤ na ∧ n ≤ nb ∧ n < 2 ^ 31) (hR : 1 ≤ R.frames ∧ 64 ≤ R.locals) (hst : (st.map zcat).sum ≤ 8) (hlink : Cond.methodLink own idx arraycopyName ∈ zGW) (d : decode cc pc = .ok (.invokestatic idx, 3))
    (kk : zJ p l e R s m args below meth c G true nL cells slots Q (zcpI S a b n) (pc + 3) ls st) : zJ p l e R s m args below meth c G true nL cells slots Q S pc ls (zi n0 :: zi 0 :: zr (some b) :: zi 0 :: zr (some a) :: st) := by
  intro H locs la hW hq hl
  obtain ⟨hx, hb, hml, hown, hts, hlk, hKK⟩ := C
  obtain ⟨hna, hXa⟩ := zin_n hW hi
  obtain ⟨hnb, hXb⟩ := zin_n hW hi2
  obtain ⟨rfl, hn1, hn2, hn3⟩ := hn
  have hca := zcell_arr (hW.2.2.2.1 a hna) (by omega)
  have hcb := zcell_arr (hW.2.2.2.1 b hnb) (by omega)
  have ea : zarrV G S a = fun j => Value.int (zI S a j) := by funext j; unfold zarrV; rw [hK]; rfl
  have eb : zarrV G S b = fun j => Value.int (zI S b j) := by funext j; unfold zarrV; rw [hK2]; rfl
  rw [hK, hA, ea] at hca
  rw [hK2, hA2, eb] at hcb
  obtain ⟨-, k0, hk0, cm0, hkk0⟩ := (hKK.1.2 0 _ rfl).1 na (fun j => Value.int (zI S a j))
  obtain ⟨-, k1, hk1, cm1, hkk1⟩ := (hKK.1.2 0 _ rfl).1 nb (fun j => Value.int (zI S b j))
  have hz : (Int32.ofNat n).toNatClampNeg = n := nI_clamp hn3
  have hz0 : (0 : Int32).toNatClampNeg = 0 := by decide
  have hti : (Int32.ofNat n).toInt = (n : Int) := nI_toInt hn3
  intro T hT X
  obtain ⟨vm', X', step⟩ := X.arraycopy hx hown (hts _ hlink) (hts _ (zGW_in 868 (by decide +kernel) (by decide +kernel))) (hts _ (zGW_in 867 (by decide +kernel) (by decide +kernel))) (hts _ (zGW_in 141 (by decide +kernel) (by decide +kernel))) (src := zb G + a) (dst := zb G + b) (cs := (arrV (G.2.2.2 50) na (fun j => Value.int (zI S a j)))) (cd := (arrV (G.2.2.2 50) nb (fun j => Value.int (zI S b j)))) (srcPos := 0) (destPos := 0) (n := Int32.ofNat n) (by rw [hT]; exact hca) (by rw [hT]; exact hcb)
    (fun _ h => by cases h) (fun _ h => by cases h) (fun h => by cases h) (fun h => by cases h) hk0 hk1 hkk0 hkk1 rfl (by decide) (by decide) (nI_pos hn3)
    (by rw [hti, arrV_size]; show ¬ (0 : Int) + _ > _; omega)
    (by rw [hti, arrV_size]; show ¬ (0 : Int) + _ > _; omega)
    (fun vm₁ _ i hi' => by
      have hi'' : i < n := by rw [hz] at hi'; exact hi'
      have e : (arrV (G.2.2.2 50) na (fun j => Value.int (zI S a j))).slots.getD ((0 : Int32).toNatClampNeg + i) .null = Value.int (zI S a i) := by
        rw [hz0, Array.getD_eq_getD_getElem?, arrV_read _ _ (by omega), Nat.zero_add]
        rfl
      exact ⟨by rw [e]; rfl, by rw [e]; exact trivial⟩)
    (g := F0 m pc la (zst G (zi (Int32.ofNat n) :: zi 0 :: zr (some b) :: zi 0 :: zr (some a) :: st))) rfl (by rw [hml]; exact hl.1) (rest := zst G st) (by show Value.int _ :: Value.int _ :: Value.ref (zad G b) :: Value.int _ :: Value.ref (zad G a) :: _ = _; rw [zad_lt hXa, zad_lt hXb]; rfl) (by rw [hb]; exact d) hR.1 (by
      have e2 : ((zst G st).map fun v => v.category).sum = (st.map zcat).sum := by
        unfold zst
        rw [List.map_map, show ((fun v : Value => v.category) ∘ zmv G) = zcat from funext (zmv_cat G)]
      rw [e2]
      have e3 : nativeFrameWords "java/lang/System" "arraycopy" 5 = 7 := by decide
      rw [e3]
      show 0 + _ + _ ≤ _
      omega)
  have e1 : copied (arrV (G.2.2.2 50) na (fun j => Value.int (zI S a j))) (arrV (G.2.2.2 50) nb (fun j => Value.int (zI S b j))) 0 0 (Int32.ofNat n) = (arrV (G.2.2.2 50) nb (fun j => Value.int (va_cpy (zI S a) (zI S b) 0 0 n j))) := by
    show (arrV (G.2.2.2 50) nb (fun j => Value.int (zI S b j))).storeRun (0 : Int32).toNatClampNeg ((arrV (G.2.2.2 50) na (fun j => Value.int (zI S a j))).stretch (0 : Int32).toNatClampNeg (Int32.ofNat n).toNatClampNeg) = _
    rw [hz, hz0]
    exact va_copied (fun z => Value.int z) _ _ _ _ (by omega)
  rw [e1] at X' step
  have hlt : zb G + b < H.size := (Array.getElem?_eq_some_iff.mp hcb).1
  have hheap : ((T.setVm vm').setCell (zb G + b) (arrV (G.2.2.2 50) nb (fun j => Value.int (va_cpy (zI S a) (zI S b) 0 0 n j)))).heap = H.setIfInBounds (zb G + b) (arrV (G.2.2.2 50) nb (fun j => Value.int (va_cpy (zI S a) (zI S b) 0 0 n j))) := by rw [← hT]; rfl
  have oq : ∀ q : Nat, q ≠ zb G + b → (H.setIfInBounds (zb G + b) (arrV (G.2.2.2 50) nb (fun j => Value.int (va_cpy (zI S a) (zI S b) 0 0 n j))))[q]? = H[q]? := fun q hq => by simp [Array.getElem?_setIfInBounds, Ne.symm hq]
  have hW2 : zW G true (zcpI S a b n) (H.setIfInBounds (zb G + b) (arrV (G.2.2.2 50) nb (fun j => Value.int (va_cpy (zI S a) (zI S b) 0 0 n j)))) := by
    refine zW_write hW hnb (by simp) oq ?_ rfl rfl (fun j k h => by show (if j = b ∧ k < n then S.1 a k else S.1 j k) = S.1 j k; rw [if_neg (fun z => h z.1)]) (fun _ _ _ => rfl) (fun _ _ _ => rfl) (fun _ h => zSR_same rfl rfl (fun _ _ _ => rfl) h)
    unfold zcell
    rw [if_neg (by omega), hK2]
    show _ = some (arrV _ (zA S b) _)
    rw [hA2, Array.getElem?_setIfInBounds, if_pos rfl, if_pos hlt]
    congr 2
    funext j
    unfold zarrV
    rw [hK2]
    show Value.int (va_cpy (zI S a) (zI S b) 0 0 n j) = Value.int (if b = b ∧ j < n then S.1 a j else S.1 b j)
    unfold va_cpy
    by_cases hj : j < n
    · rw [if_pos ⟨Nat.zero_le _, by omega⟩, if_pos ⟨rfl, hj⟩]
      show Value.int (S.1 a (0 + (j - 0))) = _
      rw [Nat.zero_add, Nat.sub_zero]
    · rw [if_neg (fun z => hj (by omega)), if_neg (fun z => hj z.2)]
      rfl
  have hq2 : ∀ q ∈ locs ++ ((arrV (G.2.2.2 50) na (fun j => Value.int (zI S a j))).stretch (0 : Int32).toNatClampNeg (Int32.ofNat n).toNatClampNeg).zipIdx.map fun q => (⟨zb G + b, (0 : Int32).toNatClampNeg + q.2⟩ : Loc), zb G ≤ q.base := by
    intro q h
    rcases List.mem_append.mp h with h | h
    · exact hq q h
    · obtain ⟨z, -, hz⟩ := List.mem_map.mp h
      rw [← hz]
      exact Nat.le_add_right _ _
  obtain ⟨t, a1, b1⟩ := kk _ _ la hW2 hq2 hl _ hheap X'
  exact ⟨t, step t a1, b1⟩
theorem z_copyL (C : zC p s m args meth c G cc nL own) {a b na nb idx : Nat} (n : Nat) {n0 : Int32} (hi : (true = true ∧ a < zN0) ∨ a < zN S) (hK : zK a = 51) (hA : zA S a = na) (hi2 : (true = true ∧ b < zN0) ∨ b < zN S) (hK2 : zK b = 51) (hA2 : zA S b = nb) (hn : n0 = Int32.ofNat n ∧ n ≤ na ∧ n ≤ nb ∧ n < 2 ^ 31) (hR : 1 ≤ R.frames ∧ 64 ≤ R.locals) (hst : (st.map zcat).sum ≤ 8) (hlink : Cond.methodLink own idx arraycopyName ∈ zGW) (d : decode cc pc = .ok (.invokestatic idx, 3))
    (kk : zJ p l e R s m args below meth c G true nL cells slots Q (zcpL S a b n) (pc + 3) ls st) : zJ p l e R s m args below meth c G true nL cells slots Q S pc ls (zi n0 :: zi 0 :: zr (some b) :: zi 0 :: zr (some a) :: st) := by
  intro H locs la hW hq hl
  obtain ⟨hx, hb, hml, hown, hts, hlk, hKK⟩ := C
  obtain ⟨hna, hXa⟩ := zin_n hW hi
  obtain ⟨hnb, hXb⟩ := zin_n hW hi2
  obtain ⟨rfl, hn1, hn2, hn3⟩ := hn
  have hca := zcell_arr (hW.2.2.2.1 a hna) (by omega)
  have hcb := zcell_arr (hW.2.2.2.1 b hnb) (by omega)
  have ea : zarrV G S a = fun j => Value.long (zL S a j) := by funext j; unfold zarrV; rw [hK]; rfl
  have eb : zarrV G S b = fun j => Value.long (zL S b j) := by funext j; unfold zarrV; rw [hK2]; rfl
  rw [hK, hA, ea] at hca
  rw [hK2, hA2, eb] at hcb
  obtain ⟨-, k0, hk0, cm0, hkk0⟩ := (hKK.1.2 1 _ rfl).1 na (fun j => Value.long (zL S a j))
  obtain ⟨-, k1, hk1, cm1, hkk1⟩ := (hKK.1.2 1 _ rfl).1 nb (fun j => Value.long (zL S b j))
  have hz : (Int32.ofNat n).toNatClampNeg = n := nI_clamp hn3
  have hz0 : (0 : Int32).toNatClampNeg = 0 := by decide
  have hti : (Int32.ofNat n).toInt = (n : Int) := nI_toInt hn3
  intro T hT X
  obtain ⟨vm', X', step⟩ := X.arraycopy hx hown (hts _ hlink) (hts _ (zGW_in 868 (by decide +kernel) (by decide +kernel))) (hts _ (zGW_in 867 (by decide +kernel) (by decide +kernel))) (hts _ (zGW_in 141 (by decide +kernel) (by decide +kernel))) (src := zb G + a) (dst := zb G + b) (cs := (arrV (G.2.2.2 51) na (fun j => Value.long (zL S a j)))) (cd := (arrV (G.2.2.2 51) nb (fun j => Value.long (zL S b j)))) (srcPos := 0) (destPos := 0) (n := Int32.ofNat n) (by rw [hT]; exact hca) (by rw [hT]; exact hcb)
    (fun _ h => by cases h) (fun _ h => by cases h) (fun h => by cases h) (fun h => by cases h) hk0 hk1 hkk0 hkk1 rfl (by decide) (by decide) (nI_pos hn3)
    (by rw [hti, arrV_size]; show ¬ (0 : Int) + _ > _; omega)
    (by rw [hti, arrV_size]; show ¬ (0 : Int) + _ > _; omega)
    (fun vm₁ _ i hi' => by
      have hi'' : i < n := by rw [hz] at hi'; exact hi'
      have e : (arrV (G.2.2.2 51) na (fun j => Value.long (zL S a j))).slots.getD ((0 : Int32).toNatClampNeg + i) .null = Value.long (zL S a i) := by
        rw [hz0, Array.getD_eq_getD_getElem?, arrV_read _ _ (by omega), Nat.zero_add]
        rfl
      exact ⟨by rw [e]; rfl, by rw [e]; exact trivial⟩)
    (g := F0 m pc la (zst G (zi (Int32.ofNat n) :: zi 0 :: zr (some b) :: zi 0 :: zr (some a) :: st))) rfl (by rw [hml]; exact hl.1) (rest := zst G st) (by show Value.int _ :: Value.int _ :: Value.ref (zad G b) :: Value.int _ :: Value.ref (zad G a) :: _ = _; rw [zad_lt hXa, zad_lt hXb]; rfl) (by rw [hb]; exact d) hR.1 (by
      have e2 : ((zst G st).map fun v => v.category).sum = (st.map zcat).sum := by
        unfold zst
        rw [List.map_map, show ((fun v : Value => v.category) ∘ zmv G) = zcat from funext (zmv_cat G)]
      rw [e2]
      have e3 : nativeFrameWords "java/lang/System" "arraycopy" 5 = 7 := by decide
      rw [e3]
      show 0 + _ + _ ≤ _
      omega)
  have e1 : copied (arrV (G.2.2.2 51) na (fun j => Value.long (zL S a j))) (arrV (G.2.2.2 51) nb (fun j => Value.long (zL S b j))) 0 0 (Int32.ofNat n) = (arrV (G.2.2.2 51) nb (fun j => Value.long (va_cpy (zL S a) (zL S b) 0 0 n j))) := by
    show (arrV (G.2.2.2 51) nb (fun j => Value.long (zL S b j))).storeRun (0 : Int32).toNatClampNeg ((arrV (G.2.2.2 51) na (fun j => Value.long (zL S a j))).stretch (0 : Int32).toNatClampNeg (Int32.ofNat n).toNatClampNeg) = _
    rw [hz, hz0]
    exact va_copied (fun z => Value.long z) _ _ _ _ (by omega)
  rw [e1] at X' step
  have hlt : zb G + b < H.size := (Array.getElem?_eq_some_iff.mp hcb).1
  have hheap : ((T.setVm vm').setCell (zb G + b) (arrV (G.2.2.2 51) nb (fun j => Value.long (va_cpy (zL S a) (zL S b) 0 0 n j)))).heap = H.setIfInBounds (zb G + b) (arrV (G.2.2.2 51) nb (fun j => Value.long (va_cpy (zL S a) (zL S b) 0 0 n j))) := by rw [← hT]; rfl
  have oq : ∀ q : Nat, q ≠ zb G + b → (H.setIfInBounds (zb G + b) (arrV (G.2.2.2 51) nb (fun j => Value.long (va_cpy (zL S a) (zL S b) 0 0 n j))))[q]? = H[q]? := fun q hq => by simp [Array.getElem?_setIfInBounds, Ne.symm hq]
  have hW2 : zW G true (zcpL S a b n) (H.setIfInBounds (zb G + b) (arrV (G.2.2.2 51) nb (fun j => Value.long (va_cpy (zL S a) (zL S b) 0 0 n j)))) := by
    refine zW_write hW hnb (by simp) oq ?_ rfl rfl (fun _ _ _ => rfl) (fun j k h => by show (if j = b ∧ k < n then S.2.1 a k else S.2.1 j k) = S.2.1 j k; rw [if_neg (fun z => h z.1)]) (fun _ _ _ => rfl) (fun _ h => zSR_same rfl rfl (fun _ _ _ => rfl) h)
    unfold zcell
    rw [if_neg (by omega), hK2]
    show _ = some (arrV _ (zA S b) _)
    rw [hA2, Array.getElem?_setIfInBounds, if_pos rfl, if_pos hlt]
    congr 2
    funext j
    unfold zarrV
    rw [hK2]
    show Value.long (va_cpy (zL S a) (zL S b) 0 0 n j) = Value.long (if b = b ∧ j < n then S.2.1 a j else S.2.1 b j)
    unfold va_cpy
    by_cases hj : j < n
    · rw [if_pos ⟨Nat.zero_le _, by omega⟩, if_pos ⟨rfl, hj⟩]
      show Value.long (S.2.1 a (0 + (j - 0))) = _
      rw [Nat.zero_add, Nat.sub_zero]
    · rw [if_neg (fun z => hj (by omega)), if_neg (fun z => hj z.2)]
      rfl
  have hq2 : ∀ q ∈ locs ++ ((arrV (G.2.2.2 51) na (fun j => Value.long (zL S a j))).stretch (0 : Int32).toNatClampNeg (Int32.ofNat n).toNatClampNeg).zipIdx.map fun q => (⟨zb G + b, (0 : Int32).toNatClampNeg + q.2⟩ : Loc), zb G ≤ q.base := by
    intro q h
    rcases List.mem_append.mp h with h | h
    · exact hq q h
    · obtain ⟨z, -, hz⟩ := List.mem_map.mp h
      rw [← hz]
      exact Nat.le_add_right _ _
  obtain ⟨t, a1, b1⟩ := kk _ _ la hW2 hq2 hl _ hheap X'
  exact ⟨t, step t a1, b1⟩
end ZS

/-! objects, arrays, calls, ends -/
theorem zad_lt {G : zG} {i : Nat} (h : i < zX) : zad G i = zb G + i := if_pos h
theorem zidx {x : Int32} {n : Nat} (h : 0 ≤ x ∧ x.toNatClampNeg < n) : ¬ (x < 0 ∨ n ≤ x.toNatClampNeg) := by
  rintro (h1 | h1)
  · exact absurd h1 (Int32.not_lt.mpr h.1)
  · omega
theorem zin_n {G : zG} {f : Bool} {S : zSt} {H : Heap} {i : Nat} (hW : zW G f S H) (hi : (f = true ∧ i < zN0) ∨ i < zN S) : i < zN S ∧ i < zX := by
  obtain ⟨-, h0, -, -, h⟩ := hW
  rcases hi with ⟨h1, h2⟩ | h1
  · have := (h h1).1
    omega
  · omega
theorem zSR_same {S S' : zSt} (hN : zN S' = zN S) (hA : zA S' = zA S) (hR : ∀ i, zK i < 12 → ∀ k, zR S' i k = zR S i k) (h : zSR S) : zSR S' := by
  obtain ⟨a, b, h⟩ := h
  refine ⟨by rw [hN]; exact a, by rw [hN]; exact b, fun i hi hk k o n ho => ?_⟩
  rw [hN] at hi ⊢
  rw [hA, hR i hk]
  exact h i hi hk k o n ho
theorem z_SR_off {S : zSt} (h : zSR S) {i c k o n : Nat} (hi : i < zN S) (hK : zK i = c) (hc : c < 12) (ho : zoff c k = some (o, n)) : zR S i k = some (i + o) ∧ i + o < zN S ∧ (n ≠ 0 → zA S (i + o) = n) :=
  h.2.2 i hi (by rw [hK]; exact hc) k o n (by rw [hK]; exact ho)
theorem zmv_i (G : zG) (x : Int32) : zmv G (zi x) = .int x := rfl
section ZR2
variable {p : Program} {l : Launch} {e : Env} {R : Room} {s : State} {m : MethodId} {args : Array Value} {below : List Frame} {meth : Method} {c : Code} {G : zG} {f : Bool} {nL cells slots : Nat} {Q : State → Prop} {S : zSt} {cc : ByteArray} {own : String} {pc : Nat} {ls : List (Nat × zV)} {st : List zV}
theorem zgetV (C : zC p s m args meth c G cc nL own) {i idx : Nat} (t : Nat) (ht : t < 12) (k : Nat) (hk : k < zFN t) (hi : (f = true ∧ i < zN0) ∨ i < zN S) (hK : zK i = t) (hl : Cond.fieldLink own idx (zNm t) (zT t k).2.1 (zT t k).2.2.1 ∈ zGW) (d : decode cc pc = .ok (.getfield idx, 3))
    {H : Heap} {locs : List Loc} {la : Array Slot} (hW : zW G f S H) (kk : W p l e R s m args below meth c H locs cells slots Q (F0 m (pc + 3) la (zobjV G S i k :: zst G st))) : W p l e R s m args below meth c H locs cells slots Q (F0 m pc la (zst G (zr (some i) :: st))) := by
  obtain ⟨hx, hb, hml, hown, hts, hlk, hKK⟩ := C
  obtain ⟨hn, hX⟩ := zin_n hW hi
  obtain ⟨cell, q1, q2, q3, q4⟩ := zcell_obj (hW.2.2.2.1 i hn) (by omega)
  rw [hK] at q2 q4
  obtain ⟨hS, hfc, kC, hkC, hkind⟩ := hKK.1.1 t _ (zCL_at ht)
  obtain ⟨cf, kf, fi, fd, hfi, hsl⟩ := hS k hk
  have hst := (u_facts hfc hkC (u_lays hts (zig t ht) hk) hfi).1
  rw [zT_own t ht k hk] at hfi
  show W p l e R s m args below meth c H locs cells slots Q (F0 m pc la (Value.ref (zad G i) :: zst G st))
  rw [zad_lt hX]
  exact W.getf hx hb hown (hts _ hl) hfi hst q1 (by rw [q3]; exact fun h => by cases h) (v := zobjV G S i k) (by rw [hsl]; exact q4 k hk) rfl rfl d kk
theorem z_getI (C : zC p s m args meth c G cc nL own) {i idx : Nat} (t : Nat) (ht : t < 12) (k : Nat) (hk : k < zFN t) (hf : zft t k = 0) (hi : (f = true ∧ i < zN0) ∨ i < zN S) (hK : zK i = t) (hl : Cond.fieldLink own idx (zNm t) (zT t k).2.1 (zT t k).2.2.1 ∈ zGW) (d : decode cc pc = .ok (.getfield idx, 3))
    (kk : zJ p l e R s m args below meth c G f nL cells slots Q S (pc + 3) ls (zi (zI S i k) :: st)) : zJ p l e R s m args below meth c G f nL cells slots Q S pc ls (zr (some i) :: st) := by
  intro H locs la hW hq hl1
  refine zgetV C t ht k hk hi hK hl d hW ?_
  have e : zobjV G S i k = .int (zI S i k) := by unfold zobjV; rw [hK, hf]; rfl
  rw [e]
  exact kk H locs la hW hq hl1
theorem z_getL (C : zC p s m args meth c G cc nL own) {i idx : Nat} (t : Nat) (ht : t < 12) (k : Nat) (hk : k < zFN t) (hf : zft t k = 1) (hi : (f = true ∧ i < zN0) ∨ i < zN S) (hK : zK i = t) (hl : Cond.fieldLink own idx (zNm t) (zT t k).2.1 (zT t k).2.2.1 ∈ zGW) (d : decode cc pc = .ok (.getfield idx, 3))
    (kk : zJ p l e R s m args below meth c G f nL cells slots Q S (pc + 3) ls (zl (zL S i k) :: st)) : zJ p l e R s m args below meth c G f nL cells slots Q S pc ls (zr (some i) :: st) := by
  intro H locs la hW hq hl1
  refine zgetV C t ht k hk hi hK hl d hW ?_
  have e : zobjV G S i k = .long (zL S i k) := by unfold zobjV; rw [hK, hf]; rfl
  rw [e]
  exact kk H locs la hW hq hl1
theorem z_getR (C : zC p s m args meth c G cc nL own) {i idx : Nat} (t : Nat) (ht : t < 12) (k : Nat) (hk : k < zFN t) (hf : zft t k = 2) (hi : (f = true ∧ i < zN0) ∨ i < zN S) (hK : zK i = t) (hl : Cond.fieldLink own idx (zNm t) (zT t k).2.1 (zT t k).2.2.1 ∈ zGW) (d : decode cc pc = .ok (.getfield idx, 3))
    (kk : zJ p l e R s m args below meth c G f nL cells slots Q S (pc + 3) ls (zr (zR S i k) :: st)) : zJ p l e R s m args below meth c G f nL cells slots Q S pc ls (zr (some i) :: st) := by
  intro H locs la hW hq hl1
  refine zgetV C t ht k hk hi hK hl d hW ?_
  have e : zobjV G S i k = zmv G (zr (zR S i k)) := by unfold zobjV; rw [hK, hf]; rfl
  rw [e]
  exact kk H locs la hW hq hl1
/-- a field that never changes -/
theorem z_getF {l : Launch} (C : zC p s m args meth c G cc nL own) {i idx : Nat} (t : Nat) (ht : t < 12) (k : Nat) (hk : k < zFN t) (hf : zft t k = 2) (o n : Nat) (ho : zoff t k = some (o, n)) (hi : i < zN0 ∨ i < zN S) (hK : zK i = t) (hl : Cond.fieldLink own idx (zNm t) (zT t k).2.1 (zT t k).2.2.1 ∈ zGW) (d : decode cc pc = .ok (.getfield idx, 3))
    (kk : zJ p l e R s m args below meth c G true nL cells slots Q S (pc + 3) ls (zr (some (i + o)) :: st)) : zJ p l e R s m args below meth c G true nL cells slots Q S pc ls (zr (some i) :: st) := by
  intro H locs la hW hq hl1
  have hi' : (true = true ∧ i < zN0) ∨ i < zN S := hi.imp (fun h => ⟨rfl, h⟩) id
  refine zgetV C t ht k hk hi' hK hl d hW ?_
  have e : zobjV G S i k = zmv G (zr (zR S i k)) := by unfold zobjV; rw [hK, hf]; rfl
  rw [e, (z_SR_off (hW.2.2.2.2 rfl) (zin_n hW hi').1 hK ht ho).1]
  exact kk H locs la hW hq hl1
/-- the same over a nest mate's private field -/
theorem z_getFN {l : Launch} (C : zC p s m args meth c G cc nL own) {i idx : Nat} {host : String} (t : Nat) (ht : t < 12) (k : Nat) (hk : k < zFN t) (hf : zft t k = 2) (o n : Nat) (ho : zoff t k = some (o, n)) (hi : i < zN0 ∨ i < zN S) (hK : zK i = t) (hl : va_Nw (.fieldLinkNest own idx (zNm t) (zT t k).2.1 (zT t k).2.2.1 host) s) (d : decode cc pc = .ok (.getfield idx, 3))
    (kk : zJ p l e R s m args below meth c G true nL cells slots Q S (pc + 3) ls (zr (some (i + o)) :: st)) : zJ p l e R s m args below meth c G true nL cells slots Q S pc ls (zr (some i) :: st) := by
  intro H locs la hW hq hl1
  obtain ⟨hx, hb, hml, hown, hts, hlk, hKK⟩ := C
  have hi' : (true = true ∧ i < zN0) ∨ i < zN S := hi.imp (fun h => ⟨rfl, h⟩) id
  obtain ⟨hn, hX⟩ := zin_n hW hi'
  obtain ⟨cell, q1, q2, q3, q4⟩ := zcell_obj (hW.2.2.2.1 i hn) (by omega)
  rw [hK] at q2 q4
  obtain ⟨hS, hfc, kC, hkC, hkind⟩ := hKK.1.1 t _ (zCL_at ht)
  obtain ⟨cf, kf, fi, fd, hfi, hsl⟩ := hS k hk
  have hst := (u_facts hfc hkC (u_lays hts (zig t ht) hk) hfi).1
  rw [zT_own t ht k hk] at hfi
  show W p l e R s m args below meth c H locs cells slots Q (F0 m pc la (Value.ref (zad G i) :: zst G st))
  rw [zad_lt hX]
  refine va_Wgetf hx hb hown (va_Nw.use rfl hl) hfi hst q1 (by rw [q3]; exact fun h => by cases h) (v := zobjV G S i k) (by rw [hsl]; exact q4 k hk) rfl rfl d ?_
  have e : zobjV G S i k = zmv G (zr (zR S i k)) := by unfold zobjV; rw [hK, hf]; rfl
  rw [e, (z_SR_off (hW.2.2.2.2 rfl) hn hK ht ho).1]
  exact kk H locs la hW hq hl1
/-- a field's write, whatever it holds -/
theorem zputV (C : zC p s m args meth c G cc nL own) {i idx : Nat} {S' : zSt} {v : Value} (t : Nat) (ht : t < 12) (k : Nat) (hk : k < zFN t) (hi : (f = true ∧ i < zN0) ∨ i < zN S) (hK : zK i = t) (hl : Cond.fieldLink own idx (zNm t) (zT t k).2.1 (zT t k).2.2.1 ∈ zGW)
    (hfin : (zT t k).2.2.2 = false ∨ (meth.name = "<init>" ∧ own = zNm t)) (hn : narrow (zTy t k) v = v) (hfit : fits (zTy t k) v = true) (d : decode cc pc = .ok (.putfield idx, 3))
    (hN : zN S' = zN S) (hA : zA S' = zA S) (h1 : ∀ j k, j ≠ i → zI S' j k = zI S j k) (h2 : ∀ j k, j ≠ i → zL S' j k = zL S j k) (h3 : ∀ j k, j ≠ i → zR S' j k = zR S j k) (hR : f = true → zSR S → zSR S')
    (hv : ∀ j, zobjV G S' i j = updV (zobjV G S i) k v j)
    {H : Heap} {locs : List Loc} {la : Array Slot} (hW : zW G f S H) (hq : ∀ q ∈ locs, zb G ≤ q.base) (kk : ∀ (H' : Heap) (locs' : List Loc), zW G f S' H' → (∀ q ∈ locs', zb G ≤ q.base) → W p l e R s m args below meth c H' locs' cells slots Q (F0 m (pc + 3) la (zst G st))) : W p l e R s m args below meth c H locs cells slots Q (F0 m pc la (v :: Value.ref (zad G i) :: zst G st)) := by
  obtain ⟨hx, hb, hml, hown, hts, hlk, hKK⟩ := C
  obtain ⟨hn', hX⟩ := zin_n hW hi
  have hap := va_apart (own := own) hts (zig t ht) (zTy t) (zTy_ok t ht) (zT_nm t ht) hKK.1 (zCL_at ht)
  obtain ⟨cell, q1, q2, q3, q4⟩ := zcell_obj (hW.2.2.2.1 i hn') (by omega)
  rw [hK] at q2 q4
  obtain ⟨hS, hfc, kC, hkC, hkind⟩ := hKK.1.1 t _ (zCL_at ht)
  obtain ⟨cf, kf, fi, fd, hfi, hsl⟩ := hS k hk
  have hst := (u_facts hfc hkC (u_lays hts (zig t ht) hk) hfi).1
  have hfi' := hfi
  rw [zT_own t ht k hk] at hfi'
  rw [zad_lt hX]
  have fin : ∀ H' : Heap, H'[zb G + i]? = some (cell.setSlot fd.slot v) → H'.size = H.size → (∀ q, q ≠ zb G + i → H'[q]? = H[q]?) → W p l e R s m args below meth c H' (locs ++ [⟨zb G + i, fd.slot⟩]) cells slots Q (F0 m (pc + 3) la (zst G st)) := by
    intro H' e1 e2 e3
    refine kk H' _ (zW_write hW hn' e2 e3 ?_ hN hA h1 h2 h3 hR) (fun q h => ?_)
    · unfold zcell
      rw [if_pos (by omega), hK]
      rw [hsl] at e1
      exact ⟨_, e1, q2, q3, fun j hj => by rw [hv j]; exact t_set q4 hap hk v j hj⟩
    · rcases List.mem_append.mp h with h | h
      · exact hq q h
      · rw [List.mem_singleton.mp h]
        exact Nat.le_add_right _ _
  have hlay := hts _ (zig t ht _ (u_in_lay hk))
  unfold u_lay at hlay
  rcases hfin with hfin | ⟨hinit, hownt⟩
  · rw [if_neg (by rw [hfin]; decide)] at hlay
    exact W.putK hx hb (f := fd) ⟨hown, hts _ hl, ⟨_, _, _, hfi'⟩, hst⟩ (by rw [q2]; exact u_store hfc hkC hkind hlay hfi (zTy_ok t ht k hk) hn hfit) q1 q3 (by rw [hsl]; exact k2_hasslot (q4 k hk)) rfl rfl d fin
  · by_cases hff : (zT t k).2.2.2 = true
    · rw [if_pos hff] at hlay
      have hcf : m.cls = cf := by
        obtain ⟨_, _, c', _, _, _, -, -, hf', -, -, -, hown2, -⟩ := Cond.laysFinal_spec hlay
        have e1 : c' = cf := by have := hfi.symm.trans hf'; simp at this; exact this.1.symm
        rw [zT_own t ht k hk, ← hownt] at hown2
        rw [← e1]; exact Option.some.inj (hown.symm.trans hown2)
      exact W.putFinK hx hb hown (hts _ hl) hfi' hst hcf hinit (by rw [q2]; exact u_fits hfc hkC hkind (Or.inr hlay) hfi (zTy_ok t ht k hk) hn hfit) q1 q3 (by rw [hsl]; exact k2_hasslot (q4 k hk)) rfl rfl d fin
    · rw [if_neg hff] at hlay
      exact W.putK hx hb (f := fd) ⟨hown, hts _ hl, ⟨_, _, _, hfi'⟩, hst⟩ (by rw [q2]; exact u_store hfc hkC hkind hlay hfi (zTy_ok t ht k hk) hn hfit) q1 q3 (by rw [hsl]; exact k2_hasslot (q4 k hk)) rfl rfl d fin
theorem z_putI (C : zC p s m args meth c G cc nL own) {i idx : Nat} {x : Int32} (t : Nat) (ht : t < 12) (k : Nat) (hk : k < zFN t) (hf : zft t k = 0) (hx : zTy t k = .int ∨ x = 0 ∨ x = 1) (hi : (f = true ∧ i < zN0) ∨ i < zN S) (hK : zK i = t) (hl : Cond.fieldLink own idx (zNm t) (zT t k).2.1 (zT t k).2.2.1 ∈ zGW) (hfin : (zT t k).2.2.2 = false ∨ (meth.name = "<init>" ∧ own = zNm t)) (d : decode cc pc = .ok (.putfield idx, 3))
    (kk : zJ p l e R s m args below meth c G f nL cells slots Q (zwI S i k x) (pc + 3) ls st) : zJ p l e R s m args below meth c G f nL cells slots Q S pc ls (zi x :: zr (some i) :: st) := by
  intro H locs la hW hq hl1
  have hty : narrow (zTy t k) (.int x) = .int x ∧ fits (zTy t k) (.int x) = true := by
    rcases zft_ok t ht k hk with ⟨-, h | h⟩ | ⟨h, -⟩ | ⟨h, -⟩
    · rw [h]; exact ⟨rfl, rfl⟩
    · rw [h] at hx ⊢
      rcases hx with hx | rfl | rfl
      · cases hx
      · exact ⟨by decide, by decide⟩
      · exact ⟨by decide, by decide⟩
    · omega
    · omega
  refine zputV (S' := zwI S i k x) C t ht k hk hi hK hl hfin hty.1 hty.2 d rfl rfl (fun j k2 h => zup_row _ h _ _ _) (fun _ _ _ => rfl) (fun _ _ _ => rfl) (fun _ h => zSR_same rfl rfl (fun _ _ _ => rfl) h) (fun j => ?_) hW hq (fun H' locs' hW' hq' => kk H' locs' la hW' hq' hl1)
  unfold zobjV updV
  rw [hK]
  by_cases hj : j = k
  · subst hj
    rw [if_pos rfl, hf]
    show Value.int (zup S.1 i j x i j) = _
    rw [zup_self]
  · rw [if_neg hj]
    have e : zI (zwI S i k x) i j = zI S i j := by
      show zup S.1 i k x i j = S.1 i j
      rw [zup_upd, if_neg hj]
    rw [e]
    rfl
theorem z_putL (C : zC p s m args meth c G cc nL own) {i idx : Nat} {x : Int64} (t : Nat) (ht : t < 12) (k : Nat) (hk : k < zFN t) (hf : zft t k = 1) (hi : (f = true ∧ i < zN0) ∨ i < zN S) (hK : zK i = t) (hl : Cond.fieldLink own idx (zNm t) (zT t k).2.1 (zT t k).2.2.1 ∈ zGW) (hfin : (zT t k).2.2.2 = false ∨ (meth.name = "<init>" ∧ own = zNm t)) (d : decode cc pc = .ok (.putfield idx, 3))
    (kk : zJ p l e R s m args below meth c G f nL cells slots Q (zwL S i k x) (pc + 3) ls st) : zJ p l e R s m args below meth c G f nL cells slots Q S pc ls (zl x :: zr (some i) :: st) := by
  intro H locs la hW hq hl1
  have hty : narrow (zTy t k) (.long x) = .long x ∧ fits (zTy t k) (.long x) = true := by
    rcases zft_ok t ht k hk with ⟨h, -⟩ | ⟨-, h⟩ | ⟨h, -⟩
    · omega
    · rw [h]; exact ⟨rfl, rfl⟩
    · omega
  refine zputV (S' := zwL S i k x) C t ht k hk hi hK hl hfin hty.1 hty.2 d rfl rfl (fun _ _ _ => rfl) (fun j k2 h => zup_row _ h _ _ _) (fun _ _ _ => rfl) (fun _ h => zSR_same rfl rfl (fun _ _ _ => rfl) h) (fun j => ?_) hW hq (fun H' locs' hW' hq' => kk H' locs' la hW' hq' hl1)
  unfold zobjV updV
  rw [hK]
  by_cases hj : j = k
  · subst hj
    rw [if_pos rfl, hf]
    show Value.long (zup S.2.1 i j x i j) = _
    rw [zup_self]
  · rw [if_neg hj]
    have e : zL (zwL S i k x) i j = zL S i j := by
      show zup S.2.1 i k x i j = S.2.1 i j
      rw [zup_upd, if_neg hj]
    rw [e]
    rfl
/-- a reference field's write: in constructors alone -/
theorem z_putR (C : zC p s m args meth c G cc nL own) {i idx j0 : Nat} (t : Nat) (ht : t < 12) (k : Nat) (hk : k < zFN t) (hf : zft t k = 2) (hi : i < zN S) (hK : zK i = t) (hl : Cond.fieldLink own idx (zNm t) (zT t k).2.1 (zT t k).2.2.1 ∈ zGW) (hfin : (zT t k).2.2.2 = false ∨ (meth.name = "<init>" ∧ own = zNm t)) (d : decode cc pc = .ok (.putfield idx, 3))
    (kk : zJ p l e R s m args below meth c G false nL cells slots Q (zwR S i k (some j0)) (pc + 3) ls st) : zJ p l e R s m args below meth c G false nL cells slots Q S pc ls (zr (some j0) :: zr (some i) :: st) := by
  intro H locs la hW hq hl1
  have hty : narrow (zTy t k) (.ref (zad G j0)) = .ref (zad G j0) ∧ fits (zTy t k) (.ref (zad G j0)) = true := by
    rcases zft_ok t ht k hk with ⟨h, -⟩ | ⟨h, -⟩ | ⟨-, ⟨n, h⟩ | ⟨n, h⟩⟩
    · omega
    · omega
    · rw [h]; exact ⟨rfl, rfl⟩
    · rw [h]; exact ⟨rfl, rfl⟩
  refine zputV (S' := zwR S i k (some j0)) C t ht k hk (Or.inr hi) hK hl hfin hty.1 hty.2 d rfl rfl (fun _ _ _ => rfl) (fun _ _ _ => rfl) (fun j k2 h => zup_row _ h _ _ _) (fun h => by cases h) (fun j => ?_) hW hq (fun H' locs' hW' hq' => kk H' locs' la hW' hq' hl1)
  unfold zobjV updV
  rw [hK]
  by_cases hj : j = k
  · subst hj
    rw [if_pos rfl, hf]
    show zmv G (zr (zup S.2.2.1 i j (some j0) i j)) = _
    rw [zup_self]
    rfl
  · rw [if_neg hj]
    have e : zR (zwR S i k (some j0)) i j = zR S i j := by
      show zup S.2.2.1 i k (some j0) i j = S.2.2.1 i j
      rw [zup_upd, if_neg hj]
    rw [e]
    rfl
theorem z_iaload (C : zC p s m args meth c G cc nL own) {i : Nat} {x : Int32} (hi : (f = true ∧ i < zN0) ∨ i < zN S) (hK : zK i = 50) (hx : 0 ≤ x ∧ x.toNatClampNeg < zA S i) (d : decode cc pc = .ok (.iaload, 1))
    (kk : zJ p l e R s m args below meth c G f nL cells slots Q S (pc + 1) ls (zi (zI S i x.toNatClampNeg) :: st)) : zJ p l e R s m args below meth c G f nL cells slots Q S pc ls (zi x :: zr (some i) :: st) := by
  intro H locs la hW hq hl1
  obtain ⟨hxx, hb, hml, hown, hts, hlk, hKK⟩ := C
  obtain ⟨hn, hX⟩ := zin_n hW hi
  have hc := zcell_arr (hW.2.2.2.1 i hn) (by omega)
  rw [hK] at hc
  show W p l e R s m args below meth c H locs cells slots Q (F0 m pc la (.int x :: Value.ref (zad G i) :: zst G st))
  rw [zad_lt hX]
  refine W.iald (v := .int (zI S i x.toNatClampNeg)) hxx hb hc ((hKK.1.2 0 _ rfl).1 _ _) (fun q => by cases q) (by rw [arrV_size]; exact zidx hx) ?_ rfl rfl d (kk H locs la hW hq hl1)
  rw [arrV_read _ _ hx.2]
  unfold zarrV
  rw [hK]
  rfl
theorem z_laload (C : zC p s m args meth c G cc nL own) {i : Nat} {x : Int32} (hi : (f = true ∧ i < zN0) ∨ i < zN S) (hK : zK i = 51) (hx : 0 ≤ x ∧ x.toNatClampNeg < zA S i) (d : decode cc pc = .ok (.laload, 1))
    (kk : zJ p l e R s m args below meth c G f nL cells slots Q S (pc + 1) ls (zl (zL S i x.toNatClampNeg) :: st)) : zJ p l e R s m args below meth c G f nL cells slots Q S pc ls (zi x :: zr (some i) :: st) := by
  intro H locs la hW hq hl1
  obtain ⟨hxx, hb, hml, hown, hts, hlk, hKK⟩ := C
  obtain ⟨hn, hX⟩ := zin_n hW hi
  have hc := zcell_arr (hW.2.2.2.1 i hn) (by omega)
  rw [hK] at hc
  show W p l e R s m args below meth c H locs cells slots Q (F0 m pc la (.int x :: Value.ref (zad G i) :: zst G st))
  rw [zad_lt hX]
  refine W.lald (v := .long (zL S i x.toNatClampNeg)) hxx hb hc ((hKK.1.2 1 _ rfl).1 _ _) (fun q => by cases q) (by rw [arrV_size]; exact zidx hx) ?_ rfl rfl d (kk H locs la hW hq hl1)
  rw [arrV_read _ _ hx.2]
  unfold zarrV
  rw [hK]
  rfl
theorem z_baload (C : zC p s m args meth c G cc nL own) {i : Nat} {x : Int32} (hi : (f = true ∧ i < zN0) ∨ i < zN S) (hK : zK i = 52) (hx : 0 ≤ x ∧ x.toNatClampNeg < zA S i) (d : decode cc pc = .ok (.baload, 1))
    (kk : zJ p l e R s m args below meth c G f nL cells slots Q S (pc + 1) ls (zi (zI S i x.toNatClampNeg) :: st)) : zJ p l e R s m args below meth c G f nL cells slots Q S pc ls (zi x :: zr (some i) :: st) := by
  intro H locs la hW hq hl1
  obtain ⟨hxx, hb, hml, hown, hts, hlk, hKK⟩ := C
  obtain ⟨hn, hX⟩ := zin_n hW hi
  have hc := zcell_arr (hW.2.2.2.1 i hn) (by omega)
  rw [hK] at hc
  show W p l e R s m args below meth c H locs cells slots Q (F0 m pc la (.int x :: Value.ref (zad G i) :: zst G st))
  rw [zad_lt hX]
  refine W.bald (v := .int (zI S i x.toNatClampNeg)) hxx hb hc ((hKK.1.2 2 _ rfl).1 _ _) (fun q => by cases q) (by rw [arrV_size]; exact zidx hx) ?_ rfl rfl d (kk H locs la hW hq hl1)
  rw [arrV_read _ _ hx.2]
  unfold zarrV
  rw [hK]
  rfl
theorem z_zaload (C : zC p s m args meth c G cc nL own) {i : Nat} {x : Int32} (hi : (f = true ∧ i < zN0) ∨ i < zN S) (hK : zK i = 53) (hx : 0 ≤ x ∧ x.toNatClampNeg < zA S i) (d : decode cc pc = .ok (.baload, 1))
    (kk : zJ p l e R s m args below meth c G f nL cells slots Q S (pc + 1) ls (zi (zI S i x.toNatClampNeg) :: st)) : zJ p l e R s m args below meth c G f nL cells slots Q S pc ls (zi x :: zr (some i) :: st) := by
  intro H locs la hW hq hl1
  obtain ⟨hxx, hb, hml, hown, hts, hlk, hKK⟩ := C
  obtain ⟨hn, hX⟩ := zin_n hW hi
  have hc := zcell_arr (hW.2.2.2.1 i hn) (by omega)
  rw [hK] at hc
  show W p l e R s m args below meth c H locs cells slots Q (F0 m pc la (.int x :: Value.ref (zad G i) :: zst G st))
  rw [zad_lt hX]
  refine W.zald (v := .int (zI S i x.toNatClampNeg)) hxx hb hc ((hKK.1.2 3 _ rfl).1 _ _) (fun q => by cases q) (by rw [arrV_size]; exact zidx hx) ?_ rfl rfl d (kk H locs la hW hq hl1)
  rw [arrV_read _ _ hx.2]
  unfold zarrV
  rw [hK]
  rfl
theorem z_paload (C : zC p s m args meth c G cc nL own) {i : Nat} {x : Int32} (hi : (f = true ∧ i < zN0) ∨ i < zN S) (hK : zK i = 54) (hx : 0 ≤ x ∧ x.toNatClampNeg < zA S i) (d : decode cc pc = .ok (.aaload, 1))
    (kk : zJ p l e R s m args below meth c G f nL cells slots Q S (pc + 1) ls (zr (zR S i x.toNatClampNeg) :: st)) : zJ p l e R s m args below meth c G f nL cells slots Q S pc ls (zi x :: zr (some i) :: st) := by
  intro H locs la hW hq hl1
  obtain ⟨hxx, hb, hml, hown, hts, hlk, hKK⟩ := C
  obtain ⟨hn, hX⟩ := zin_n hW hi
  have hc := zcell_arr (hW.2.2.2.1 i hn) (by omega)
  rw [hK] at hc
  show W p l e R s m args below meth c H locs cells slots Q (F0 m pc la (.int x :: Value.ref (zad G i) :: zst G st))
  rw [zad_lt hX]
  refine W.aald (ty := .object (zNm 5)) (v := zmv G (zr (zR S i x.toNatClampNeg))) hxx hb hc ((hKK.1.2 4 _ rfl).1 _ _) rfl (fun q => by cases q) (by rw [arrV_size]; exact zidx hx) ?_ rfl rfl d (kk H locs la hW hq hl1)
  rw [arrV_read _ _ hx.2]
  unfold zarrV
  rw [hK]
  rfl
theorem z_taload (C : zC p s m args meth c G cc nL own) {i : Nat} {x : Int32} (hi : (f = true ∧ i < zN0) ∨ i < zN S) (hK : zK i = 55) (hx : 0 ≤ x ∧ x.toNatClampNeg < zA S i) (d : decode cc pc = .ok (.aaload, 1))
    (kk : zJ p l e R s m args below meth c G f nL cells slots Q S (pc + 1) ls (zr (zR S i x.toNatClampNeg) :: st)) : zJ p l e R s m args below meth c G f nL cells slots Q S pc ls (zi x :: zr (some i) :: st) := by
  intro H locs la hW hq hl1
  obtain ⟨hxx, hb, hml, hown, hts, hlk, hKK⟩ := C
  obtain ⟨hn, hX⟩ := zin_n hW hi
  have hc := zcell_arr (hW.2.2.2.1 i hn) (by omega)
  rw [hK] at hc
  show W p l e R s m args below meth c H locs cells slots Q (F0 m pc la (.int x :: Value.ref (zad G i) :: zst G st))
  rw [zad_lt hX]
  refine W.aald (ty := .object (zNm 10)) (v := zmv G (zr (zR S i x.toNatClampNeg))) hxx hb hc ((hKK.1.2 5 _ rfl).1 _ _) rfl (fun q => by cases q) (by rw [arrV_size]; exact zidx hx) ?_ rfl rfl d (kk H locs la hW hq hl1)
  rw [arrV_read _ _ hx.2]
  unfold zarrV
  rw [hK]
  rfl
theorem zastV {i k : Nat} {S' : zSt} {v : Value} (hi : (f = true ∧ i < zN0) ∨ i < zN S) (hK : 12 ≤ zK i) {H H' : Heap} (hW : zW G f S H) (e1 : H'[zb G + i]? = some ((arrV (G.2.2.2 (zK i)) (zA S i) (zarrV G S i)).setSlot k v)) (e2 : H'.size = H.size) (e3 : ∀ q, q ≠ zb G + i → H'[q]? = H[q]?)
    (hN : zN S' = zN S) (hA : zA S' = zA S) (h1 : ∀ j k, j ≠ i → zI S' j k = zI S j k) (h2 : ∀ j k, j ≠ i → zL S' j k = zL S j k) (h3 : ∀ j k, j ≠ i → zR S' j k = zR S j k)
    (hv : ∀ j, zarrV G S' i j = updV (zarrV G S i) k v j) : zW G f S' H' := by
  obtain ⟨hn, hX⟩ := zin_n hW hi
  refine zW_write hW hn e2 e3 ?_ hN hA h1 h2 h3 (fun _ h => zSR_same hN hA (fun j hj k => h3 j k (fun e => by rw [e] at hj; omega)) h)
  unfold zcell
  rw [if_neg (by omega), e1, arrV_store, hA]
  congr 2
  funext j
  exact (hv j).symm
theorem zlocs {G : zG} {locs : List Loc} {i k : Nat} (hq : ∀ q ∈ locs, zb G ≤ q.base) : ∀ q ∈ locs ++ [⟨zb G + i, k⟩], zb G ≤ q.base := by
  intro q h
  rcases List.mem_append.mp h with h | h
  · exact hq q h
  · rw [List.mem_singleton.mp h]
    exact Nat.le_add_right _ _
theorem z_iastore (C : zC p s m args meth c G cc nL own) {i : Nat} {x : Int32} {v : Int32} (hi : (f = true ∧ i < zN0) ∨ i < zN S) (hK : zK i = 50) (hx : 0 ≤ x ∧ x.toNatClampNeg < zA S i) (d : decode cc pc = .ok (.iastore, 1))
    (kk : zJ p l e R s m args below meth c G f nL cells slots Q (zwI S i x.toNatClampNeg v) (pc + 1) ls st) : zJ p l e R s m args below meth c G f nL cells slots Q S pc ls (zi v :: zi x :: zr (some i) :: st) := by
  intro H locs la hW hq hl1
  obtain ⟨hxx, hb, hml, hown, hts, hlk, hKK⟩ := C
  obtain ⟨hn, hX⟩ := zin_n hW hi
  have hc := zcell_arr (hW.2.2.2.1 i hn) (by omega)
  have hK1 := hK
  show W p l e R s m args below meth c H locs cells slots Q (F0 m pc la (Value.int v :: .int x :: Value.ref (zad G i) :: zst G st))
  rw [zad_lt hX]
  refine W.iast hxx hb hc (by rw [hK]; exact (hKK.1.2 0 _ rfl).1 _ _) (fun q => by cases q) (by rw [arrV_size]; exact zidx hx) rfl rfl d (fun H' e1 e2 e3 => ?_)
  refine kk H' _ la (zastV (v := .int v) (k := x.toNatClampNeg) hi (by omega) hW e1 e2 e3 rfl rfl (fun j k2 h => zup_row _ h _ _ _) (fun _ _ _ => rfl) (fun _ _ _ => rfl) (fun j => ?_)) (zlocs hq) hl1
  unfold zarrV updV
  rw [hK]
  show Value.int (zup S.1 i x.toNatClampNeg (v) i j) = _
  rw [zup_upd]
  by_cases hj : j = x.toNatClampNeg
  · rw [if_pos hj, if_pos hj]
  · rw [if_neg hj, if_neg hj]
    rfl
theorem z_lastore (C : zC p s m args meth c G cc nL own) {i : Nat} {x : Int32} {v : Int64} (hi : (f = true ∧ i < zN0) ∨ i < zN S) (hK : zK i = 51) (hx : 0 ≤ x ∧ x.toNatClampNeg < zA S i) (d : decode cc pc = .ok (.lastore, 1))
    (kk : zJ p l e R s m args below meth c G f nL cells slots Q (zwL S i x.toNatClampNeg v) (pc + 1) ls st) : zJ p l e R s m args below meth c G f nL cells slots Q S pc ls (zl v :: zi x :: zr (some i) :: st) := by
  intro H locs la hW hq hl1
  obtain ⟨hxx, hb, hml, hown, hts, hlk, hKK⟩ := C
  obtain ⟨hn, hX⟩ := zin_n hW hi
  have hc := zcell_arr (hW.2.2.2.1 i hn) (by omega)
  have hK1 := hK
  show W p l e R s m args below meth c H locs cells slots Q (F0 m pc la (Value.long v :: .int x :: Value.ref (zad G i) :: zst G st))
  rw [zad_lt hX]
  refine W.last hxx hb hc (by rw [hK]; exact (hKK.1.2 1 _ rfl).1 _ _) (fun q => by cases q) (by rw [arrV_size]; exact zidx hx) rfl rfl d (fun H' e1 e2 e3 => ?_)
  refine kk H' _ la (zastV (v := .long v) (k := x.toNatClampNeg) hi (by omega) hW e1 e2 e3 rfl rfl (fun _ _ _ => rfl) (fun j k2 h => zup_row _ h _ _ _) (fun _ _ _ => rfl) (fun j => ?_)) (zlocs hq) hl1
  unfold zarrV updV
  rw [hK]
  show Value.long (zup S.2.1 i x.toNatClampNeg (v) i j) = _
  rw [zup_upd]
  by_cases hj : j = x.toNatClampNeg
  · rw [if_pos hj, if_pos hj]
  · rw [if_neg hj, if_neg hj]
    rfl
theorem z_bastore (C : zC p s m args meth c G cc nL own) {i : Nat} {x : Int32} {v : Int32} (hi : (f = true ∧ i < zN0) ∨ i < zN S) (hK : zK i = 52) (hx : 0 ≤ x ∧ x.toNatClampNeg < zA S i) (d : decode cc pc = .ok (.bastore, 1))
    (kk : zJ p l e R s m args below meth c G f nL cells slots Q (zwI S i x.toNatClampNeg v.toInt8.toInt32) (pc + 1) ls st) : zJ p l e R s m args below meth c G f nL cells slots Q S pc ls (zi v :: zi x :: zr (some i) :: st) := by
  intro H locs la hW hq hl1
  obtain ⟨hxx, hb, hml, hown, hts, hlk, hKK⟩ := C
  obtain ⟨hn, hX⟩ := zin_n hW hi
  have hc := zcell_arr (hW.2.2.2.1 i hn) (by omega)
  have hK1 := hK
  show W p l e R s m args below meth c H locs cells slots Q (F0 m pc la (Value.int v :: .int x :: Value.ref (zad G i) :: zst G st))
  rw [zad_lt hX]
  refine W.bast hxx hb hc (by rw [hK]; exact (hKK.1.2 2 _ rfl).1 _ _) (fun q => by cases q) (by rw [arrV_size]; exact zidx hx) rfl rfl d (fun H' e1 e2 e3 => ?_)
  refine kk H' _ la (zastV (v := .int v.toInt8.toInt32) (k := x.toNatClampNeg) hi (by omega) hW e1 e2 e3 rfl rfl (fun j k2 h => zup_row _ h _ _ _) (fun _ _ _ => rfl) (fun _ _ _ => rfl) (fun j => ?_)) (zlocs hq) hl1
  unfold zarrV updV
  rw [hK]
  show Value.int (zup S.1 i x.toNatClampNeg (v.toInt8.toInt32) i j) = _
  rw [zup_upd]
  by_cases hj : j = x.toNatClampNeg
  · rw [if_pos hj, if_pos hj]
  · rw [if_neg hj, if_neg hj]
    rfl
theorem z_zastore (C : zC p s m args meth c G cc nL own) {i : Nat} {x : Int32} {v : Int32} (hi : (f = true ∧ i < zN0) ∨ i < zN S) (hK : zK i = 53) (hx : 0 ≤ x ∧ x.toNatClampNeg < zA S i) (d : decode cc pc = .ok (.bastore, 1))
    (kk : zJ p l e R s m args below meth c G f nL cells slots Q (zwI S i x.toNatClampNeg (v &&& 1)) (pc + 1) ls st) : zJ p l e R s m args below meth c G f nL cells slots Q S pc ls (zi v :: zi x :: zr (some i) :: st) := by
  intro H locs la hW hq hl1
  obtain ⟨hxx, hb, hml, hown, hts, hlk, hKK⟩ := C
  obtain ⟨hn, hX⟩ := zin_n hW hi
  have hc := zcell_arr (hW.2.2.2.1 i hn) (by omega)
  have hK1 := hK
  show W p l e R s m args below meth c H locs cells slots Q (F0 m pc la (Value.int v :: .int x :: Value.ref (zad G i) :: zst G st))
  rw [zad_lt hX]
  refine W.zast hxx hb hc (by rw [hK]; exact (hKK.1.2 3 _ rfl).1 _ _) (fun q => by cases q) (by rw [arrV_size]; exact zidx hx) rfl rfl d (fun H' e1 e2 e3 => ?_)
  refine kk H' _ la (zastV (v := .int (v &&& 1)) (k := x.toNatClampNeg) hi (by omega) hW e1 e2 e3 rfl rfl (fun j k2 h => zup_row _ h _ _ _) (fun _ _ _ => rfl) (fun _ _ _ => rfl) (fun j => ?_)) (zlocs hq) hl1
  unfold zarrV updV
  rw [hK]
  show Value.int (zup S.1 i x.toNatClampNeg ((v &&& 1)) i j) = _
  rw [zup_upd]
  by_cases hj : j = x.toNatClampNeg
  · rw [if_pos hj, if_pos hj]
  · rw [if_neg hj, if_neg hj]
    rfl
theorem z_pastore (C : zC p s m args meth c G cc nL own) {i : Nat} {x : Int32} {v : Option Nat} (hi : (f = true ∧ i < zN0) ∨ i < zN S) (hK : zK i = 54) (hx : 0 ≤ x ∧ x.toNatClampNeg < zA S i) (hv : ∀ j, v = some j → zK j = 5 ∧ j < zN S) (d : decode cc pc = .ok (.aastore, 1))
    (kk : zJ p l e R s m args below meth c G f nL cells slots Q (zwR S i x.toNatClampNeg v) (pc + 1) ls st) : zJ p l e R s m args below meth c G f nL cells slots Q S pc ls (zr v :: zi x :: zr (some i) :: st) := by
  intro H locs la hW hq hl1
  obtain ⟨hxx, hb, hml, hown, hts, hlk, hKK⟩ := C
  obtain ⟨hn, hX⟩ := zin_n hW hi
  have hc := zcell_arr (hW.2.2.2.1 i hn) (by omega)
  show W p l e R s m args below meth c H locs cells slots Q (F0 m pc la (zmv G (zr v) :: .int x :: Value.ref (zad G i) :: zst G st))
  rw [zad_lt hX]
  have fin : ∀ H' : Heap, H'[zb G + i]? = some ((arrV (G.2.2.2 (zK i)) (zA S i) (zarrV G S i)).setSlot x.toNatClampNeg (zmv G (zr v))) → H'.size = H.size → (∀ q, q ≠ zb G + i → H'[q]? = H[q]?) → W p l e R s m args below meth c H' (locs ++ [⟨zb G + i, x.toNatClampNeg⟩]) cells slots Q (F0 m (pc + 1) la (zst G st)) := by
    intro H' e1 e2 e3
    refine kk H' _ la (zastV (v := zmv G (zr v)) (k := x.toNatClampNeg) hi (by omega) hW e1 e2 e3 rfl rfl (fun _ _ _ => rfl) (fun _ _ _ => rfl) (fun j k2 h => zup_row _ h _ _ _) (fun j => ?_)) (zlocs hq) hl1
    unfold zarrV updV
    rw [hK]
    show zmv G (zr (zup S.2.2.1 i x.toNatClampNeg v i j)) = _
    rw [zup_upd]
    by_cases hj : j = x.toNatClampNeg
    · rw [if_pos hj, if_pos hj]
    · rw [if_neg hj, if_neg hj]
      rfl
  have hin := zidx hx
  cases v with
  | none =>
    exact va_WaastN (C := zNm 5) hxx hb hc (by rw [hK]; exact (hKK.1.2 4 _ rfl).1 _ _) (fun q => by cases q) (by rw [arrV_size]; exact hin) rfl rfl d fin
  | some j =>
    obtain ⟨hjK, hjn⟩ := hv j rfl
    obtain ⟨cellV, g1, g2, g3, -⟩ := zcell_obj (hW.2.2.2.1 j hjn) (by omega)
    have hjX : j < zX := by have := hW.2.1; omega
    have hcls := (hKK.1.1 5 _ (zCL_at (by decide))).2
    obtain ⟨kA, comp, k1, k2, k3, -⟩ := (hKK.1.2 4 _ rfl).2
    have hcomp : comp = G.2.2.1.1 5 := Option.some.inj (k3.symm.trans hcls.1)
    subst hcomp
    obtain ⟨kC, hkC, -⟩ := hcls.2
    rw [hjK] at g2
    show W p l e R s m args below meth c H locs cells slots Q (F0 m pc la (Value.ref (zad G j) :: .int x :: Value.ref (zb G + i) :: zst G st))
    have fin' := fin
    rw [show zmv G (zr (some j)) = .ref (zad G j) from rfl, zad_lt hjX] at fin'
    rw [zad_lt hjX]
    exact W.aast hxx hb hc (fun q h => by cases h) (fun h => by cases h) (by rw [hK]; exact k1) k2 rfl hkC ⟨fun h => hin (Or.inl h), by show _ < (arrV _ _ _).slots.size; rw [arrV_size]; exact hx.2⟩ g1 (fun q h => by rw [g3] at h; cases h) (by rw [g2]; exact hkC) (by rw [g2]; exact va_assign hcls) rfl rfl d fin' 
theorem z_tastore (C : zC p s m args meth c G cc nL own) {i : Nat} {x : Int32} {v : Option Nat} (hi : (f = true ∧ i < zN0) ∨ i < zN S) (hK : zK i = 55) (hx : 0 ≤ x ∧ x.toNatClampNeg < zA S i) (hv : ∀ j, v = some j → zK j = 10 ∧ j < zN S) (d : decode cc pc = .ok (.aastore, 1))
    (kk : zJ p l e R s m args below meth c G f nL cells slots Q (zwR S i x.toNatClampNeg v) (pc + 1) ls st) : zJ p l e R s m args below meth c G f nL cells slots Q S pc ls (zr v :: zi x :: zr (some i) :: st) := by
  intro H locs la hW hq hl1
  obtain ⟨hxx, hb, hml, hown, hts, hlk, hKK⟩ := C
  obtain ⟨hn, hX⟩ := zin_n hW hi
  have hc := zcell_arr (hW.2.2.2.1 i hn) (by omega)
  show W p l e R s m args below meth c H locs cells slots Q (F0 m pc la (zmv G (zr v) :: .int x :: Value.ref (zad G i) :: zst G st))
  rw [zad_lt hX]
  have fin : ∀ H' : Heap, H'[zb G + i]? = some ((arrV (G.2.2.2 (zK i)) (zA S i) (zarrV G S i)).setSlot x.toNatClampNeg (zmv G (zr v))) → H'.size = H.size → (∀ q, q ≠ zb G + i → H'[q]? = H[q]?) → W p l e R s m args below meth c H' (locs ++ [⟨zb G + i, x.toNatClampNeg⟩]) cells slots Q (F0 m (pc + 1) la (zst G st)) := by
    intro H' e1 e2 e3
    refine kk H' _ la (zastV (v := zmv G (zr v)) (k := x.toNatClampNeg) hi (by omega) hW e1 e2 e3 rfl rfl (fun _ _ _ => rfl) (fun _ _ _ => rfl) (fun j k2 h => zup_row _ h _ _ _) (fun j => ?_)) (zlocs hq) hl1
    unfold zarrV updV
    rw [hK]
    show zmv G (zr (zup S.2.2.1 i x.toNatClampNeg v i j)) = _
    rw [zup_upd]
    by_cases hj : j = x.toNatClampNeg
    · rw [if_pos hj, if_pos hj]
    · rw [if_neg hj, if_neg hj]
      rfl
  have hin := zidx hx
  cases v with
  | none =>
    exact va_WaastN (C := zNm 10) hxx hb hc (by rw [hK]; exact (hKK.1.2 5 _ rfl).1 _ _) (fun q => by cases q) (by rw [arrV_size]; exact hin) rfl rfl d fin
  | some j =>
    obtain ⟨hjK, hjn⟩ := hv j rfl
    obtain ⟨cellV, g1, g2, g3, -⟩ := zcell_obj (hW.2.2.2.1 j hjn) (by omega)
    have hjX : j < zX := by have := hW.2.1; omega
    have hcls := (hKK.1.1 10 _ (zCL_at (by decide))).2
    obtain ⟨kA, comp, k1, k2, k3, -⟩ := (hKK.1.2 5 _ rfl).2
    have hcomp : comp = G.2.2.1.1 10 := Option.some.inj (k3.symm.trans hcls.1)
    subst hcomp
    obtain ⟨kC, hkC, -⟩ := hcls.2
    rw [hjK] at g2
    show W p l e R s m args below meth c H locs cells slots Q (F0 m pc la (Value.ref (zad G j) :: .int x :: Value.ref (zb G + i) :: zst G st))
    have fin' := fin
    rw [show zmv G (zr (some j)) = .ref (zad G j) from rfl, zad_lt hjX] at fin'
    rw [zad_lt hjX]
    exact W.aast hxx hb hc (fun q h => by cases h) (fun h => by cases h) (by rw [hK]; exact k1) k2 rfl hkC ⟨fun h => hin (Or.inl h), by show _ < (arrV _ _ _).slots.size; rw [arrV_size]; exact hx.2⟩ g1 (fun q h => by rw [g3] at h; cases h) (by rw [g2]; exact hkC) (by rw [g2]; exact va_assign hcls) rfl rfl d fin' 
theorem z_alen50 (C : zC p s m args meth c G cc nL own) {i : Nat} (hi : (f = true ∧ i < zN0) ∨ i < zN S) (hK : zK i = 50) (d : decode cc pc = .ok (.arraylength, 1))
    (kk : zJ p l e R s m args below meth c G f nL cells slots Q S (pc + 1) ls (zi (zA S i).toInt32 :: st)) : zJ p l e R s m args below meth c G f nL cells slots Q S pc ls (zr (some i) :: st) := by
  intro H locs la hW hq hl1
  obtain ⟨hxx, hb, hml, hown, hts, hlk, hKK⟩ := C
  obtain ⟨hn, hX⟩ := zin_n hW hi
  have hc := zcell_arr (hW.2.2.2.1 i hn) (by omega)
  show W p l e R s m args below meth c H locs cells slots Q (F0 m pc la (Value.ref (zad G i) :: zst G st))
  rw [zad_lt hX]
  exact W.alen hxx hb hc (by rw [hK]; exact (hKK.1.2 0 _ rfl).1 _ _) (by rw [arrV_size]) rfl rfl d (kk H locs la hW hq hl1)
theorem z_alen51 (C : zC p s m args meth c G cc nL own) {i : Nat} (hi : (f = true ∧ i < zN0) ∨ i < zN S) (hK : zK i = 51) (d : decode cc pc = .ok (.arraylength, 1))
    (kk : zJ p l e R s m args below meth c G f nL cells slots Q S (pc + 1) ls (zi (zA S i).toInt32 :: st)) : zJ p l e R s m args below meth c G f nL cells slots Q S pc ls (zr (some i) :: st) := by
  intro H locs la hW hq hl1
  obtain ⟨hxx, hb, hml, hown, hts, hlk, hKK⟩ := C
  obtain ⟨hn, hX⟩ := zin_n hW hi
  have hc := zcell_arr (hW.2.2.2.1 i hn) (by omega)
  show W p l e R s m args below meth c H locs cells slots Q (F0 m pc la (Value.ref (zad G i) :: zst G st))
  rw [zad_lt hX]
  exact W.alen hxx hb hc (by rw [hK]; exact (hKK.1.2 1 _ rfl).1 _ _) (by rw [arrV_size]) rfl rfl d (kk H locs la hW hq hl1)
theorem z_alen52 (C : zC p s m args meth c G cc nL own) {i : Nat} (hi : (f = true ∧ i < zN0) ∨ i < zN S) (hK : zK i = 52) (d : decode cc pc = .ok (.arraylength, 1))
    (kk : zJ p l e R s m args below meth c G f nL cells slots Q S (pc + 1) ls (zi (zA S i).toInt32 :: st)) : zJ p l e R s m args below meth c G f nL cells slots Q S pc ls (zr (some i) :: st) := by
  intro H locs la hW hq hl1
  obtain ⟨hxx, hb, hml, hown, hts, hlk, hKK⟩ := C
  obtain ⟨hn, hX⟩ := zin_n hW hi
  have hc := zcell_arr (hW.2.2.2.1 i hn) (by omega)
  show W p l e R s m args below meth c H locs cells slots Q (F0 m pc la (Value.ref (zad G i) :: zst G st))
  rw [zad_lt hX]
  exact W.alen hxx hb hc (by rw [hK]; exact (hKK.1.2 2 _ rfl).1 _ _) (by rw [arrV_size]) rfl rfl d (kk H locs la hW hq hl1)
theorem z_alen55 (C : zC p s m args meth c G cc nL own) {i : Nat} (hi : (f = true ∧ i < zN0) ∨ i < zN S) (hK : zK i = 55) (d : decode cc pc = .ok (.arraylength, 1))
    (kk : zJ p l e R s m args below meth c G f nL cells slots Q S (pc + 1) ls (zi (zA S i).toInt32 :: st)) : zJ p l e R s m args below meth c G f nL cells slots Q S pc ls (zr (some i) :: st) := by
  intro H locs la hW hq hl1
  obtain ⟨hxx, hb, hml, hown, hts, hlk, hKK⟩ := C
  obtain ⟨hn, hX⟩ := zin_n hW hi
  have hc := zcell_arr (hW.2.2.2.1 i hn) (by omega)
  show W p l e R s m args below meth c H locs cells slots Q (F0 m pc la (Value.ref (zad G i) :: zst G st))
  rw [zad_lt hX]
  exact W.alen hxx hb hc (by rw [hK]; exact (hKK.1.2 5 _ rfl).1 _ _) (by rw [arrV_size]) rfl rfl d (kk H locs la hW hq hl1)
end ZR2

/-! the reference evaluates kept tokens: the place and whether it is broken; all else stays -/
def zEv (S : zSt) (g b : Int32) : zSt := zwI (zwI S 72 22 g) 72 24 b
theorem zEv_22 (S : zSt) (g b : Int32) : zI (zEv S g b) 72 22 = g := by unfold zEv; rw [qIIo _ _ (by omega), qIIs]
theorem zEv_24 (S : zSt) (g b : Int32) : zI (zEv S g b) 72 24 = b := by unfold zEv; rw [qIIs]
theorem zEv_o (S : zSt) (g b : Int32) {j k : Nat} (h : j ≠ 72 ∨ (k ≠ 22 ∧ k ≠ 24)) : zI (zEv S g b) j k = zI S j k := by unfold zEv; rw [qIIo _ _ (by omega), qIIo _ _ (by omega)]
theorem zEv_w22 (S : zSt) (g b g' : Int32) : zwI (zEv S g b) 72 22 g' = zEv S g' b := by
  unfold zEv zwI zup
  refine congrArg (fun f => (f, S.2)) ?_
  funext j l
  by_cases hj : j = 72
  · by_cases h1 : l = 22
    · simp [hj, h1]
    · simp [hj, h1]
  · simp [hj]
theorem zEv_w24 (S : zSt) (g b b' : Int32) : zwI (zEv S g b) 72 24 b' = zEv S g b' := by
  unfold zEv zwI zup
  refine congrArg (fun f => (f, S.2)) ?_
  funext j l
  by_cases hj : j = 72
  · by_cases h1 : l = 24
    · simp [hj, h1]
    · simp [hj, h1]
  · simp [hj]
/-- a kept text: from A on, N tokens -/
def zES (S : zSt) (A N : Nat) (C V : Nat → Int32) : Prop := A ≤ 2400 ∧ N ≤ 400 ∧ zI S 72 23 = nI (A + N) ∧ (∀ k, k < N → zI S 74 (207 + (A + k)) = C k ∧ vR (zI S 74 (3007 + (A + k))) (V k)) ∧ (∀ k, N ≤ k → C k = 0) ∧ ∀ k, 0 ≤ (V k).toInt
theorem e_in {S : zSt} {A N : Nat} {C V : Nat → Int32} (h : zES S A N C V) {i : Nat} (hc : C i ≠ 0) : i < N := Nat.lt_of_not_le (fun h2 => hc (h.2.2.2.2.1 i h2))
theorem e_code {S : zSt} {A N : Nat} {C V : Nat → Int32} (h : zES S A N C V) {i : Nat} (hi : i ≤ 1000) (g b : Int32) : f_M_codeAt (nI (A + i)) (zEv S g b) = some (C i) := by
  obtain ⟨h1, h2, h3, h4, h5, -⟩ := h
  unfold f_M_codeAt
  rw [zEv_o _ _ _ (Or.inr ⟨by omega, by omega⟩), h3]
  by_cases hN : N ≤ i
  · rw [if_pos ((n_le (by omega) (by omega)).mpr (by omega)), h5 i hN]
  · rw [if_neg (fun h => absurd ((n_le (by omega) (by omega)).mp h) (by omega)), show (207 : Int32) = nI 207 from rfl, n_add, n_gd (by omega) (by omega), q_cl (by omega), zEv_o _ _ _ (Or.inl (by omega)), (h4 i (by omega)).1]
theorem e_pass {S : zSt} {A N : Nat} {C V : Nat → Int32} (h : zES S A N C V) {i : Nat} (hi : i ≤ 1000) (b c : Int32) : f_M_passes0 c (zEv S (nI (A + i)) b) = if C i = c then some (1, zEv S (nI (A + (i + 1))) b) else some (0, zEv S (nI (A + i)) b) := by
  unfold f_M_passes0
  rw [zEv_22, qb1 (e_code h hi _ _)]
  by_cases hc : C i = c
  · rw [if_pos hc, if_pos hc, f_M_passes0_17, if_neg (by decide), qgd (by decide), zEv_22, n_1, zEv_w22]
    rfl
  · rw [if_neg hc, if_neg hc, f_M_passes0_17, if_pos rfl, qgd (by decide)]
/-! values and ways to be evaluated -/
def rE (o : Option Int) : Int64 × Int32 := match o with
  | some v => (Int64.ofInt v, 0)
  | none => (0, 1)
/-- how a piece is gone along: asked; asked while broken; not asked, broken or not -/
abbrev eM : Type := Bool ⊕ Bool
def eLv (μ : eM) : Int32 := match μ with
  | .inl _ => 1
  | .inr _ => 0
def eB (μ : eM) : Int32 := match μ with
  | .inl true => 0
  | .inl false => 1
  | .inr b => b2 b
def eDen (E : lE) (μ : eM) (d : lD) : Int64 × Int32 := match μ with
  | .inl true => rE (d E)
  | .inl false => (0, 1)
  | .inr b => (0, b2 b)
def eAft (E : lE) (μ : eM) (d : lD) : eM := match μ with
  | .inl true => .inl (d E).isSome
  | .inl false => .inl false
  | .inr b => .inr b
theorem eAft_lv (E : lE) (μ : eM) (d : lD) : eLv (eAft E μ d) = eLv μ := by
  rcases μ with (_ | _) | b <;> rfl
theorem eAft_b (E : lE) (μ : eM) (d : lD) : eB (eAft E μ d) = (eDen E μ d).2 := by
  rcases μ with (_ | _) | b
  · rfl
  · show eB (.inl (d E).isSome) = (rE (d E)).2
    cases d E <;> rfl
  · rfl
def dRg (E : lE) (d : lD) : Prop := ∀ v, d E = some v → -2147483648 ≤ v ∧ v ≤ 2147483648
theorem lbd_rg {z v : Int} (h : lbd z = some v) : -2147483648 ≤ v ∧ v ≤ 2147483648 := by
  unfold lbd at h
  split at h
  · cases h
  · injection h with h; omega
theorem lop_rg {w : Nat} {x y v : Int} (h : lop w x y = some v) : -2147483648 ≤ v ∧ v ≤ 2147483648 := by
  unfold lop at h
  split at h
  · exact lbd_rg h
  · exact lbd_rg h
  · exact lbd_rg h
  · split at h
    · cases h
    · exact lbd_rg h
  · split at h
    · cases h
    · exact lbd_rg h
theorem dRg_op {E : lE} (w : Nat) (d1 d2 : lD) : dRg E (lopD w d1 d2) := by
  intro v hv
  unfold lopD at hv
  cases h1 : d1 E with
  | none => rw [h1] at hv; cases hv
  | some x =>
    rw [h1] at hv
    cases h2 : d2 E with
    | none => rw [h2] at hv; cases hv
    | some y => rw [h2] at hv; exact lop_rg hv
theorem bd_live {S : zSt} {z : Int} (h : -9000000000000000000 ≤ z ∧ z ≤ 9000000000000000000) (g : Int32) : f_M_bounded (Int64.ofInt z) 1 (zEv S g 0) = some ((rE (lbd z)).1, zEv S g (rE (lbd z)).2) := by
  have e1 : (1000000000 : Int64) = Int64.ofInt 1000000000 := by decide +kernel
  have e2 : (-1000000000 : Int64) = Int64.ofInt (-1000000000) := by decide +kernel
  have h1 := w_gt (y := z) (z := 1000000000) (by omega) (by omega)
  have h2 := w_ge (y := z) (z := -1000000000) (by omega) (by omega)
  have n1 : ¬ (1 : Int32) = 0 := by decide
  unfold f_M_bounded lbd
  rw [if_neg n1, e2, e1, zEv_24, zEv_w24, zEv_24]
  by_cases a : 1000000000 < z
  · rw [if_pos (h1.mpr a), if_pos (Or.inl a), if_neg n1]; rfl
  · rw [if_neg (fun h => a (h1.mp h))]
    by_cases b : -1000000000 ≤ z
    · have c : ¬ (1000000000 < z ∨ z < -1000000000) := by omega
      rw [if_pos (h2.mpr b), if_neg c, if_pos (show (0 : Int32) = 0 from rfl)]; rfl
    · have c : 1000000000 < z ∨ z < -1000000000 := by omega
      rw [if_neg (fun h => b (h2.mp h)), if_pos c, if_neg n1]; rfl
theorem bd_br (S : zSt) (x : Int64) (g : Int32) : f_M_bounded x 1 (zEv S g 1) = some (0, zEv S g 1) := by
  have n1 : ¬ (1 : Int32) = 0 := by decide
  unfold f_M_bounded
  rw [if_neg n1, zEv_24, zEv_w24, zEv_24, if_neg n1]
  split
  · rfl
  · split <;> rfl
theorem bd_dead (S : zSt) (g b : Int32) : f_M_bounded 0 0 (zEv S g b) = some (0, zEv S g b) := by
  unfold f_M_bounded
  rw [if_pos rfl, zEv_24]
  split <;> rfl
/-- a piece that tells a number is gone along as the spec says -/
def eOk (S : zSt) (A N : Nat) (E : lE) (f : Int32 → zSt → Option (Int64 × zSt)) (p : Nat → Nat → lR) : Prop := ∀ i q j q' d, i ≤ N → p i q = .inr (j, q', d) → i < j ∧ j ≤ N ∧ dRg E d ∧ ∀ μ, f (eLv μ) (zEv S (nI (A + i)) (eB μ)) = some ((eDen E μ d).1, zEv S (nI (A + j)) (eDen E μ d).2)
/-- sums -/
theorem e_add {S : zSt} (E : lE) (μ : eM) {d d' : lD} (h1 : dRg E d) (h2 : dRg E d') (g : Int32) (w : Nat) (hw : w = 5 ∨ w = 6) :
    f_M_bounded (if w = 5 then (eDen E μ d).1 + (eDen E (eAft E μ d) d').1 else (eDen E μ d).1 - (eDen E (eAft E μ d) d').1) (eLv μ) (zEv S g (eDen E (eAft E μ d) d').2) = some ((eDen E μ (lopD w d d')).1, zEv S g (eDen E μ (lopD w d d')).2) := by
  rcases μ with (_ | _) | b
  · exact bd_br S _ g
  · show f_M_bounded (if w = 5 then (rE (d E)).1 + (eDen E (.inl (d E).isSome) d').1 else (rE (d E)).1 - (eDen E (.inl (d E).isSome) d').1) 1 (zEv S g (eDen E (.inl (d E).isSome) d').2) = some ((rE (lopD w d d' E)).1, zEv S g (rE (lopD w d d' E)).2)
    unfold lopD
    cases hd : d E with
    | none => exact bd_br S _ g
    | some x =>
      show f_M_bounded (if w = 5 then Int64.ofInt x + (rE (d' E)).1 else Int64.ofInt x - (rE (d' E)).1) 1 (zEv S g (rE (d' E)).2) = some ((rE ((d' E).bind fun y => lop w x y)).1, zEv S g (rE ((d' E).bind fun y => lop w x y)).2)
      cases hd' : d' E with
      | none => exact bd_br S _ g
      | some y =>
        have r1 := h1 x hd
        have r2 := h2 y hd'
        rcases hw with rfl | rfl
        · rw [if_pos rfl]
          show f_M_bounded (Int64.ofInt x + Int64.ofInt y) 1 (zEv S g 0) = some ((rE (lbd (x + y))).1, zEv S g (rE (lbd (x + y))).2)
          rw [← Int64.ofInt_add]
          exact bd_live (by omega) g
        · rw [if_neg (by omega)]
          show f_M_bounded (Int64.ofInt x - Int64.ofInt y) 1 (zEv S g 0) = some ((rE (lbd (x - y))).1, zEv S g (rE (lbd (x - y))).2)
          rw [← Int64.ofInt_sub]
          exact bd_live (by omega) g
  · have e : (if w = 5 then (0 : Int64) + 0 else 0 - 0) = 0 := by
      rcases hw with rfl | rfl <;> rfl
    show f_M_bounded (if w = 5 then (0 : Int64) + 0 else 0 - 0) 0 (zEv S g (b2 b)) = some (0, zEv S g (b2 b))
    rw [e]
    exact bd_dead S g (b2 b)
/-- products -/
theorem e_mul {S : zSt} (f : Int32 → zSt → Option (Int64 × zSt)) (fu : Nat) (k6 : Int32 → Int64 → zSt → Option (Int64 × zSt)) (E : lE) (μ : eM) {d d' : lD} (h1 : dRg E d) (h2 : dRg E d') (g : Int32) (w : Nat) (c : Int32) (hw : (w = 7 ∧ c = 142) ∨ (w = 8 ∧ c = 147) ∨ (w = 9 ∧ c = 137)) :
    zb1 (f_M_sign (42 : Int32)) (fun r7 => if c = r7 then f_M_termOf_121 f fu k6 (eLv μ) (eDen E μ d).1 c (eDen E (eAft E μ d) d').1 (zEv S g (eDen E (eAft E μ d) d').2) else if (lg_cmp (eDen E (eAft E μ d) d').1 (0 : Int64)) = 0 then if (zI (zEv S g (eDen E (eAft E μ d) d').2) 72 24) = 0 then if (eLv μ) = 0 then f_M_termOf_121 f fu k6 (eLv μ) (eDen E μ d).1 c (1 : Int64) (zwI (zEv S g (eDen E (eAft E μ d) d').2) 72 24 (0 : Int32)) else f_M_termOf_121 f fu k6 (eLv μ) (eDen E μ d).1 c (1 : Int64) (zwI (zEv S g (eDen E (eAft E μ d) d').2) 72 24 (1 : Int32)) else f_M_termOf_121 f fu k6 (eLv μ) (eDen E μ d).1 c (1 : Int64) (zwI (zEv S g (eDen E (eAft E μ d) d').2) 72 24 (1 : Int32)) else f_M_termOf_121 f fu k6 (eLv μ) (eDen E μ d).1 c (eDen E (eAft E μ d) d').1 (zEv S g (eDen E (eAft E μ d) d').2)) = k6 (eLv μ) (eDen E μ (lopD w d d')).1 (zEv S g (eDen E μ (lopD w d d')).2) := by
  have e42 : f_M_sign 42 = some 142 := rfl
  have e47 : f_M_sign 47 = some 147 := rfl
  have z0 : lg_cmp (0 : Int64) (0 : Int64) = 0 := by decide +kernel
  have n1 : ¬ ((1 : Int64) = 0) := by decide +kernel
  have l0 : (0 : Int64) / 1 = 0 := by decide +kernel
  have l1 : (0 : Int64) - 0 / 1 * 1 = 0 := by decide +kernel
  rw [e42, qb1s]
  -- broken from the start
  have BR : ∀ (x : Int64), (if c = 142 then f_M_termOf_121 f fu k6 1 x c 0 (zEv S g 1) else if (lg_cmp (0 : Int64) (0 : Int64)) = 0 then if (zI (zEv S g 1) 72 24) = 0 then if (1 : Int32) = 0 then f_M_termOf_121 f fu k6 1 x c (1 : Int64) (zwI (zEv S g 1) 72 24 (0 : Int32)) else f_M_termOf_121 f fu k6 1 x c (1 : Int64) (zwI (zEv S g 1) 72 24 (1 : Int32)) else f_M_termOf_121 f fu k6 1 x c (1 : Int64) (zwI (zEv S g 1) 72 24 (1 : Int32)) else f_M_termOf_121 f fu k6 1 x c 0 (zEv S g 1)) = k6 1 0 (zEv S g 1) := by
    intro x
    rw [if_pos z0, zEv_24, if_neg (show ¬ (1 : Int32) = 0 by decide), zEv_w24]
    rcases hw with ⟨-, rfl⟩ | ⟨-, rfl⟩ | ⟨-, rfl⟩
    · rw [if_pos rfl, f_M_termOf_121, e42, qb1s, if_pos rfl, qb2 (bd_br S _ g)]
    · rw [if_neg (by decide), f_M_termOf_121, e42, qb1s, if_neg (by decide), e47, qb1s, if_pos rfl, qgd n1, qb2 (bd_br S _ g)]
    · rw [if_neg (by decide), f_M_termOf_121, e42, qb1s, if_neg (by decide), e47, qb1s, if_neg (by decide), qgd n1, qb2 (bd_br S _ g)]
  rcases μ with (_ | _) | b
  · exact BR 0
  · show (if c = 142 then f_M_termOf_121 f fu k6 1 (rE (d E)).1 c (eDen E (.inl (d E).isSome) d').1 (zEv S g (eDen E (.inl (d E).isSome) d').2) else if (lg_cmp (eDen E (.inl (d E).isSome) d').1 (0 : Int64)) = 0 then if (zI (zEv S g (eDen E (.inl (d E).isSome) d').2) 72 24) = 0 then if (1 : Int32) = 0 then f_M_termOf_121 f fu k6 1 (rE (d E)).1 c (1 : Int64) (zwI (zEv S g (eDen E (.inl (d E).isSome) d').2) 72 24 (0 : Int32)) else f_M_termOf_121 f fu k6 1 (rE (d E)).1 c (1 : Int64) (zwI (zEv S g (eDen E (.inl (d E).isSome) d').2) 72 24 (1 : Int32)) else f_M_termOf_121 f fu k6 1 (rE (d E)).1 c (1 : Int64) (zwI (zEv S g (eDen E (.inl (d E).isSome) d').2) 72 24 (1 : Int32)) else f_M_termOf_121 f fu k6 1 (rE (d E)).1 c (eDen E (.inl (d E).isSome) d').1 (zEv S g (eDen E (.inl (d E).isSome) d').2)) = k6 1 (rE (lopD w d d' E)).1 (zEv S g (rE (lopD w d d' E)).2)
    unfold lopD
    cases hd : d E with
    | none => exact BR 0
    | some x =>
      have r1 := h1 x hd
      show (if c = 142 then f_M_termOf_121 f fu k6 1 (Int64.ofInt x) c (rE (d' E)).1 (zEv S g (rE (d' E)).2) else if (lg_cmp (rE (d' E)).1 (0 : Int64)) = 0 then if (zI (zEv S g (rE (d' E)).2) 72 24) = 0 then if (1 : Int32) = 0 then f_M_termOf_121 f fu k6 1 (Int64.ofInt x) c (1 : Int64) (zwI (zEv S g (rE (d' E)).2) 72 24 (0 : Int32)) else f_M_termOf_121 f fu k6 1 (Int64.ofInt x) c (1 : Int64) (zwI (zEv S g (rE (d' E)).2) 72 24 (1 : Int32)) else f_M_termOf_121 f fu k6 1 (Int64.ofInt x) c (1 : Int64) (zwI (zEv S g (rE (d' E)).2) 72 24 (1 : Int32)) else f_M_termOf_121 f fu k6 1 (Int64.ofInt x) c (rE (d' E)).1 (zEv S g (rE (d' E)).2)) = k6 1 (rE ((d' E).bind fun y => lop w x y)).1 (zEv S g (rE ((d' E).bind fun y => lop w x y)).2)
      cases hd' : d' E with
      | none => exact BR (Int64.ofInt x)
      | some y =>
        have r2 := h2 y hd'
        have e0 : (0 : Int64) = Int64.ofInt 0 := by decide +kernel
        have c0 := w_cmp0 (y := y) (z := 0) (by omega) (by omega)
        show (if c = 142 then f_M_termOf_121 f fu k6 1 (Int64.ofInt x) c (Int64.ofInt y) (zEv S g 0) else if (lg_cmp (Int64.ofInt y) (0 : Int64)) = 0 then if (zI (zEv S g 0) 72 24) = 0 then if (1 : Int32) = 0 then f_M_termOf_121 f fu k6 1 (Int64.ofInt x) c (1 : Int64) (zwI (zEv S g 0) 72 24 (0 : Int32)) else f_M_termOf_121 f fu k6 1 (Int64.ofInt x) c (1 : Int64) (zwI (zEv S g 0) 72 24 (1 : Int32)) else f_M_termOf_121 f fu k6 1 (Int64.ofInt x) c (1 : Int64) (zwI (zEv S g 0) 72 24 (1 : Int32)) else f_M_termOf_121 f fu k6 1 (Int64.ofInt x) c (Int64.ofInt y) (zEv S g 0)) = k6 1 (rE (lop w x y)).1 (zEv S g (rE (lop w x y)).2)
        rw [zEv_24, if_pos (show (0 : Int32) = 0 from rfl), if_neg (show ¬ (1 : Int32) = 0 by decide), zEv_w24]
        have hm := prod_rg (x := x) (y := y) (by omega) (by omega)
        rcases hw with ⟨rfl, rfl⟩ | ⟨rfl, rfl⟩ | ⟨rfl, rfl⟩
        · rw [if_pos rfl, f_M_termOf_121, e42, qb1s, if_pos rfl, ← Int64.ofInt_mul, qb2 (bd_live (by omega) g)]
          rfl
        · rw [if_neg (by decide)]
          by_cases hy : y = 0
          · rw [if_pos (by rw [e0]; exact c0.mpr hy), f_M_termOf_121, e42, qb1s, if_neg (by decide), e47, qb1s, if_pos rfl, qgd n1, qb2 (bd_br S _ g)]
            show _ = k6 1 (rE (if y = 0 then none else lbd (x.tdiv y))).1 (zEv S g (rE (if y = 0 then none else lbd (x.tdiv y))).2)
            rw [if_pos hy]; rfl
          · have ny : ¬ Int64.ofInt y = 0 := fun h => hy (by rw [e0] at h; exact (w_inj (by omega) (by omega)).mp h)
            have := tdiv_rg (y := x) (z := y) (by omega)
            rw [if_neg (by rw [e0]; exact fun h => hy (c0.mp h)), f_M_termOf_121, e42, qb1s, if_neg (by decide), e47, qb1s, if_pos rfl, qgd ny, w_div (by omega) (by omega), qb2 (bd_live (by omega) g)]
            show _ = k6 1 (rE (if y = 0 then none else lbd (x.tdiv y))).1 (zEv S g (rE (if y = 0 then none else lbd (x.tdiv y))).2)
            rw [if_neg hy]
        · rw [if_neg (by decide)]
          by_cases hy : y = 0
          · rw [if_pos (by rw [e0]; exact c0.mpr hy), f_M_termOf_121, e42, qb1s, if_neg (by decide), e47, qb1s, if_neg (by decide), qgd n1, qb2 (bd_br S _ g)]
            show _ = k6 1 (rE (if y = 0 then none else lbd (x.tmod y))).1 (zEv S g (rE (if y = 0 then none else lbd (x.tmod y))).2)
            rw [if_pos hy]; rfl
          · have ny : ¬ Int64.ofInt y = 0 := fun h => hy (by rw [e0] at h; exact (w_inj (by omega) (by omega)).mp h)
            have h3 : -4700000000000000000 ≤ x.tmod y ∧ x.tmod y ≤ 4700000000000000000 := by
              have h5 := Int.natAbs_tmod x y
              have h6 := Nat.mod_le x.natAbs y.natAbs
              omega
            rw [if_neg (by rw [e0]; exact fun h => hy (c0.mp h)), f_M_termOf_121, e42, qb1s, if_neg (by decide), e47, qb1s, if_neg (by decide), qgd ny, w_rem (by omega) (by omega), qb2 (bd_live (by omega) g)]
            show _ = k6 1 (rE (if y = 0 then none else lbd (x.tmod y))).1 (zEv S g (rE (if y = 0 then none else lbd (x.tmod y))).2)
            rw [if_neg hy]
  · show (if c = 142 then f_M_termOf_121 f fu k6 0 0 c 0 (zEv S g (b2 b)) else if (lg_cmp (0 : Int64) (0 : Int64)) = 0 then if (zI (zEv S g (b2 b)) 72 24) = 0 then if (0 : Int32) = 0 then f_M_termOf_121 f fu k6 0 0 c (1 : Int64) (zwI (zEv S g (b2 b)) 72 24 (0 : Int32)) else f_M_termOf_121 f fu k6 0 0 c (1 : Int64) (zwI (zEv S g (b2 b)) 72 24 (1 : Int32)) else f_M_termOf_121 f fu k6 0 0 c (1 : Int64) (zwI (zEv S g (b2 b)) 72 24 (1 : Int32)) else f_M_termOf_121 f fu k6 0 0 c 0 (zEv S g (b2 b))) = k6 0 0 (zEv S g (b2 b))
    have m0 : (0 : Int64) * 0 = 0 := by decide +kernel
    have eb : (if b2 b = 0 then if (0 : Int32) = 0 then f_M_termOf_121 f fu k6 0 0 c (1 : Int64) (zEv S g 0) else f_M_termOf_121 f fu k6 0 0 c (1 : Int64) (zEv S g 1) else f_M_termOf_121 f fu k6 0 0 c (1 : Int64) (zEv S g 1)) = f_M_termOf_121 f fu k6 0 0 c (1 : Int64) (zEv S g (b2 b)) := by
      cases b <;> rfl
    rw [zEv_24, zEv_w24, zEv_w24, eb, if_pos z0]
    rcases hw with ⟨-, rfl⟩ | ⟨-, rfl⟩ | ⟨-, rfl⟩
    · rw [if_pos rfl, f_M_termOf_121, e42, qb1s, if_pos rfl, m0, qb2 (bd_dead S g (b2 b))]
    · rw [if_neg (by decide), f_M_termOf_121, e42, qb1s, if_neg (by decide), e47, qb1s, if_pos rfl, qgd n1, l0, qb2 (bd_dead S g (b2 b))]
    · rw [if_neg (by decide), f_M_termOf_121, e42, qb1s, if_neg (by decide), e47, qb1s, if_neg (by decide), qgd n1, l1, qb2 (bd_dead S g (b2 b))]
section MEV
variable {S : zSt} {A N : Nat} {C V : Nat → Int32} {E : lE}
theorem et_loop (fu : Nat) (hS : zES S A N C V) (f : Int32 → zSt → Option (Int64 × zSt)) {p : Nat → Nat → lR} (hp : eOk S A N E f p) : ∀ (n m i q : Nat) (d : lD) (j q' : Nat) (df : lD), i ≤ N → 402 ≤ n + i → dRg E d → lloopT p C m i q d = .inr (j, q', df) → 401 ≤ m + i →
    i ≤ j ∧ j ≤ N ∧ dRg E df ∧ ∀ μ, f_M_termOf_6 f fu n (eLv μ) (eDen E μ d).1 (zEv S (nI (A + i)) (eDen E μ d).2) = some ((eDen E μ df).1, zEv S (nI (A + j)) (eDen E μ df).2) := by
  have hN := hS.2.1
  intro n
  induction n with
  | zero => intro m i q d j q' df h1 h2; omega
  | succ n ih =>
    intro m i q d j q' df h1 h2 h3 h4 h5
    obtain ⟨m, rfl⟩ : ∃ m', m = m' + 1 := ⟨m - 1, by omega⟩
    rw [lloopT] at h4
    have e42 : f_M_sign 42 = some 142 := rfl
    have e47 : f_M_sign 47 = some 147 := rfl
    have e37 : f_M_sign 37 = some 137 := rfl
    have hco : ∀ b, f_M_codeAt (zI (zEv S (nI (A + i)) b) 72 22) (zEv S (nI (A + i)) b) = some (C i) := fun b => by rw [zEv_22]; exact e_code hS (by omega) _ _
    have STEP : ∀ w, (w = 7 ∧ C i = 142) ∨ (w = 8 ∧ C i = 147) ∨ (w = 9 ∧ C i = 137) → (match p (i + 1) q with
        | .inl j => .inl j
        | .inr (j, q', d') => lloopT p C m j q' (lopD w d d') : lR) = .inr (j, q', df) → i ≤ j ∧ j ≤ N ∧ dRg E df ∧ ∀ μ, f_M_termOf_54 f fu (f_M_termOf_6 f fu n) (eLv μ) (eDen E μ d).1 (zEv S (nI (A + i)) (eDen E μ d).2) = some ((eDen E μ df).1, zEv S (nI (A + j)) (eDen E μ df).2) := by
      intro w hw h6
      have h0 : C i ≠ 0 := by rcases hw with h | h | h <;> rw [h.2] <;> decide
      have hlt := e_in hS h0
      cases hpt : p (i + 1) q with
      | inl k => rw [hpt] at h6; cases h6
      | inr x =>
        obtain ⟨k, q2, d'⟩ := x
        rw [hpt] at h6
        obtain ⟨g0, g1, g2, g3⟩ := hp (i + 1) q k q2 d' (by omega) hpt
        obtain ⟨y0, y1, y2, y3⟩ := ih m k q2 (lopD w d d') j q' df g1 (by omega) (dRg_op w d d') h6 (by omega)
        refine ⟨by omega, y1, y2, fun μ => ?_⟩
        unfold f_M_termOf_54
        have g4 := g3 (eAft E μ d)
        rw [eAft_lv, eAft_b] at g4
        rw [qb1 (hco _), zEv_22, n_1, zEv_w22, Nat.add_assoc, qb2 g4]
        exact (e_mul f fu (f_M_termOf_6 f fu n) E μ h3 g2 (nI (A + k)) w (C i) hw).trans (y3 μ)
    by_cases c1 : C i = 142
    · have hor : C i = 142 ∨ C i = 147 ∨ C i = 137 := Or.inl c1
      simp only [if_pos hor, if_pos c1] at h4
      obtain ⟨y0, y1, y2, y3⟩ := STEP 7 (Or.inl ⟨rfl, c1⟩) h4
      refine ⟨y0, y1, y2, fun μ => ?_⟩
      rw [f_M_termOf_6, qb1 (hco _), e42, qb1s, if_pos c1]
      exact y3 μ
    by_cases c2 : C i = 147
    · have hor : C i = 142 ∨ C i = 147 ∨ C i = 137 := Or.inr (Or.inl c2)
      simp only [if_pos hor, if_neg c1, if_pos c2] at h4
      obtain ⟨y0, y1, y2, y3⟩ := STEP 8 (Or.inr (Or.inl ⟨rfl, c2⟩)) h4
      refine ⟨y0, y1, y2, fun μ => ?_⟩
      rw [f_M_termOf_6, qb1 (hco _), e42, qb1s, if_neg c1, qb1 (hco _), e47, qb1s, if_pos c2]
      exact y3 μ
    by_cases c3 : C i = 137
    · have hor : C i = 142 ∨ C i = 147 ∨ C i = 137 := Or.inr (Or.inr c3)
      simp only [if_pos hor, if_neg c1, if_neg c2] at h4
      obtain ⟨y0, y1, y2, y3⟩ := STEP 9 (Or.inr (Or.inr ⟨rfl, c3⟩)) h4
      refine ⟨y0, y1, y2, fun μ => ?_⟩
      rw [f_M_termOf_6, qb1 (hco _), e42, qb1s, if_neg c1, qb1 (hco _), e47, qb1s, if_neg c2, qb1 (hco _), e37, qb1s, if_pos c3]
      exact y3 μ
    · have hor : ¬ (C i = 142 ∨ C i = 147 ∨ C i = 137) := by
        rintro (h | h | h)
        · exact c1 h
        · exact c2 h
        · exact c3 h
      rw [if_neg hor] at h4
      injection h4 with h4
      injection h4 with h4 h6
      injection h6 with h6 h7
      subst h4
      subst h7
      refine ⟨Nat.le_refl _, h1, h3, fun μ => ?_⟩
      rw [f_M_termOf_6, qb1 (hco _), e42, qb1s, if_neg c1, qb1 (hco _), e47, qb1s, if_neg c2, qb1 (hco _), e37, qb1s, if_neg c3]
theorem et_ok (fu : Nat) (hfu : 500 ≤ fu) (hS : zES S A N C V) (f : Int32 → zSt → Option (Int64 × zSt)) {p : Nat → Nat → lR} {n : Nat} (hn : 401 ≤ n) (hp : eOk S A N E f p) : eOk S A N E (f_M_termOf_o f fu) (fun i q => lterm p C n i q) := by
  intro i q j q' d hi h
  have h' : (match p i q with
    | .inl j => .inl j
    | .inr (j, q', d) => lloopT p C n j q' d : lR) = .inr (j, q', d) := h
  cases hpt : p i q with
  | inl k => rw [hpt] at h'; cases h'
  | inr x =>
    obtain ⟨k, q2, d2⟩ := x
    rw [hpt] at h'
    obtain ⟨g0, g1, g2, g3⟩ := hp i q k q2 d2 hi hpt
    obtain ⟨y0, y1, y2, y3⟩ := et_loop fu hS f hp fu n k q2 d2 j q' d g1 (by omega) g2 h' (by omega)
    refine ⟨by omega, y1, y2, fun μ => ?_⟩
    unfold f_M_termOf_o
    rw [qb2 (g3 μ)]
    exact y3 μ
theorem es_loop (fu : Nat) (hS : zES S A N C V) (f : Int32 → zSt → Option (Int64 × zSt)) {p : Nat → Nat → lR} {M : Nat} (hp : eOk S A N E f (fun i q => lterm p C M i q)) : ∀ (n m i q : Nat) (d : lD) (j q' : Nat) (df : lD), i ≤ N → 402 ≤ n + i → dRg E d → lloopS p C M m i q d = .inr (j, q', df) → 401 ≤ m + i →
    i ≤ j ∧ j ≤ N ∧ dRg E df ∧ ∀ μ, f_M_sumOf_6 f fu n (eLv μ) (eDen E μ d).1 (zEv S (nI (A + i)) (eDen E μ d).2) = some ((eDen E μ df).1, zEv S (nI (A + j)) (eDen E μ df).2) := by
  have hN := hS.2.1
  intro n
  induction n with
  | zero => intro m i q d j q' df h1 h2; omega
  | succ n ih =>
    intro m i q d j q' df h1 h2 h3 h4 h5
    obtain ⟨m, rfl⟩ : ∃ m', m = m' + 1 := ⟨m - 1, by omega⟩
    rw [lloopS] at h4
    have e43 : f_M_sign 43 = some 143 := rfl
    have e45 : f_M_sign 45 = some 145 := rfl
    have hco : ∀ b, f_M_codeAt (zI (zEv S (nI (A + i)) b) 72 22) (zEv S (nI (A + i)) b) = some (C i) := fun b => by rw [zEv_22]; exact e_code hS (by omega) _ _
    have STEP : ∀ w, w = 5 ∨ w = 6 → C i ≠ 0 → (match lterm p C M (i + 1) q with
        | .inl j => .inl j
        | .inr (j, q', d') => lloopS p C M m j q' (lopD w d d') : lR) = .inr (j, q', df) → i ≤ j ∧ j ≤ N ∧ dRg E df ∧ ∀ μ, f_M_sumOf_59 f fu (f_M_sumOf_6 f fu n) (eLv μ) (eDen E μ d).1 (if w = 5 then 1 else 0) (zEv S (nI (A + i)) (eDen E μ d).2) = some ((eDen E μ df).1, zEv S (nI (A + j)) (eDen E μ df).2) := by
      intro w hw h0 h6
      have hlt := e_in hS h0
      cases hpt : lterm p C M (i + 1) q with
      | inl k => rw [hpt] at h6; cases h6
      | inr x =>
        obtain ⟨k, q2, d'⟩ := x
        rw [hpt] at h6
        obtain ⟨g0, g1, g2, g3⟩ := hp (i + 1) q k q2 d' (by omega) hpt
        obtain ⟨y0, y1, y2, y3⟩ := ih m k q2 (lopD w d d') j q' df g1 (by omega) (dRg_op w d d') h6 (by omega)
        refine ⟨by omega, y1, y2, fun μ => ?_⟩
        unfold f_M_sumOf_59
        have g4 := g3 (eAft E μ d)
        rw [eAft_lv, eAft_b] at g4
        rw [zEv_22, n_1, zEv_w22, Nat.add_assoc, qb2 g4]
        have ad := e_add (S := S) E μ h3 g2 (nI (A + k)) w hw
        rcases hw with rfl | rfl
        · rw [show (if 5 = 5 then (1 : Int32) else 0) = 1 from rfl, if_neg (by decide)]
          rw [if_pos rfl] at ad
          rw [qb2 ad]
          exact y3 μ
        · rw [show (if 6 = 5 then (1 : Int32) else 0) = 0 from rfl, if_pos rfl]
          rw [if_neg (show ¬ 6 = 5 by omega)] at ad
          rw [qb2 ad]
          exact y3 μ
    by_cases c1 : C i = 143
    · have hor : C i = 143 ∨ C i = 145 := Or.inl c1
      simp only [if_pos hor, if_pos c1] at h4
      obtain ⟨y0, y1, y2, y3⟩ := STEP 5 (by omega) (by rw [c1]; decide) h4
      refine ⟨y0, y1, y2, fun μ => ?_⟩
      rw [f_M_sumOf_6, qb1 (hco _), e43, qb1s, if_pos c1, qb1 (hco _), qb1s, if_pos c1]
      exact y3 μ
    by_cases c2 : C i = 145
    · have hor : C i = 143 ∨ C i = 145 := Or.inr c2
      simp only [if_pos hor, if_neg c1] at h4
      obtain ⟨y0, y1, y2, y3⟩ := STEP 6 (by omega) (by rw [c2]; decide) h4
      refine ⟨y0, y1, y2, fun μ => ?_⟩
      rw [f_M_sumOf_6, qb1 (hco _), e43, qb1s, if_neg c1, qb1 (hco _), e45, qb1s, if_pos c2, qb1 (hco _), qb1s, if_neg c1]
      exact y3 μ
    · have hor : ¬ (C i = 143 ∨ C i = 145) := by
        rintro (h | h)
        · exact c1 h
        · exact c2 h
      rw [if_neg hor] at h4
      injection h4 with h4
      injection h4 with h4 h6
      injection h6 with h6 h7
      subst h4
      subst h7
      refine ⟨Nat.le_refl _, h1, h3, fun μ => ?_⟩
      rw [f_M_sumOf_6, qb1 (hco _), e43, qb1s, if_neg c1, qb1 (hco _), e45, qb1s, if_neg c2]
theorem es_ok (fu : Nat) (hfu : 500 ≤ fu) (hS : zES S A N C V) (f : Int32 → zSt → Option (Int64 × zSt)) {p : Nat → Nat → lR} {n : Nat} (hn : 401 ≤ n) (hp : eOk S A N E f (fun i q => lterm p C n i q)) : eOk S A N E (f_M_sumOf_o f fu) (fun i q => lsum p C n i q) := by
  intro i q j q' d hi h
  have h' : (match lterm p C n i q with
    | .inl j => .inl j
    | .inr (j, q', d) => lloopS p C n n j q' d : lR) = .inr (j, q', d) := h
  cases hpt : lterm p C n i q with
  | inl k => rw [hpt] at h'; cases h'
  | inr x =>
    obtain ⟨k, q2, d2⟩ := x
    rw [hpt] at h'
    obtain ⟨g0, g1, g2, g3⟩ := hp i q k q2 d2 hi hpt
    obtain ⟨y0, y1, y2, y3⟩ := es_loop fu hS f hp fu n k q2 d2 j q' d g1 (by omega) g2 h' (by omega)
    refine ⟨by omega, y1, y2, fun μ => ?_⟩
    unfold f_M_sumOf_o
    rw [qb2 (g3 μ)]
    exact y3 μ
end MEV

/-! the reference evaluates: tests -/
def eBT (E : lE) (μ : eM) (d : lT) : Int32 := match μ with
  | .inl true => (match d E with
    | some _ => 0
    | none => 1)
  | .inl false => 1
  | .inr b => b2 b
def eOkT (S : zSt) (A N : Nat) (E : lE) (f : Int32 → zSt → Option (Int32 × zSt)) (p : Nat → Nat → lRT) : Prop := ∀ i q j q' d, i ≤ N → p i q = .inr (j, q', d) → i < j ∧ j ≤ N ∧ ∀ μ, ∃ x : Bool, f (eLv μ) (zEv S (nI (A + i)) (eB μ)) = some (b2 x, zEv S (nI (A + j)) (eBT E μ d)) ∧ (μ = .inl true → ∀ v, d E = some v → x = v)
theorem b2_or (x : Bool) : b2 x = 0 ∨ b2 x = 1 := by cases x; exact Or.inl rfl; exact Or.inr rfl
theorem lplain_eq (ord : Bool) (C V : Nat → Int32) (n r i q : Nat) : lplain ord C V n r i q = lRneg (lnots C n i false).2 (if C (lnots C n i false).1 = 140 then lBr0 ord C V n r (lnots C n i false).1 q else lcomp (lpart ord C V n r) C n (lnots C n i false).1 q) := by
  cases r with
  | zero =>
    show (if C (lnots C n i false).1 = 140 then _ else _) = _
    by_cases c : C (lnots C n i false).1 = 140
    · rw [if_pos c, if_pos c]; rfl
    · rw [if_neg c, if_neg c]; rfl
  | succ r' =>
    show (if C (lnots C n i false).1 = 140 then _ else _) = _
    by_cases c : C (lnots C n i false).1 = 140
    · rw [if_pos c, if_pos c]
      show _ = lRneg _ (lRbrkT C 141 (ltest (lplain ord C V n r') C n ((lnots C n i false).1 + 1) q))
      cases ltest (lplain ord C V n r') C n ((lnots C n i false).1 + 1) q with
      | inl j => rfl
      | inr x =>
        obtain ⟨j, q', d⟩ := x
        show (if C j = 141 then _ else _) = lRneg _ (if C j = 141 then _ else _)
        by_cases c2 : C j = 141
        · rw [if_pos c2, if_pos c2]; rfl
        · rw [if_neg c2, if_neg c2]; rfl
    · rw [if_neg c, if_neg c]; rfl
section MET
variable {S : zSt} {A N : Nat} {C V : Nat → Int32} {E : lE}
theorem lcomp_inr {p : Nat → Nat → lR} {n i q j q' : Nat} {d : lT} (h : lcomp p C n i q = .inr (j, q', d)) : ∃ k q2 d1 d2 w, lsum p C n i q = .inr (k, q2, d1) ∧ lsum p C n (k + 1) q2 = .inr (j, q', d2) ∧ d = lcmpD w d1 d2 ∧ ((C k = 160 ∧ w = 10) ∨ (C k = 162 ∧ w = 11) ∨ (C k = 161 ∧ w = 12)) := by
  unfold lcomp at h
  cases h1 : lsum p C n i q with
  | inl k => rw [h1] at h; cases h
  | inr x =>
    obtain ⟨k, q2, d1⟩ := x
    rw [h1] at h
    have h' : (if C k = 160 ∨ C k = 162 ∨ C k = 161 then (match lsum p C n (k + 1) q2 with
      | .inl k => .inl k
      | .inr (k2, q2, d2) => .inr (k2, q2, lcmpD (if C k = 160 then 10 else if C k = 162 then 11 else 12) d1 d2) : lRT) else .inl k) = .inr (j, q', d) := h
    by_cases hor : C k = 160 ∨ C k = 162 ∨ C k = 161
    · rw [if_pos hor] at h'
      cases h2 : lsum p C n (k + 1) q2 with
      | inl k2 => rw [h2] at h'; cases h'
      | inr y =>
        obtain ⟨k2, q3, d2⟩ := y
        rw [h2] at h'
        injection h' with h'
        injection h' with g1 g2
        injection g2 with g2 g3
        subst g1
        subst g2
        refine ⟨k, q2, d1, d2, _, rfl, h2, g3.symm, ?_⟩
        by_cases c1 : C k = 160
        · exact Or.inl ⟨c1, by rw [if_pos c1]⟩
        · by_cases c2 : C k = 162
          · exact Or.inr (Or.inl ⟨c2, by rw [if_neg c1, if_pos c2]⟩)
          · rcases hor with h | h | h
            · exact absurd h c1
            · exact absurd h c2
            · exact Or.inr (Or.inr ⟨h, by rw [if_neg c1, if_neg c2]⟩)
    · rw [if_neg hor] at h'; cases h'
theorem e_comp (fu : Nat) (hS : zES S A N C V) (cT : Int32 → zSt → Option (Int32 × zSt)) {p : Nat → Nat → lR} {n : Nat} (hsum : eOk S A N E (f_M_sumOf fu 64) (fun i q => lsum p C n i q)) {i q j q' : Nat} {d : lT} (hi : i ≤ N) (h140 : C i ≠ 140) (h : lcomp p C n i q = .inr (j, q', d)) :
    i < j ∧ j ≤ N ∧ ∀ μ, ∃ x : Bool, f_M_positiveOf_o cT fu (eLv μ) (zEv S (nI (A + i)) (eB μ)) = some (b2 x, zEv S (nI (A + j)) (eBT E μ d)) ∧ (μ = .inl true → ∀ v, d E = some v → x = v) := by
  have hN := hS.2.1
  have e40 : f_M_sign 40 = some 140 := rfl
  have e60 : f_M_sign 60 = some 160 := rfl
  have e62 : f_M_sign 62 = some 162 := rfl
  obtain ⟨k, q2, d1, d2, w, h1, h2, hd, hw⟩ := lcomp_inr h
  obtain ⟨g0, g1, g2, g3⟩ := hsum i q k q2 d1 hi h1
  have hlt : k < N := e_in hS (by rcases hw with h | h | h <;> rw [h.1] <;> decide)
  obtain ⟨y0, y1, y2, y3⟩ := hsum (k + 1) q2 j q' d2 (by omega) h2
  subst hd
  refine ⟨by omega, y1, fun μ => ?_⟩
  have hp := e_pass hS (i := i) (by omega) (eB μ) 140
  rw [if_neg h140] at hp
  have g4 := y3 (eAft E μ d1)
  rw [eAft_lv, eAft_b] at g4
  have U : f_M_positiveOf_o cT fu (eLv μ) (zEv S (nI (A + i)) (eB μ)) = if eLv μ = 0 then some (0, zEv S (nI (A + j)) (eDen E (eAft E μ d1) d2).2) else if (eDen E (eAft E μ d1) d2).2 = 0 then (if C k = 160 then (if 0 ≤ lg_cmp (eDen E μ d1).1 (eDen E (eAft E μ d1) d2).1 then some (0, zEv S (nI (A + j)) (eDen E (eAft E μ d1) d2).2) else some (1, zEv S (nI (A + j)) (eDen E (eAft E μ d1) d2).2)) else if C k = 162 then (if lg_cmp (eDen E μ d1).1 (eDen E (eAft E μ d1) d2).1 ≤ 0 then some (0, zEv S (nI (A + j)) (eDen E (eAft E μ d1) d2).2) else some (1, zEv S (nI (A + j)) (eDen E (eAft E μ d1) d2).2)) else if lg_cmp (eDen E μ d1).1 (eDen E (eAft E μ d1) d2).1 = 0 then some (1, zEv S (nI (A + j)) (eDen E (eAft E μ d1) d2).2) else some (0, zEv S (nI (A + j)) (eDen E (eAft E μ d1) d2).2)) else some (0, zEv S (nI (A + j)) (eDen E (eAft E μ d1) d2).2) := by
    unfold f_M_positiveOf_o
    rw [e40, qb1s, qb2 hp, if_pos rfl, qb2 (g3 μ), zEv_22, qb1 (e_code hS (by omega) _ _), n_1, zEv_w22, Nat.add_assoc, qb2 g4, zEv_24, e60, qb1s, e62, qb1s]
  rw [U]
  rcases μ with (_ | _) | b
  · refine ⟨false, ?_, fun h => absurd h (by simp)⟩
    rfl
  · obtain ⟨cmp, hc1, hc2⟩ : ∃ cmp : Int → Int → Bool, lcmpD w d1 d2 = (fun E => (d1 E).bind fun x => (d2 E).bind fun y => some (cmp x y)) ∧ ∀ (x y : Int) (Z0 Z1 : Option (Int32 × zSt)), -2147483648 ≤ x ∧ x ≤ 2147483648 → -2147483648 ≤ y ∧ y ≤ 2147483648 → (if C k = 160 then (if 0 ≤ lg_cmp (Int64.ofInt x) (Int64.ofInt y) then Z0 else Z1) else if C k = 162 then (if lg_cmp (Int64.ofInt x) (Int64.ofInt y) ≤ 0 then Z0 else Z1) else if lg_cmp (Int64.ofInt x) (Int64.ofInt y) = 0 then Z1 else Z0) = if cmp x y = true then Z1 else Z0 := by
      rcases hw with ⟨c, rfl⟩ | ⟨c, rfl⟩ | ⟨c, rfl⟩
      · refine ⟨fun x y => decide (x < y), rfl, fun x y Z0 Z1 r1 r2 => ?_⟩
        have cg := w_ge (y := x) (z := y) (by omega) (by omega)
        rw [if_pos c]
        by_cases hxy : x < y
        · rw [if_neg (fun h => absurd (cg.mp h) (by omega)), if_pos (decide_eq_true hxy)]
        · rw [if_pos (cg.mpr (by omega)), if_neg (fun h => hxy (of_decide_eq_true h))]
      · refine ⟨fun x y => decide (y < x), rfl, fun x y Z0 Z1 r1 r2 => ?_⟩
        have cl := w_le (y := x) (z := y) (by omega) (by omega)
        rw [if_neg (show ¬ C k = 160 by rw [c]; decide), if_pos c]
        by_cases hxy : y < x
        · rw [if_neg (fun h => absurd (cl.mp h) (by omega)), if_pos (decide_eq_true hxy)]
        · rw [if_pos (cl.mpr (by omega)), if_neg (fun h => hxy (of_decide_eq_true h))]
      · refine ⟨fun x y => decide (x = y), rfl, fun x y Z0 Z1 r1 r2 => ?_⟩
        have ce := w_cmp0 (y := x) (z := y) (by omega) (by omega)
        rw [if_neg (show ¬ C k = 160 by rw [c]; decide), if_neg (show ¬ C k = 162 by rw [c]; decide)]
        by_cases hxy : x = y
        · rw [if_pos (ce.mpr hxy), if_pos (decide_eq_true hxy)]
        · rw [if_neg (fun h => hxy (ce.mp h)), if_neg (fun h => hxy (of_decide_eq_true h))]
    rw [hc1]
    have eBt : eBT E (.inl true) (fun E => (d1 E).bind fun x => (d2 E).bind fun y => some (cmp x y)) = (match (d1 E).bind (fun x => (d2 E).bind fun y => some (cmp x y)) with
      | some _ => 0
      | none => 1) := rfl
    rw [if_neg (show ¬ eLv (.inl true) = 0 by decide), eBt]
    show ∃ x : Bool, (if (eDen E (.inl (d1 E).isSome) d2).2 = 0 then (if C k = 160 then (if 0 ≤ lg_cmp (rE (d1 E)).1 (eDen E (.inl (d1 E).isSome) d2).1 then some (0, zEv S (nI (A + j)) (eDen E (.inl (d1 E).isSome) d2).2) else some (1, zEv S (nI (A + j)) (eDen E (.inl (d1 E).isSome) d2).2)) else if C k = 162 then (if lg_cmp (rE (d1 E)).1 (eDen E (.inl (d1 E).isSome) d2).1 ≤ 0 then some (0, zEv S (nI (A + j)) (eDen E (.inl (d1 E).isSome) d2).2) else some (1, zEv S (nI (A + j)) (eDen E (.inl (d1 E).isSome) d2).2)) else if lg_cmp (rE (d1 E)).1 (eDen E (.inl (d1 E).isSome) d2).1 = 0 then some (1, zEv S (nI (A + j)) (eDen E (.inl (d1 E).isSome) d2).2) else some (0, zEv S (nI (A + j)) (eDen E (.inl (d1 E).isSome) d2).2)) else some (0, zEv S (nI (A + j)) (eDen E (.inl (d1 E).isSome) d2).2)) = some (b2 x, _) ∧ (_ → ∀ v, (d1 E).bind (fun x => (d2 E).bind fun y => some (cmp x y)) = some v → x = v)
    cases hd1 : d1 E with
    | none => exact ⟨false, rfl, fun _ v hv => by cases hv⟩
    | some x =>
      cases hd2 : d2 E with
      | none =>
        have e2 : eDen E (.inl (some x).isSome) d2 = (0, 1) := by
          show rE (d2 E) = _
          rw [hd2]; rfl
        rw [e2]
        exact ⟨false, rfl, fun _ v hv => by cases hv⟩
      | some y =>
        have r1 := g2 x hd1
        have r2 := y2 y hd2
        have e2 : eDen E (.inl (some x).isSome) d2 = (Int64.ofInt y, 0) := by
          show rE (d2 E) = _
          rw [hd2]; rfl
        rw [e2, if_pos (show (0 : Int32) = 0 from rfl)]
        show ∃ x1 : Bool, (if C k = 160 then (if 0 ≤ lg_cmp (Int64.ofInt x) (Int64.ofInt y) then some (0, zEv S (nI (A + j)) 0) else some (1, zEv S (nI (A + j)) 0)) else if C k = 162 then (if lg_cmp (Int64.ofInt x) (Int64.ofInt y) ≤ 0 then some (0, zEv S (nI (A + j)) 0) else some (1, zEv S (nI (A + j)) 0)) else if lg_cmp (Int64.ofInt x) (Int64.ofInt y) = 0 then some (1, zEv S (nI (A + j)) 0) else some (0, zEv S (nI (A + j)) 0)) = some (b2 x1, zEv S (nI (A + j)) 0) ∧ (_ → ∀ v, some (cmp x y) = some v → x1 = v)
        rw [hc2 x y _ _ r1 r2]
        refine ⟨cmp x y, ?_, fun _ v hv => by injection hv⟩
        cases cmp x y <;> rfl
  · refine ⟨false, ?_, fun h => absurd h (by simp)⟩
    rfl
theorem e_pos_ok (fu : Nat) (hS : zES S A N C V) (cT : Int32 → zSt → Option (Int32 × zSt)) {ord : Bool} {n r : Nat} (hsum : eOk S A N E (f_M_sumOf fu 64) (fun i q => lsum (lpart ord C V n r) C n i q)) (hs : ∀ r', r = r' + 1 → eOkT S A N E cT (fun i q => ltest (lplain ord C V n r') C n i q)) :
    eOkT S A N E (f_M_positiveOf_o cT fu) (fun i q => if C i = 140 then lBr0 ord C V n r i q else lcomp (lpart ord C V n r) C n i q) := by
  have hN := hS.2.1
  have e40 : f_M_sign 40 = some 140 := rfl
  intro i q j q' d hi h
  have h' : (if C i = 140 then lBr0 ord C V n r i q else lcomp (lpart ord C V n r) C n i q) = .inr (j, q', d) := h
  by_cases c : C i = 140
  · rw [if_pos c] at h'
    cases r with
    | zero => cases h'
    | succ r' =>
      have h2 : lRbrkT C 141 (ltest (lplain ord C V n r') C n (i + 1) q) = .inr (j, q', d) := h'
      have hlt := e_in hS (i := i) (by rw [c]; decide)
      cases hpt : ltest (lplain ord C V n r') C n (i + 1) q with
      | inl k => rw [hpt] at h2; cases h2
      | inr x =>
        obtain ⟨k, q2, d2⟩ := x
        rw [hpt] at h2
        have h3 : (if C k = 141 then (.inr (k + 1, q2, d2) : lRT) else .inl k) = .inr (j, q', d) := h2
        by_cases c2 : C k = 141
        · rw [if_pos c2] at h3
          injection h3 with h1
          injection h1 with h1 h2
          injection h2 with h2 h3
          subst h1
          subst h3
          obtain ⟨g0, g1, g3⟩ := hs r' rfl (i + 1) q k q2 d2 (by omega) hpt
          have hlt2 := e_in hS (i := k) (by rw [c2]; decide)
          refine ⟨by omega, by omega, fun μ => ?_⟩
          obtain ⟨x, x1, x2⟩ := g3 μ
          have hp := e_pass hS (i := i) (by omega) (eB μ) 140
          rw [if_pos c] at hp
          refine ⟨x, ?_, x2⟩
          unfold f_M_positiveOf_o
          rw [e40, qb1s, qb2 hp, if_neg (by decide), qb2 x1, qgd (b2_or x), zEv_22, n_1, zEv_w22]
          rfl
        · rw [if_neg c2] at h3; cases h3
  · rw [if_neg c] at h'
    exact e_comp fu hS cT hsum hi c h'
theorem e_nots (fu : Nat) (hS : zES S A N C V) (fp : Int32 → zSt → Option (Int32 × zSt)) (a1 b : Int32) : ∀ (n m i : Nat) (neg : Bool), i ≤ N → 402 ≤ n + i → 401 ≤ m + i →
    f_M_plainOf_2 fp fu n a1 (b2 neg) (zEv S (nI (A + i)) b) = f_M_plainOf_24 fp fu a1 (b2 (lnots C m i neg).2) (zEv S (nI (A + (lnots C m i neg).1)) b) ∧ i ≤ (lnots C m i neg).1 ∧ (lnots C m i neg).1 ≤ N := by
  have hN := hS.2.1
  intro n
  induction n with
  | zero => intro m i neg h1 h2; omega
  | succ n ih =>
    intro m i neg h1 h2 h3
    obtain ⟨m, rfl⟩ : ∃ m', m = m' + 1 := ⟨m - 1, by omega⟩
    have hp := e_pass hS (i := i) (by omega) b 8
    rw [f_M_plainOf_2]
    by_cases c : C i = 8
    · have hlt := e_in hS (i := i) (by rw [c]; decide)
      have e : lnots C (m + 1) i neg = lnots C m (i + 1) (!neg) := by
        show (if C i = 8 then _ else _) = _
        rw [if_pos c]
      rw [if_pos c] at hp
      rw [qb2 hp, if_neg (by decide), e]
      obtain ⟨y1, y2, y3⟩ := ih m (i + 1) (!neg) (by omega) (by omega) (by omega)
      refine ⟨?_, by omega, y3⟩
      rw [← y1]
      cases neg <;> rfl
    · rw [if_neg c] at hp
      rw [qb2 hp, if_pos rfl, lnots_stop c]
      exact ⟨rfl, Nat.le_refl _, h1⟩
theorem e_plain_ok (fu : Nat) (hfu : 500 ≤ fu) (hS : zES S A N C V) (cT : Int32 → zSt → Option (Int32 × zSt)) {ord : Bool} {n r : Nat} (hn : 401 ≤ n) (hsum : eOk S A N E (f_M_sumOf fu 64) (fun i q => lsum (lpart ord C V n r) C n i q)) (hs : ∀ r', r = r' + 1 → eOkT S A N E cT (fun i q => ltest (lplain ord C V n r') C n i q)) :
    eOkT S A N E (f_M_plainOf_o (f_M_positiveOf_o cT fu) fu) (fun i q => lplain ord C V n r i q) := by
  have hN := hS.2.1
  intro i q j q' d hi h
  have h' : lplain ord C V n r i q = .inr (j, q', d) := h
  rw [lplain_eq] at h'
  have hX := fun a1 b => e_nots fu hS (f_M_positiveOf_o cT fu) a1 b fu n i false hi (by omega) (by omega)
  generalize lnots C n i false = lx at *
  obtain ⟨i1, neg⟩ := lx
  have h2 : i ≤ i1 := (hX 0 0).2.1
  have h3 : i1 ≤ N := (hX 0 0).2.2
  have h4 : lRneg neg (if C i1 = 140 then lBr0 ord C V n r i1 q else lcomp (lpart ord C V n r) C n i1 q) = .inr (j, q', d) := h'
  have hP := e_pos_ok fu hS cT hsum hs i1 q
  revert h4
  have hP' : ∀ j q' d, i1 ≤ N → (if C i1 = 140 then lBr0 ord C V n r i1 q else lcomp (lpart ord C V n r) C n i1 q) = .inr (j, q', d) → i1 < j ∧ j ≤ N ∧ ∀ μ, ∃ x : Bool, f_M_positiveOf_o cT fu (eLv μ) (zEv S (nI (A + i1)) (eB μ)) = some (b2 x, zEv S (nI (A + j)) (eBT E μ d)) ∧ (μ = .inl true → ∀ v, d E = some v → x = v) := hP
  revert hP'
  cases (if C i1 = 140 then lBr0 ord C V n r i1 q else lcomp (lpart ord C V n r) C n i1 q) with
  | inl k => intro _ h4; cases h4
  | inr x =>
    obtain ⟨k, q2, d2⟩ := x
    intro hP' h4
    injection h4 with h5
    injection h5 with h5 h6
    injection h6 with h6 h7
    subst h5
    subst h6
    subst h7
    obtain ⟨g0, g1, g3⟩ := hP' k q2 d2 h3 rfl
    refine ⟨by omega, g1, fun μ => ?_⟩
    obtain ⟨x, x1, x2⟩ := g3 μ
    have eU : f_M_plainOf_o (f_M_positiveOf_o cT fu) fu (eLv μ) (zEv S (nI (A + i)) (eB μ)) = some (b2 (x != neg), zEv S (nI (A + k)) (eBT E μ d2)) := by
      unfold f_M_plainOf_o
      have e1 : f_M_plainOf_2 (f_M_positiveOf_o cT fu) fu fu (eLv μ) 0 (zEv S (nI (A + i)) (eB μ)) = f_M_plainOf_24 (f_M_positiveOf_o cT fu) fu (eLv μ) (b2 neg) (zEv S (nI (A + i1)) (eB μ)) := (hX (eLv μ) (eB μ)).1
      rw [e1]
      unfold f_M_plainOf_24
      rw [qb2 x1]
      cases x <;> cases neg <;> rfl
    have eB2 : eBT E μ (lnotD neg d2) = eBT E μ d2 := by
      rcases μ with (_ | _) | b
      · rfl
      · show (match (d2 E).map fun b => b != neg with
          | some _ => (0 : Int32)
          | none => 1) = (match d2 E with
          | some _ => 0
          | none => 1)
        cases d2 E <;> rfl
      · rfl
    refine ⟨x != neg, by rw [eB2]; exact eU, fun hμ v hv => ?_⟩
    have hv' : (d2 E).map (fun b => b != neg) = some v := hv
    cases hd2 : d2 E with
    | none => rw [hd2] at hv'; cases hv'
    | some u =>
      rw [hd2] at hv'
      injection hv' with hv'
      rw [x2 hμ u hd2]
      exact hv'
/-- an 'and', an 'or': how the second is gone along -/
theorem e_jn (w : Nat) (hw : w = 2 ∨ w = 3) (μ : eM) {d : lT} {x : Bool} (hx : μ = .inl true → ∀ v, d E = some v → x = v) :
    ∃ μ2 : eM, eLv μ2 = (if eLv μ = 0 then 0 else if w = 2 then b2 x else b2 (!x)) ∧ eB μ2 = eBT E μ d ∧ ∀ (d' : lT) (y : Bool), (μ2 = .inl true → ∀ v, d' E = some v → y = v) → eBT E μ2 d' = eBT E μ (ljn w d d') ∧ (μ = .inl true → ∀ v, ljn w d d' E = some v → (if w = 2 then (x && y) else (x || y)) = v) := by
  rcases μ with (_ | _) | b
  · -- broken
    refine ⟨if (if w = 2 then x else !x) = true then .inl false else .inr true, ?_, ?_, fun d' y hy => ⟨?_, fun h => absurd h (by simp)⟩⟩
    · rcases hw with rfl | rfl <;> cases x <;> rfl
    · rcases hw with rfl | rfl <;> cases x <;> rfl
    · rcases hw with rfl | rfl <;> cases x <;> rfl
  · cases hd : d E with
    | none =>
      have eb : eBT E (.inl true) d = 1 := by
        show (match d E with
          | some _ => (0 : Int32)
          | none => 1) = 1
        rw [hd]
      rw [eb]
      have ej : ∀ d', ljn w d d' E = none := by
        intro d'
        rcases hw with rfl | rfl
        · show (d E).bind _ = none
          rw [hd]; rfl
        · show (d E).bind _ = none
          rw [hd]; rfl
      have eb2 : ∀ d', eBT E (.inl true) (ljn w d d') = 1 := by
        intro d'
        show (match ljn w d d' E with
          | some _ => (0 : Int32)
          | none => 1) = 1
        rw [ej]
      refine ⟨if (if w = 2 then x else !x) = true then .inl false else .inr true, ?_, ?_, fun d' y hy => ⟨?_, fun h v hv => by rw [ej] at hv; cases hv⟩⟩
      · rcases hw with rfl | rfl <;> cases x <;> rfl
      · rcases hw with rfl | rfl <;> cases x <;> rfl
      · rw [eb2]
        rcases hw with rfl | rfl <;> cases x <;> rfl
    | some u =>
      have hxu := hx rfl u hd
      subst hxu
      have eb : eBT E (.inl true) d = 0 := by
        show (match d E with
          | some _ => (0 : Int32)
          | none => 1) = 0
        rw [hd]
      rw [eb]
      have ej : ∀ d', ljn w d d' E = if (if w = 2 then x else !x) = true then d' E else some x := by
        intro d'
        rcases hw with rfl | rfl
        · show ((d E).bind fun b => if b = true then d' E else some false) = _
          rw [hd]
          cases x <;> rfl
        · show ((d E).bind fun b => if b = true then some true else d' E) = _
          rw [hd]
          cases x <;> rfl
      have eb2 : ∀ d', eBT E (.inl true) (ljn w d d') = (match (if (if w = 2 then x else !x) = true then d' E else some x) with
          | some _ => (0 : Int32)
          | none => 1) := by
        intro d'
        show (match ljn w d d' E with
          | some _ => (0 : Int32)
          | none => 1) = _
        rw [ej]
      refine ⟨if (if w = 2 then x else !x) = true then .inl true else .inr false, ?_, ?_, fun d' y hy => ⟨?_, fun _ v hv => ?_⟩⟩
      · rcases hw with rfl | rfl <;> cases x <;> rfl
      · rcases hw with rfl | rfl <;> cases x <;> rfl
      · rw [eb2]
        rcases hw with rfl | rfl <;> cases x <;> rfl
      · rw [ej] at hv
        rcases hw with rfl | rfl
        · cases x
          · injection hv
          · exact hy rfl v hv
        · cases x
          · exact hy rfl v hv
          · injection hv
  · refine ⟨.inr b, ?_, rfl, fun d' y hy => ⟨rfl, fun h => absurd h (by simp)⟩⟩
    rcases hw with rfl | rfl <;> rfl
theorem eb_loop (fu : Nat) (hS : zES S A N C V) (f : Int32 → zSt → Option (Int32 × zSt)) {p : Nat → Nat → lRT} (hp : eOkT S A N E f p) : ∀ (n m i q : Nat) (d : lT) (j q' : Nat) (df : lT), i ≤ N → 402 ≤ n + i → lloopA p C m i q d = .inr (j, q', df) → 401 ≤ m + i →
    i ≤ j ∧ j ≤ N ∧ ∀ μ x, (μ = .inl true → ∀ v, d E = some v → x = v) → ∃ y : Bool, f_M_bothOf_6 f fu n (eLv μ) (b2 x) (zEv S (nI (A + i)) (eBT E μ d)) = some (b2 y, zEv S (nI (A + j)) (eBT E μ df)) ∧ (μ = .inl true → ∀ v, df E = some v → y = v) := by
  have hN := hS.2.1
  intro n
  induction n with
  | zero => intro m i q d j q' df h1 h2; omega
  | succ n ih =>
    intro m i q d j q' df h1 h2 h4 h5
    obtain ⟨m, rfl⟩ : ∃ m', m = m' + 1 := ⟨m - 1, by omega⟩
    rw [lloopA] at h4
    by_cases c : C i = 7
    · rw [if_pos c] at h4
      have hlt := e_in hS (i := i) (by rw [c]; decide)
      cases hpt : p (i + 1) q with
      | inl k => rw [hpt] at h4; cases h4
      | inr z =>
        obtain ⟨k, q2, d'⟩ := z
        rw [hpt] at h4
        obtain ⟨g0, g1, g3⟩ := hp (i + 1) q k q2 d' (by omega) hpt
        obtain ⟨y0, y1, y3⟩ := ih m k q2 (landD d d') j q' df g1 (by omega) h4 (by omega)
        refine ⟨by omega, y1, fun μ x hx => ?_⟩
        obtain ⟨μ2, b1, b2', b3⟩ := e_jn (E := E) 2 (by omega) μ hx
        obtain ⟨y, z1, z2⟩ := g3 μ2
        obtain ⟨b4, b5⟩ := b3 d' y z2
        have b4' : eBT E μ2 d' = eBT E μ (landD d d') := b4
        have hpp := e_pass hS (i := i) (by omega) (eBT E μ d) 7
        rw [if_pos c] at hpp
        rw [b1, b2', b4'] at z1
        have z1' : f (if eLv μ = 0 then 0 else b2 x) (zEv S (nI (A + (i + 1))) (eBT E μ d)) = some (b2 y, zEv S (nI (A + k)) (eBT E μ (landD d d'))) := z1
        obtain ⟨yy, w1, w2⟩ := y3 μ (x && y) (fun h v hv => b5 h v hv)
        refine ⟨yy, ?_, w2⟩
        rw [f_M_bothOf_6, qb2 hpp, if_neg (by decide), ← w1]
        have J : ∀ k0, k0 = (if eLv μ = 0 then 0 else b2 x) → f_M_bothOf_29 f fu (f_M_bothOf_6 f fu n) (eLv μ) (b2 x) k0 (zEv S (nI (A + (i + 1))) (eBT E μ d)) = f_M_bothOf_6 f fu n (eLv μ) (b2 (x && y)) (zEv S (nI (A + k)) (eBT E μ (landD d d'))) := by
          intro k0 hk
          unfold f_M_bothOf_29
          rw [hk, qb2 z1']
          cases x <;> cases y <;> rfl
        by_cases hl : eLv μ = 0
        · rw [if_pos hl]; exact J 0 (by rw [if_pos hl])
        · rw [if_neg hl]
          cases x with
          | false => exact J 0 (by rw [if_neg hl]; rfl)
          | true => exact J 1 (by rw [if_neg hl]; rfl)
    · rw [if_neg c] at h4
      injection h4 with h4
      injection h4 with h4 h6
      injection h6 with h6 h7
      subst h4
      subst h7
      refine ⟨Nat.le_refl _, h1, fun μ x hx => ⟨x, ?_, hx⟩⟩
      have hpp := e_pass hS (i := i) (by omega) (eBT E μ d) 7
      rw [if_neg c] at hpp
      rw [f_M_bothOf_6, qb2 hpp, if_pos rfl]
      exact qgd (b2_or x)
theorem eb_ok (fu : Nat) (hfu : 500 ≤ fu) (hS : zES S A N C V) (f : Int32 → zSt → Option (Int32 × zSt)) {p : Nat → Nat → lRT} {n : Nat} (hn : 401 ≤ n) (hp : eOkT S A N E f p) : eOkT S A N E (f_M_bothOf_o f fu) (fun i q => lboth p C n i q) := by
  intro i q j q' d hi h
  have h' : (match p i q with
    | .inl j => .inl j
    | .inr (j, q', d) => lloopA p C n j q' d : lRT) = .inr (j, q', d) := h
  cases hpt : p i q with
  | inl k => rw [hpt] at h'; cases h'
  | inr x =>
    obtain ⟨k, q2, d2⟩ := x
    rw [hpt] at h'
    obtain ⟨g0, g1, g3⟩ := hp i q k q2 d2 hi hpt
    obtain ⟨y0, y1, y3⟩ := eb_loop fu hS f hp fu n k q2 d2 j q' d g1 (by omega) h' (by omega)
    refine ⟨by omega, y1, fun μ => ?_⟩
    obtain ⟨x, x1, x2⟩ := g3 μ
    obtain ⟨y, z1, z2⟩ := y3 μ x x2
    refine ⟨y, ?_, z2⟩
    unfold f_M_bothOf_o
    rw [qb2 x1]
    exact z1
theorem eo_loop (fu : Nat) (hS : zES S A N C V) (f : Int32 → zSt → Option (Int32 × zSt)) {p : Nat → Nat → lRT} {M : Nat} (hp : eOkT S A N E f (fun i q => lboth p C M i q)) : ∀ (n m i q : Nat) (d : lT) (j q' : Nat) (df : lT), i ≤ N → 402 ≤ n + i → lloopO p C M m i q d = .inr (j, q', df) → 401 ≤ m + i →
    i ≤ j ∧ j ≤ N ∧ ∀ μ x, (μ = .inl true → ∀ v, d E = some v → x = v) → ∃ y : Bool, f_M_testOf_6 f fu n (eLv μ) (b2 x) (zEv S (nI (A + i)) (eBT E μ d)) = some (b2 y, zEv S (nI (A + j)) (eBT E μ df)) ∧ (μ = .inl true → ∀ v, df E = some v → y = v) := by
  have hN := hS.2.1
  intro n
  induction n with
  | zero => intro m i q d j q' df h1 h2; omega
  | succ n ih =>
    intro m i q d j q' df h1 h2 h4 h5
    obtain ⟨m, rfl⟩ : ∃ m', m = m' + 1 := ⟨m - 1, by omega⟩
    rw [lloopO] at h4
    by_cases c : C i = 6
    · rw [if_pos c] at h4
      have hlt := e_in hS (i := i) (by rw [c]; decide)
      cases hpt : lboth p C M (i + 1) q with
      | inl k => rw [hpt] at h4; cases h4
      | inr z =>
        obtain ⟨k, q2, d'⟩ := z
        rw [hpt] at h4
        obtain ⟨g0, g1, g3⟩ := hp (i + 1) q k q2 d' (by omega) hpt
        obtain ⟨y0, y1, y3⟩ := ih m k q2 (lorD d d') j q' df g1 (by omega) h4 (by omega)
        refine ⟨by omega, y1, fun μ x hx => ?_⟩
        obtain ⟨μ2, b1, b2', b3⟩ := e_jn (E := E) 3 (by omega) μ hx
        obtain ⟨y, z1, z2⟩ := g3 μ2
        obtain ⟨b4, b5⟩ := b3 d' y z2
        have b4' : eBT E μ2 d' = eBT E μ (lorD d d') := b4
        have hpp := e_pass hS (i := i) (by omega) (eBT E μ d) 6
        rw [if_pos c] at hpp
        rw [b1, b2', b4'] at z1
        have z1' : f (if eLv μ = 0 then 0 else b2 (!x)) (zEv S (nI (A + (i + 1))) (eBT E μ d)) = some (b2 y, zEv S (nI (A + k)) (eBT E μ (lorD d d'))) := z1
        obtain ⟨yy, w1, w2⟩ := y3 μ (x || y) (fun h v hv => b5 h v hv)
        refine ⟨yy, ?_, w2⟩
        rw [f_M_testOf_6, qb2 hpp, if_neg (by decide), ← w1]
        have J : ∀ k0, k0 = (if eLv μ = 0 then 0 else b2 (!x)) → f_M_testOf_29 f fu (f_M_testOf_6 f fu n) (eLv μ) (b2 x) k0 (zEv S (nI (A + (i + 1))) (eBT E μ d)) = f_M_testOf_6 f fu n (eLv μ) (b2 (x || y)) (zEv S (nI (A + k)) (eBT E μ (lorD d d'))) := by
          intro k0 hk
          unfold f_M_testOf_29
          rw [hk, qb2 z1']
          cases x <;> cases y <;> rfl
        by_cases hl : eLv μ = 0
        · rw [if_pos hl]; exact J 0 (by rw [if_pos hl])
        · rw [if_neg hl]
          cases x with
          | false => exact J 1 (by rw [if_neg hl]; rfl)
          | true => exact J 0 (by rw [if_neg hl]; rfl)
    · rw [if_neg c] at h4
      injection h4 with h4
      injection h4 with h4 h6
      injection h6 with h6 h7
      subst h4
      subst h7
      refine ⟨Nat.le_refl _, h1, fun μ x hx => ⟨x, ?_, hx⟩⟩
      have hpp := e_pass hS (i := i) (by omega) (eBT E μ d) 6
      rw [if_neg c] at hpp
      rw [f_M_testOf_6, qb2 hpp, if_pos rfl]
      exact qgd (b2_or x)
theorem eo_ok (fu : Nat) (hfu : 500 ≤ fu) (hS : zES S A N C V) (f : Int32 → zSt → Option (Int32 × zSt)) {p : Nat → Nat → lRT} {n : Nat} (hn : 401 ≤ n) (hp : eOkT S A N E f (fun i q => lboth p C n i q)) : eOkT S A N E (f_M_testOf_o f fu) (fun i q => ltest p C n i q) := by
  intro i q j q' d hi h
  have h' : (match lboth p C n i q with
    | .inl j => .inl j
    | .inr (j, q', d) => lloopO p C n n j q' d : lRT) = .inr (j, q', d) := h
  cases hpt : lboth p C n i q with
  | inl k => rw [hpt] at h'; cases h'
  | inr x =>
    obtain ⟨k, q2, d2⟩ := x
    rw [hpt] at h'
    obtain ⟨g0, g1, g3⟩ := hp i q k q2 d2 hi hpt
    obtain ⟨y0, y1, y3⟩ := eo_loop fu hS f hp fu n k q2 d2 j q' d g1 (by omega) h' (by omega)
    refine ⟨by omega, y1, fun μ => ?_⟩
    obtain ⟨x, x1, x2⟩ := g3 μ
    obtain ⟨y, z1, z2⟩ := y3 μ x x2
    refine ⟨y, ?_, z2⟩
    unfold f_M_testOf_o
    rw [qb2 x1]
    exact z1
theorem etests_ok (fu : Nat) (hfu : 500 ≤ fu) (hS : zES S A N C V) {ord : Bool} (hW : eW ord fu S E) {n : Nat} (hn : 401 ≤ n) :
    ∀ r, r ≤ 8 → ∀ d, 4 * r + 4 ≤ d → eOkT S A N E (f_M_testOf fu d) (fun i q => ltest (lplain ord C V n r) C n i q) := by
  intro r
  induction r with
  | zero =>
    intro hr d hd
    obtain ⟨d, rfl⟩ : ∃ d', d = d' + 4 := ⟨d - 4, by omega⟩
    exact eo_ok fu hfu hS (f_M_bothOf fu (d + 3)) hn (eb_ok fu hfu hS (f_M_plainOf fu (d + 2)) hn (e_plain_ok fu hfu hS (f_M_testOf fu d) hn (esums_ok fu hfu hS hW hn 0 64 (by omega)) (fun r' h => by omega)))
  | succ r ih =>
    intro hr d hd
    obtain ⟨d, rfl⟩ : ∃ d', d = d' + 4 := ⟨d - 4, by omega⟩
    refine eo_ok fu hfu hS (f_M_bothOf fu (d + 3)) hn (eb_ok fu hfu hS (f_M_plainOf fu (d + 2)) hn (e_plain_ok fu hfu hS (f_M_testOf fu d) hn (esums_ok fu hfu hS hW hn (r + 1) 64 (by omega)) (fun r' h => ?_)))
    have e : r' = r := by omega
    rw [e]
    exact ih (by omega) d (by omega)
end MET

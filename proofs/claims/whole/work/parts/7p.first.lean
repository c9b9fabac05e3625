/-! the first state: more of it -/
set_option maxRecDepth 100000 in
theorem zM1_W8 : zM1.map (fun S => (List.range 121).all fun k => zI S 78 k == wrow.getD k 0) = some true := by decide +kernel
set_option maxRecDepth 100000 in
theorem zM1_74 : zM1.map (fun S => (List.range 207).all fun k => zI S 74 k == (if k = 194 then 1 else if k = 199 then -1 else 0)) = some true := by decide +kernel
set_option maxRecDepth 100000 in
theorem zM1_A : zM1.map (fun S => zA S 54 == 7 && zA S 51 == 436) = some true := by decide +kernel
set_option maxRecDepth 100000 in
theorem zM1_r54 (k : Nat) : zM1.map (fun S => zI S 54 k) = some 0 := rfl
set_option maxRecDepth 100000 in
theorem zM1_r69 (k : Nat) : zM1.map (fun S => zI S 69 k) = some 0 := rfl
def ztS2 (S : zSt) : Bool := (List.range 98).all fun i => (List.range 49).all fun k => match zoff (zK i) k with
  | some (o, n) => decide (12 ≤ zK i) || (zR S i k == some (i + o) && (decide (i + o < 98) && (n == 0 || zA S (i + o) == n)))
  | none => true
set_option maxRecDepth 100000 in
theorem zM1_SR2 : zM1.map ztS2 = some true := by decide +kernel
theorem zoff_49 (c k : Nat) (x : Nat × Nat) (h : zoff c k = some x) : k < 49 := by
  unfold zoff at h
  split at h <;> first | decide | cases h
abbrev ztF (S : zSt) : Prop := (zI S 1 0 = 0 ∧ zI S 1 5 = 0 ∧ zI S 1 6 = 0 ∧ zI S 1 7 = 1 ∧ zI S 1 8 = 0 ∧ zI S 1 9 = 0 ∧ zI S 1 12 = 0 ∧ zI S 1 14 = -1 ∧ zL S 1 4 = 0 ∧ zL S 13 3 = 0) ∧ (∀ p, p < 36 → zI S 3 p = 0) ∧ (zI S 32 0 = 0 ∧ zI S 32 1 = 0 ∧ zI S 72 32 = 0) ∧ (zI S 20 15 = 0 ∧ zI S 26 15 = 0 ∧ zI S 76 0 = 0 ∧ zI S 76 1 = 0) ∧ (zI S 44 1 = 0 ∧ zI S 72 13 = 0) ∧ (zI S 0 19 = zI S 72 0 ∧ zI S 0 16 = zI S 72 6 ∧ zI S 0 17 = zI S 72 14 ∧ zI S 0 18 = zI S 72 41 ∧ zI S 71 0 = zI S 73 1 ∧ zI S 71 1 = zI S 73 2 ∧ zI S 71 2 = zI S 73 3 ∧ zI S 71 4 = zI S 73 5 ∧ zI S 71 5 = zI S 73 6) ∧ (zI S 13 0 = 0 ∧ zI S 72 49 = -1) ∧ zR S 19 0 = some 20 ∧ zR S 19 1 = some 26 ∧ ∀ t, t < 6 → zR S 6 t = none ∧ zR S 12 t = none ∧ zR S 18 t = none ∧ zR S 25 t = none ∧ zR S 31 t = none
set_option maxRecDepth 100000 in
theorem zM1_F : zM1.map (fun S => decide (ztF S)) = some true := by decide +kernel
def zP00 : zP := (0, fun _ => 0, fun _ _ => 0, fun _ => 0, fun _ _ => false, (0, 0, 1, 0), [], [], none)
theorem pOK_00 : pOK zP00 := by
  refine ⟨Nat.zero_le _, fun s hs => absurd hs (Nat.not_lt_zero _), fun s hs => absurd hs (Nat.not_lt_zero _), fun a b _ _ => ⟨0, by omega, rfl⟩, fun _ _ => rfl, fun _ _ => rfl, fun a b _ _ _ h => (by cases h), fun _ _ _ => ⟨rfl, rfl⟩, Or.inr ⟨rfl, rfl⟩, Nat.zero_le _, by decide, Nat.zero_le _, Nat.zero_le _, fun i x hx => ?_, Nat.zero_le _, fun f hf => ?_⟩
  · have hx' : ([] : List (Nat × Nat))[i]? = some x := hx
    simp at hx'
  · have hf' : (none : Option Nat) = some f := hf
    cases hf'
theorem first_inv : ∃ S1 S2, f_E_init 0 (znew zS00 0) = some S1 ∧ zN S1 = 72 ∧ f_M_init 72 (znew S1 0) = some S2 ∧ Inv S2 ∧ zN S2 = 98 := by
  have hN := zM1_N
  cases hM : zM1 with
  | none => rw [hM] at hN; cases hN
  | some S2 =>
    have hM' : zb1 zE1 (fun S1 => f_M_init 72 (znew S1 0)) = some S2 := hM
    obtain ⟨S1, h1, h2⟩ := zb1_some hM'
    have hE := zE1_N
    rw [h1] at hE
    have hE' : zN S1 = 72 := by injection hE
    have mp : ∀ {α : Type} (f : zSt → α) (v : α), zM1.map f = some v → f S2 = v := fun f v h => by
      rw [hM] at h
      injection h
    have n98 : zN S2 = 98 := mp _ _ zM1_N
    have r54 : ∀ k, zI S2 54 k = 0 := fun k => mp _ _ (zM1_r54 k)
    have r69 : ∀ k, zI S2 69 k = 0 := fun k => mp _ _ (zM1_r69 k)
    have hF : ztF S2 := of_decide_eq_true (mp _ _ zM1_F)
    have h74 : ∀ k, k < 207 → zI S2 74 k = if k = 194 then 1 else if k = 199 then -1 else 0 := fun k hk => by
      have := List.all_eq_true.mp (mp _ _ zM1_74) k (List.mem_range.mpr hk)
      exact eq_of_beq this
    have h78 : ∀ k, k < 121 → zI S2 78 k = wrow.getD k 0 := fun k hk => by
      have := List.all_eq_true.mp (mp _ _ zM1_W8) k (List.mem_range.mpr hk)
      exact eq_of_beq this
    have hA := mp _ _ zM1_A
    rw [Bool.and_eq_true] at hA
    have hA54 : zA S2 54 = 7 := eq_of_beq hA.1
    have hA51 : zA S2 51 = 436 := eq_of_beq hA.2
    have hS := mp _ _ zM1_SR2
    obtain ⟨⟨a0, a5, a6, a7, a8, a9, a12, a14, aL, aL3⟩, b3, ⟨c1, c2, c3⟩, ⟨d1, d2, d3, d4⟩, ⟨e1, e2⟩, fM, ⟨g1, g2⟩, k1, k2, k3⟩ := hF
    have z74 : ∀ k, k < 207 → k ≠ 194 → k ≠ 199 → zI S2 74 k = 0 := fun k a b c => by rw [h74 k a, if_neg b, if_neg c]
    have hsr : zSR S2 := by
      refine ⟨by rw [n98]; exact Nat.le_refl _, by rw [n98]; decide, fun i hi hk k o n ho => ?_⟩
      rw [n98] at hi ⊢
      have hk49 := zoff_49 _ _ _ ho
      have h3 := List.all_eq_true.mp hS i (List.mem_range.mpr hi)
      have h4 := List.all_eq_true.mp h3 k (List.mem_range.mpr hk49)
      rw [ho] at h4
      dsimp only at h4
      rw [decide_eq_false (by omega), Bool.false_or, Bool.and_eq_true, Bool.and_eq_true, Bool.or_eq_true] at h4
      obtain ⟨h5, h6, h7⟩ := h4
      refine ⟨eq_of_beq h5, of_decide_eq_true h6, fun hn => ?_⟩
      rcases h7 with h7 | h7
      · exact absurd (eq_of_beq h7) hn
      · exact eq_of_beq h7
    refine ⟨S1, S2, h1, hE', h2, ⟨zP00, [], pOK_00, ?_, ?_, ?_, ?_, ?_, ?_, ?_, ?_⟩, n98⟩
    · refine ⟨a0, fun s hs => absurd hs (Nat.not_lt_zero _), fun a b ha hb hab => b3 _ (pq_c a ha b hb hab), fun s hs => absurd hs (Nat.not_lt_zero _), fun a b ha hb hab => ?_, fun p hp => ?_, a5, a6, a7, a8, a9, fun i x hx => ?_, a12, fun t cls ht => ?_, a14⟩
      · rw [aL]
        exact bL_0 _
      · rw [aL]
        exact bL_0 _
      · have hx' : ([] : List (Nat × Nat))[i]? = some x := hx
        simp at hx'
      · have hx' : ([] : List (List lC))[t]? = some cls := ht
        simp at hx'
    · refine ⟨z74 _ (by omega) (by omega) (by omega), fun s hs => absurd hs (Nat.not_lt_zero _), fun a c ha hc hac => z74 _ (by omega) (by omega) (by omega), fun s hs => absurd hs (Nat.not_lt_zero _), fun a c ha hc hac => z74 _ (by omega) (by omega) (by omega), z74 _ (by omega) (by omega) (by omega), z74 _ (by omega) (by omega) (by omega), ?_, z74 _ (by omega) (by omega) (by omega), z74 _ (by omega) (by omega) (by omega), fun i x hx => ?_, z74 _ (by omega) (by omega) (by omega), fun t cls ht => ?_, ?_⟩
      · rw [h74 _ (by omega)]
        rfl
      · have hx' : ([] : List (Nat × Nat))[i]? = some x := hx
        simp at hx'
      · have hx' : ([] : List (List lC))[t]? = some cls := ht
        simp at hx'
      · rw [h74 _ (by omega)]
        rfl
    · exact jRel_nil _ c1 c3 ⟨0, by omega, c2⟩
    · intro k hk
      rcases (by omega : k = 0 ∨ k = 1) with rfl | rfl
      · exact Or.inl ⟨d1, d3⟩
      · exact Or.inl ⟨d2, d4⟩
    · exact ⟨0, by omega, e1, e2, fun k hk => absurd hk (by omega)⟩
    · exact fM
    · exact ⟨0, by omega, g1, Or.inl ⟨rfl, g2⟩, fun s hs => absurd hs (by omega), fun h => absurd h (by omega)⟩
    · refine ⟨⟨hA54, fun k _ => r54 k⟩, h78, hsr, hA51, fun k _ => r69 k, k1, k2, by rw [n98], fun o ho t q ht hq => ?_⟩
      obtain ⟨q1, q2, q3, q4, q5⟩ := k3 t ht
      rcases ho with rfl | rfl | rfl | rfl | rfl
      · rw [q1] at hq; cases hq
      · rw [q2] at hq; cases hq
      · rw [q3] at hq; cases hq
      · rw [q4] at hq; cases hq
      · rw [q5] at hq; cases hq

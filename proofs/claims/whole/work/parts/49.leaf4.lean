/-! the class's parser: which spring is asked of -/
theorem which_out (fu : Nat) (hfu : 500 ≤ fu) {S S0 : zSt} {B : Nat → Int32} {T : Nat} {ord : Int32} {i0 i q0 q b l base : Nat} (h : zPS S B T ord i q b l) (hF : zPF S0 S l) (hi : i0 ≤ i) (hq0 : q0 + 1 = q) (hq : q ≤ 50) (hl : l < 436) (hb : base ≤ 14) (hs : zI S 47 3 = 0 → base + 8 < 14) :
    (tC B T i = 50 ∧ tV B T i ≤ 8 → ∃ S', f_Re_readWhich fu (nI base) S = some (1, S') ∧ zOut S0 B T ord 23 i0 q0 b l (.inr (i + 1, q, fun E => some (E (base + (tV B T i).toInt.toNat)))) 1 S') ∧
    (¬ (tC B T i = 50 ∧ tV B T i ≤ 8) → f_Re_readWhich fu (nI base) S = some (0, S)) := by
  have e8 : (8 : Int32).toInt = 8 := rfl
  have e1000 : (1000 : Int32).toInt = 1000 := rfl
  have e9 : (9 : Int32).toInt = 9 := rfl
  have hnum := is_number h.1
  constructor
  · intro hc
    have h1000 : tV B T i ≤ 1000 := by
      have := hc.2
      rw [q_le] at this ⊢
      omega
    obtain ⟨v, hv, hev⟩ := tV_nat h1000
    have hv8 : v ≤ 8 := by
      have := hc.2
      rw [hev, q_le, q_nI (by omega)] at this
      omega
    obtain ⟨S', h2, h3⟩ := put_out fu hfu (S0 := S0) (W := 23) (i0 := i0) (q0 := q0) (w := 1) (v := base + v) (d := fun E => some (E (base + v))) h hF hi hq0 hq hl (by omega) (tC_lt h.1.1.2.1 (by rw [hc.1]; decide : tC B T i ≠ 0)) (xseg_word (by omega) (by omega) (put_code _ _ _ _ _ _ _)) (fun h3 E E' hE => congrArg some (hE (base + v) (Or.inl (by have := hs h3; omega))))
    refine ⟨S', ?_, ?_⟩
    · have l9 : nI v < (9 : Int32) := (n_lt (b := 9) (by omega) (by omega)).mpr (by omega)
      unfold f_Re_readWhich
      have hp : tC B T i = 50 ∧ tV B T i ≤ 1000 := ⟨hc.1, h1000⟩
      rw [qb1 hnum, if_pos hp, if_neg (by decide), h.1.2.2.2.2, show tNum B T (tPos B T i) = nI v from hev, if_pos l9, n_add]
      exact h2
    · have ev : (tV B T i).toInt.toNat = v := by rw [hev, q_nI (by omega)]; omega
      rw [ev]
      exact h3
  · intro hc
    unfold f_Re_readWhich
    rw [qb1 hnum]
    by_cases h1 : tC B T i = 50 ∧ tV B T i ≤ 1000
    · have h8 : ¬ tV B T i ≤ 8 := fun h => hc ⟨h1.1, h⟩
      have l9 : ¬ zI S 44 5 < (9 : Int32) := by
        rw [h.1.2.2.2.2, show tNum B T (tPos B T i) = tV B T i from rfl]
        rw [q_le] at h8
        rw [q_lt]
        omega
      rw [if_pos h1, if_neg (by decide), if_neg l9]
    · rw [if_neg h1, if_pos rfl]

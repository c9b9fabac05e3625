/-! the class's parser: a part of orders that is one plain word -/
theorem leaf_ow (fu : Nat) (hfu : 500 ≤ fu) (brk : Int32 → Int32 → zSt → Option (Int32 × zSt)) {S : zSt} {B : Nat → Int32} {T : Nat} {i q b l : Nat} (h : zPS S B T 1 i q b l) (hl : l ≤ i + 35) (hq50 : q < 50) (hc : ¬ (tC B T i = 50 ∧ tV B T i ≤ 1000)) (c14 : tC B T i ≠ 14) (c20 : tC B T i ≠ 20) :
    ∃ r S', f_Re_readPart_138 brk fu (ordW (tC B T i)) (zwI S 46 2 (nI (q + 1))) = some (r, S') ∧ zOut S B T 1 23 i q b l (lleaf true (tC B T) (tV B T) i q) r S' := by
  have hT := h.1.1.2.1
  have h1 := zPS_q h (q + 1)
  have H : ∀ w, w < 5 → tC B T i ≠ 0 → ordW (tC B T i) = nI w → lleaf true (tC B T) (tV B T) i q = .inr (i + 1, q + 1, fun E => some (E w)) → ∃ r S', f_Re_readPart_138 brk fu (ordW (tC B T i)) (zwI S 46 2 (nI (q + 1))) = some (r, S') ∧ zOut S B T 1 23 i q b l (lleaf true (tC B T) (tV B T) i q) r S' := by
    intro w hw h0 e1 e2
    have hi := tC_lt hT h0
    obtain ⟨S', h2, h3⟩ := put_out fu hfu (S0 := S) (W := 23) (i0 := i) (q0 := q) (w := 1) (v := w) (d := fun E => some (E w)) h1 (zPF_46 S 2 _ l (by omega)) (Nat.le_refl i) rfl (by omega) (by omega) (by omega) hi (xseg_word (by omega) (by omega) (put_code _ _ _ _ _ _ _)) (fun _ E E' hE => congrArg some (hE w (Or.inl (by omega))))
    refine ⟨1, S', ?_, by rw [e2]; exact h3⟩
    rw [e1]
    unfold f_Re_readPart_138
    have ne : ¬ nI w = (-1 : Int32) := fun h => absurd (congrArg Int32.toInt h) (by rw [q_nI (by omega), show (-1 : Int32).toInt = -1 from rfl]; omega)
    rw [if_neg ne]
    exact h2
  have L : lleaf true (tC B T) (tV B T) i q = (if 15 ≤ tC B T i ∧ tC B T i ≤ 19 then .inr (i + 1, q + 1, fun E => some (E ((tC B T i).toInt.toNat - 15))) else .inl i) := by
    unfold lleaf
    rw [if_neg (by omega), if_neg hc, if_pos rfl, if_neg c14, if_neg c20]
  generalize tC B T i = c at *
  by_cases c15 : c = 15
  · subst c15; exact H 0 (by omega) (by decide) rfl (by rw [L]; rfl)
  by_cases c16 : c = 16
  · subst c16; exact H 1 (by omega) (by decide) rfl (by rw [L]; rfl)
  by_cases c17 : c = 17
  · subst c17; exact H 2 (by omega) (by decide) rfl (by rw [L]; rfl)
  by_cases c18 : c = 18
  · subst c18; exact H 3 (by omega) (by decide) rfl (by rw [L]; rfl)
  by_cases c19 : c = 19
  · subst c19; exact H 4 (by omega) (by decide) rfl (by rw [L]; rfl)
  have eW : ordW c = -1 := by
    unfold ordW
    rw [if_neg c15, if_neg c16, if_neg c17, if_neg c18, if_neg c19]
  have n9 : ¬ (15 ≤ c ∧ c ≤ 19) := by
    rintro ⟨g1, g2⟩
    rw [q_le] at g1 g2
    rw [q_eq] at c15 c16 c17 c18 c19
    have e15 : (15 : Int32).toInt = 15 := rfl
    have e16 : (16 : Int32).toInt = 16 := rfl
    have e17 : (17 : Int32).toInt = 17 := rfl
    have e18 : (18 : Int32).toInt = 18 := rfl
    have e19 : (19 : Int32).toInt = 19 := rfl
    omega
  refine ⟨0, zwI S 46 2 (nI (q + 1)), ?_, zPF_46 S 2 _ l (by omega), ?_⟩
  · rw [eW]; rfl
  · rw [L, if_neg n9]
    exact ⟨rfl, h1.1⟩

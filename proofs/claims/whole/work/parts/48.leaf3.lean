/-! the class's parser: a part of a law -/
theorem leaf_law (fu : Nat) (hfu : 500 ≤ fu) (brk : Int32 → Int32 → zSt → Option (Int32 × zSt)) {S : zSt} {B : Nat → Int32} {T : Nat} {i q b l : Nat} (h : zPS S B T 0 i q b l) (hl : l ≤ i + 35) (hq50 : q ≤ 50) (h191 : tC B T i ≠ 191) :
    ∃ r S', f_Re_readPart_o brk fu S = some (r, S') ∧ zOut S B T 0 7 i q b l (lleaf false (tC B T) (tV B T) i q) r S' := by
  obtain ⟨a1, a2, a3⟩ := leaf_num fu hfu brk (W := 7) h hl hq50 h191 false
  have hT := h.1.1.2.1
  have h1 := zPS_q h (q + 1)
  by_cases hq : 50 ≤ q
  · exact a1 hq
  by_cases hc : tC B T i = 50 ∧ tV B T i ≤ 1000
  · exact a2 (by omega) hc
  rw [a3 (by omega) hc, if_pos rfl]
  have e88 : f_Re_readPart_88 brk fu (zwI S 46 2 (nI (q + 1))) = f_Re_readPart_138 brk fu (lawW (tC B T i)) (zwI S 46 2 (nI (q + 1))) := by
    unfold f_Re_readPart_88
    rw [if_pos h1.2.1, if_pos h1.2.1, qb1 (law_word fu hfu h1.1)]
  rw [e88]
  have H : ∀ w, w < 7 → tC B T i ≠ 0 → lawW (tC B T i) = nI w → lleaf false (tC B T) (tV B T) i q = .inr (i + 1, q + 1, fun E => some (E w)) → ∃ r S', f_Re_readPart_138 brk fu (lawW (tC B T i)) (zwI S 46 2 (nI (q + 1))) = some (r, S') ∧ zOut S B T 0 7 i q b l (lleaf false (tC B T) (tV B T) i q) r S' := by
    intro w hw h0 e1 e2
    have hi := tC_lt hT h0
    obtain ⟨S', h2, h3⟩ := put_out fu hfu (S0 := S) (W := 7) (i0 := i) (q0 := q) (w := 1) (v := w) (d := fun E => some (E w)) h1 (zPF_46 S 2 _ l (by omega)) (Nat.le_refl i) rfl (by omega) (by omega) (by omega) hi (xseg_word hw (by omega) (put_code _ _ _ _ _ _ _)) (fun _ E E' hE => congrArg some (hE w (Or.inl (by omega))))
    refine ⟨1, S', ?_, by rw [e2]; exact h3⟩
    rw [e1]
    unfold f_Re_readPart_138
    have ne : ¬ nI w = (-1 : Int32) := fun h => absurd (congrArg Int32.toInt h) (by rw [q_nI (by omega), show (-1 : Int32).toInt = -1 from rfl]; omega)
    rw [if_neg ne]
    exact h2
  have L : lleaf false (tC B T) (tV B T) i q = (if 9 ≤ tC B T i ∧ tC B T i ≤ 12 then .inr (i + 1, q + 1, fun E => some (E ((tC B T i).toInt.toNat - 9))) else if tC B T i = 13 then .inr (i + 1, q + 1, fun E => some (E 6)) else if tC B T i = 14 then .inr (i + 1, q + 1, fun E => some (E 4)) else if tC B T i = 15 then .inr (i + 1, q + 1, fun E => some (E 5)) else .inl i) := by
    unfold lleaf
    rw [if_neg hq, if_neg hc, if_neg (by decide)]
  generalize tC B T i = c at *
  by_cases c9 : c = 9
  · subst c9; exact H 0 (by omega) (by decide) rfl (by rw [L]; rfl)
  by_cases c10 : c = 10
  · subst c10; exact H 1 (by omega) (by decide) rfl (by rw [L]; rfl)
  by_cases c11 : c = 11
  · subst c11; exact H 2 (by omega) (by decide) rfl (by rw [L]; rfl)
  by_cases c12 : c = 12
  · subst c12; exact H 3 (by omega) (by decide) rfl (by rw [L]; rfl)
  by_cases c14 : c = 14
  · subst c14; exact H 4 (by omega) (by decide) rfl (by rw [L]; rfl)
  by_cases c15 : c = 15
  · subst c15; exact H 5 (by omega) (by decide) rfl (by rw [L]; rfl)
  by_cases c13 : c = 13
  · subst c13; exact H 6 (by omega) (by decide) rfl (by rw [L]; rfl)
  have eW : lawW c = -1 := by
    unfold lawW
    rw [if_neg c9, if_neg c10, if_neg c11, if_neg c12, if_neg c14, if_neg c15, if_neg c13]
  have n9 : ¬ (9 ≤ c ∧ c ≤ 12) := by
    rintro ⟨g1, g2⟩
    rw [q_le] at g1 g2
    rw [q_eq] at c9 c10 c11 c12
    have e9 : (9 : Int32).toInt = 9 := rfl
    have e10 : (10 : Int32).toInt = 10 := rfl
    have e11 : (11 : Int32).toInt = 11 := rfl
    have e12 : (12 : Int32).toInt = 12 := rfl
    omega
  refine ⟨0, zwI S 46 2 (nI (q + 1)), ?_, zPF_46 S 2 _ l (by omega), ?_⟩
  · rw [eW]; rfl
  · rw [L, if_neg n9, if_neg c13, if_neg c14, if_neg c15]
    exact ⟨rfl, h1.1⟩

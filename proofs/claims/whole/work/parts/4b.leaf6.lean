/-! the class's parser: a part of orders -/
theorem zPS_soon {S : zSt} {B : Nat → Int32} {T : Nat} {ord : Int32} {i q b l : Nat} (h : zPS S B T ord i q b l) : zPS (zwI S 47 3 1) B T ord i q b l := by
  obtain ⟨h1, h2, h3, h4, h5, h6⟩ := h
  refine ⟨zHd_w h1 _ _ (by omega) (by omega), ?_, ?_, ?_, ?_, h6⟩
  · rw [qIIo _ _ (by omega)]; exact h2
  · rw [qIIo _ _ (by omega)]; exact h3
  · rw [qIIo _ _ (by omega)]; exact h4
  · rw [qIIo _ _ (by omega)]; exact h5
theorem zPF_soon (S : zSt) (l : Nat) : zPF S (zwI S 47 3 1) l :=
  ⟨rfl, fun j k h1 h2 h3 h4 => qIIo _ _ (by omega), fun k hk => qIIo _ _ (by omega), qIIo _ _ (by omega), fun k _ _ => qIIo _ _ (by omega), fun k _ => qIIo _ _ (by omega), fun h => by rw [qIIs] at h; exact absurd h (by decide), Or.inr (qIIs _ _ _ _)⟩
theorem leaf_ord (fu : Nat) (hfu : 500 ≤ fu) (brk : Int32 → Int32 → zSt → Option (Int32 × zSt)) {S : zSt} {B : Nat → Int32} {T : Nat} {i q b l : Nat} (h : zPS S B T 1 i q b l) (hl : l ≤ i + 35) (hq50 : q ≤ 50) (h191 : tC B T i ≠ 191) :
    ∃ r S', f_Re_readPart_o brk fu S = some (r, S') ∧ zOut S B T 1 23 i q b l (lleaf true (tC B T) (tV B T) i q) r S' := by
  obtain ⟨a1, a2, a3⟩ := leaf_num fu hfu brk (W := 23) h hl hq50 h191 true
  have hT := h.1.1.2.1
  have h1 := zPS_q h (q + 1)
  by_cases hq : 50 ≤ q
  · exact a1 hq
  by_cases hc : tC B T i = 50 ∧ tV B T i ≤ 1000
  · exact a2 (by omega) hc
  rw [a3 (by omega) hc, if_neg (by decide)]
  have t12 := take_word fu hfu h1.1 (n := 13) (j := 12) (by omega) rfl
  have F0 : zPF S (zwI S 46 2 (nI (q + 1))) l := zPF_46 S 2 _ l (by omega)
  have F1 : zPF S (zTk (zwI S 46 2 (nI (q + 1))) B T (tPos B T (i + 1))) l := zPF_t F0 (zPF_tk (B := B) (T := T) _ l) (Nat.le_refl l)
  by_cases c14 : tC B T i = 14
  · have hi := tC_lt hT (by rw [c14]; decide : tC B T i ≠ 0)
    have hw := which_out fu hfu (S0 := S) (base := 5) (i0 := i) (q0 := q) (zTk_S h1) F1 (by omega) rfl (by omega) (by omega) (by omega) (fun _ => by omega)
    rw [qb2 (t12.1 c14).1, if_neg (by decide)]
    have L : lleaf true (tC B T) (tV B T) i q = (if tC B T (i + 1) = 50 ∧ tV B T (i + 1) ≤ 8 then .inr (i + 2, q + 1, fun E => some (E (5 + (tV B T (i + 1)).toInt.toNat))) else .inl (i + 1)) := by
      unfold lleaf
      rw [if_neg hq, if_neg hc, if_pos rfl, if_pos c14]
    rw [L]
    by_cases hw2 : tC B T (i + 1) = 50 ∧ tV B T (i + 1) ≤ 8
    · obtain ⟨S', g1, g2⟩ := hw.1 hw2
      refine ⟨1, S', ?_, by rw [if_pos hw2]; exact g2⟩
      rw [show (5 : Int32) = nI 5 from rfl, qb2 g1, qgd (by decide)]
    · refine ⟨0, _, ?_, F1, ?_⟩
      · rw [show (5 : Int32) = nI 5 from rfl, qb2 (hw.2 hw2), qgd (by decide)]
      · rw [if_neg hw2]; exact ⟨rfl, (zTk_S h1).1⟩
  · rw [qb2 (t12.2 c14), if_pos rfl]
    have t13 := take_word fu hfu h1.1 (n := 19) (j := 13) (by omega) rfl
    unfold f_Re_readPart_88
    rw [if_neg (show ¬ zI (zwI S 46 2 (nI (q + 1))) 46 1 = 0 by rw [h1.2.1]; decide)]
    by_cases c20 : tC B T i = 20
    · have hi := tC_lt hT (by rw [c20]; decide : tC B T i ≠ 0)
      have F2 := zPF_t F1 (zPF_soon (zTk (zwI S 46 2 (nI (q + 1))) B T (tPos B T (i + 1))) l) (Nat.le_refl l)
      have hw := which_out fu hfu (S0 := S) (base := 14) (i0 := i) (q0 := q) (zPS_soon (zTk_S h1)) F2 (by omega) rfl (by omega) (by omega) (by omega) (fun h => by rw [qIIs] at h; exact absurd h (by decide))
      rw [qb2 (t13.1 c20).1, if_neg (by decide)]
      have L : lleaf true (tC B T) (tV B T) i q = (if tC B T (i + 1) = 50 ∧ tV B T (i + 1) ≤ 8 then .inr (i + 2, q + 1, fun E => some (E (14 + (tV B T (i + 1)).toInt.toNat))) else .inl (i + 1)) := by
        unfold lleaf
        rw [if_neg hq, if_neg hc, if_pos rfl, if_neg c14, if_pos c20]
      rw [L]
      by_cases hw2 : tC B T (i + 1) = 50 ∧ tV B T (i + 1) ≤ 8
      · obtain ⟨S', g1, g2⟩ := hw.1 hw2
        refine ⟨1, S', ?_, by rw [if_pos hw2]; exact g2⟩
        rw [show (14 : Int32) = nI 14 from rfl, qb2 g1, qgd (by decide)]
      · refine ⟨0, _, ?_, F2, ?_⟩
        · rw [show (14 : Int32) = nI 14 from rfl, qb2 (hw.2 hw2), qgd (by decide)]
        · rw [if_neg hw2]; exact ⟨rfl, (zPS_soon (zTk_S h1)).1⟩
    · rw [qb2 (t13.2 c20), if_pos rfl, if_neg (show ¬ zI (zwI S 46 2 (nI (q + 1))) 46 1 = 0 by rw [h1.2.1]; decide), qb1 (ord_word fu hfu h1.1)]
      exact leaf_ow fu hfu brk h hl (by omega) hc c14 c20

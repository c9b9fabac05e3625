/-! the reference's parser: parts, terms, sums -/
theorem m_leaf_part (fu : Nat) (cS : Int32 → zSt → Option zSt) {S : zSt} {B : Nat → Int32} {T N : Nat} {ord : Bool} (hM : zMS S B T N) (hW : zMW S ord) (a1 : Int32) {i q : Nat} (hi : i ≤ N) (hq : q ≤ 50) (h191 : tC B T i ≠ 191) :
    ∃ t v b, f_M_readPart_o cS fu a1 (zQ S (nI i) (nI q) (-1)) = some (zQ S t v b) ∧ mR B T N i q (sR (lleaf ord (tC B T) (tV B T) i q)) t v b := by
  have hN := hM.1
  have e := (hM.2.2.2.1 i hi).1
  have W8 : ∀ t v b, zI (zQ S t v b) 72 8 = (if ord = true then 14 else 9) := fun t v b => (zQ_o _ _ _ _ (Or.inr ⟨by omega, by omega, by omega⟩)).trans hW.2.1
  have W9 : ∀ t v b, zI (zQ S t v b) 72 9 = (if ord = true then 20 else 15) := fun t v b => (zQ_o _ _ _ _ (Or.inr ⟨by omega, by omega, by omega⟩)).trans hW.2.2
  have U : f_M_readPart_o cS fu a1 (zQ S (nI i) (nI q) (-1)) = if tC B T i = 50 then (if zI S 82 i ≤ 1000 then f_M_readPart_111 cS fu 50 (zQ S (nI i) (nI q) (-1)) else f_M_readPart_95 cS fu 50 (zQ S (nI i) (nI q) (-1))) else f_M_readPart_95 cS fu (tC B T i) (zQ S (nI i) (nI q) (-1)) := by
    unfold f_M_readPart_o
    rw [qb1 (m_fine1 S _ _), if_neg (by decide), zQ_19, n_gd (by omega) (by omega), q_cl (by omega), zQ_o _ _ _ _ (Or.inl (by omega)), e]
    show zb1 (some ((100 : Int32) + 91)) _ = _
    rw [qb1s, if_neg (show ¬ tC B T i = (100 : Int32) + 91 from h191), qgd ⟨n_0 (by omega), by omega⟩, zQ_o _ _ _ _ (Or.inl (by omega))]
    by_cases h1 : tC B T i = 50
    · rw [h1]
    · rw [if_neg h1, if_neg h1]
  have e1000 : (1000 : Int32).toInt = 1000 := rfl
  have F : zb1 (f_M_faults (zQ S (nI i) (nI q) (-1))) (fun S3 => some S3) = some (zQ S (nI i) (nI q) (nI (tPos B T i))) := qb1 (m_faults hM hi (nI q))
  have G95 : ∀ c, f_M_readPart_95 cS fu c (zQ S (nI i) (nI q) (-1)) = if (if ord = true then (14 : Int32) else 9) ≤ c ∧ c ≤ (if ord = true then (20 : Int32) else 15) then f_M_readPart_111 cS fu c (zQ S (nI i) (nI q) (-1)) else some (zQ S (nI i) (nI q) (nI (tPos B T i))) := by
    intro c
    unfold f_M_readPart_95
    rw [W8, W9, F]
    generalize (if ord = true then (14 : Int32) else 9) = lo
    generalize (if ord = true then (20 : Int32) else 15) = hi2
    by_cases h1 : c < lo
    · rw [if_pos h1, if_neg (fun h => absurd h.1 (by rw [q_le]; rw [q_lt] at h1; omega))]
    · rw [if_neg h1]
      by_cases h2 : hi2 < c
      · rw [if_pos h2, if_neg (fun h => absurd h.2 (by rw [q_le]; rw [q_lt] at h2; omega))]
      · rw [if_neg h2, if_pos ⟨by rw [q_le]; rw [q_lt] at h1; omega, by rw [q_le]; rw [q_lt] at h2; omega⟩]
  have FL : mR B T N i q (.inl i) (nI i) (nI q) (nI (tPos B T i)) := ⟨hi, rfl⟩
  have N50 : ¬ ((if ord = true then (14 : Int32) else 9) ≤ 50 ∧ (50 : Int32) ≤ (if ord = true then (20 : Int32) else 15)) := by cases ord <;> decide
  by_cases hq50 : 50 ≤ q
  · have L : lleaf ord (tC B T) (tV B T) i q = .inl i := by unfold lleaf; rw [if_pos hq50]
    rw [L]
    have K : ∀ c, tC B T i = c → c ≠ 0 → ∃ t v b, f_M_readPart_111 cS fu c (zQ S (nI i) (nI q) (-1)) = some (zQ S t v b) ∧ mR B T N i q (.inl i) t v b := by
      intro c hc h0
      obtain ⟨t, v, h⟩ := (m_111 fu cS hM hW (tok_in hM.2.2.1 (by rw [hc]; exact h0)) hq c).1 hq50
      exact ⟨t, v, _, h, hi, rfl⟩
    rw [U]
    by_cases h1 : tC B T i = 50
    · rw [if_pos h1]
      by_cases h2 : zI S 82 i ≤ 1000
      · rw [if_pos h2]; exact K 50 h1 (by decide)
      · rw [if_neg h2, G95, if_neg N50]; exact ⟨_, _, _, rfl, FL⟩
    · rw [if_neg h1, G95]
      by_cases h2 : (if ord = true then (14 : Int32) else 9) ≤ tC B T i ∧ tC B T i ≤ (if ord = true then (20 : Int32) else 15)
      · rw [if_pos h2]
        refine K _ rfl (fun h0 => ?_)
        rw [h0] at h2
        revert h2
        cases ord <;> decide
      · rw [if_neg h2]; exact ⟨_, _, _, rfl, FL⟩
  by_cases hc : tC B T i = 50 ∧ tV B T i ≤ 1000
  · have hlt : i < N := tok_in hM.2.2.1 (by rw [hc.1]; decide)
    have hv := (hM.2.2.2.2 i hlt).1 hc.2
    have L : sR (lleaf ord (tC B T) (tV B T) i q) = .inr (i + 1, q + 1) := by unfold lleaf; rw [if_neg hq50, if_pos hc]; rfl
    rw [U, L, if_pos hc.1, if_pos (by rw [hv]; exact hc.2), (m_111 fu cS hM hW hlt hq 50).2.1 (by omega) (fun h => by rcases h.2 with h | h <;> exact absurd h (by decide))]
    exact ⟨_, _, _, rfl, rfl, rfl, rfl, by omega, by omega, by omega, by omega⟩
  have U2 : f_M_readPart_o cS fu a1 (zQ S (nI i) (nI q) (-1)) = if (if ord = true then (14 : Int32) else 9) ≤ tC B T i ∧ tC B T i ≤ (if ord = true then (20 : Int32) else 15) then f_M_readPart_111 cS fu (tC B T i) (zQ S (nI i) (nI q) (-1)) else some (zQ S (nI i) (nI q) (nI (tPos B T i))) := by
    rw [U, ← G95]
    by_cases h1 : tC B T i = 50
    · have hlt : i < N := tok_in hM.2.2.1 (by rw [h1]; decide)
      rw [if_pos h1, if_neg ((hM.2.2.2.2 i hlt).2 (fun h => hc ⟨h1, h⟩)), h1]
    · rw [if_neg h1]
  rw [U2]
  have OK1 : ∀ {α : Type} (d : α), tC B T i ≠ 0 → ¬ (ord = true ∧ (tC B T i = 14 ∨ tC B T i = 20)) → ∃ t v b, f_M_readPart_111 cS fu (tC B T i) (zQ S (nI i) (nI q) (-1)) = some (zQ S t v b) ∧ mR B T N i q (sR (.inr (i + 1, q + 1, d))) t v b := by
    intro α d h0 hn
    have hlt : i < N := tok_in hM.2.2.1 h0
    rw [(m_111 fu cS hM hW hlt hq _).2.1 (by omega) hn]
    exact ⟨_, _, _, rfl, rfl, rfl, rfl, by omega, by omega, by omega, by omega⟩
  cases ord with
  | true =>
    have L : lleaf true (tC B T) (tV B T) i q = (if tC B T i = 14 then (if tC B T (i + 1) = 50 ∧ tV B T (i + 1) ≤ 8 then .inr (i + 2, q + 1, fun E => some (E (5 + (tV B T (i + 1)).toInt.toNat))) else .inl (i + 1))
      else if tC B T i = 20 then (if tC B T (i + 1) = 50 ∧ tV B T (i + 1) ≤ 8 then .inr (i + 2, q + 1, fun E => some (E (14 + (tV B T (i + 1)).toInt.toNat))) else .inl (i + 1))
      else if 15 ≤ tC B T i ∧ tC B T i ≤ 19 then .inr (i + 1, q + 1, fun E => some (E ((tC B T i).toInt.toNat - 15)))
      else .inl i) := by
      unfold lleaf; rw [if_neg hq50, if_neg hc, if_pos rfl]
    rw [L, show (if true = true then (14 : Int32) else 9) = 14 from rfl, show (if true = true then (20 : Int32) else 15) = 20 from rfl]
    have TW : ∀ (d : lD), (tC B T i = 14 ∨ tC B T i = 20) → ∃ t v b, f_M_readPart_111 cS fu (tC B T i) (zQ S (nI i) (nI q) (-1)) = some (zQ S t v b) ∧ mR B T N i q (sR (if tC B T (i + 1) = 50 ∧ tV B T (i + 1) ≤ 8 then .inr (i + 2, q + 1, d) else .inl (i + 1))) t v b := by
      intro d h
      have hlt : i < N := tok_in hM.2.2.1 (by rcases h with h | h <;> rw [h] <;> decide)
      rw [(m_111 fu cS hM hW hlt hq _).2.2 (by omega) rfl h]
      by_cases hv : tC B T (i + 1) = 50 ∧ tV B T (i + 1) ≤ 8
      · have hlt2 : i + 1 < N := tok_in hM.2.2.1 (by rw [hv.1]; decide)
        rw [if_pos hv, if_pos hv]
        exact ⟨_, _, _, rfl, rfl, rfl, rfl, by omega, by omega, by omega, by omega⟩
      · rw [if_neg hv, if_neg hv]
        exact ⟨_, _, _, rfl, by omega, rfl⟩
    by_cases c14 : tC B T i = 14
    · rw [if_pos (by rw [c14]; decide), if_pos c14]
      exact TW _ (Or.inl c14)
    rw [if_neg (c := tC B T i = 14) c14]
    by_cases c20 : tC B T i = 20
    · rw [if_pos (by rw [c20]; decide), if_pos c20]
      exact TW _ (Or.inr c20)
    rw [if_neg (c := tC B T i = 20) c20]
    have e14 : (14 : Int32).toInt = 14 := rfl
    have e15 : (15 : Int32).toInt = 15 := rfl
    have e19 : (19 : Int32).toInt = 19 := rfl
    have e20 : (20 : Int32).toInt = 20 := rfl
    by_cases h2 : 15 ≤ tC B T i ∧ tC B T i ≤ 19
    · have h3 : 14 ≤ tC B T i ∧ tC B T i ≤ 20 := by
        have := h2
        rw [q_le, q_le] at this ⊢
        omega
      rw [if_pos h2, if_pos h3]
      exact OK1 _ (fun h0 => by rw [h0] at h2; exact absurd h2.1 (by decide)) (fun h => by
        rcases h.2 with h | h
        · exact c14 h
        · exact c20 h)
    · have h3 : ¬ (14 ≤ tC B T i ∧ tC B T i ≤ 20) := by
        intro h3
        apply h2
        rw [q_eq] at c14 c20
        rw [q_le, q_le] at h3 ⊢
        omega
      rw [if_neg h2, if_neg h3]
      exact ⟨_, _, _, rfl, FL⟩
  | false =>
    have L : lleaf false (tC B T) (tV B T) i q = (if 9 ≤ tC B T i ∧ tC B T i ≤ 12 then .inr (i + 1, q + 1, fun E => some (E ((tC B T i).toInt.toNat - 9)))
      else if tC B T i = 13 then .inr (i + 1, q + 1, fun E => some (E 6))
      else if tC B T i = 14 then .inr (i + 1, q + 1, fun E => some (E 4))
      else if tC B T i = 15 then .inr (i + 1, q + 1, fun E => some (E 5))
      else .inl i) := by
      unfold lleaf; rw [if_neg hq50, if_neg hc, if_neg (by decide)]
    rw [L, show (if false = true then (14 : Int32) else 9) = 9 from rfl, show (if false = true then (20 : Int32) else 15) = 15 from rfl]
    have nO : ¬ (false = true ∧ (tC B T i = 14 ∨ tC B T i = 20)) := fun h => absurd h.1 (by decide)
    by_cases c13 : tC B T i = 13
    · rw [if_pos (by rw [c13]; decide), if_neg (by rw [c13]; decide), if_pos c13]
      exact OK1 _ (by rw [c13]; decide) nO
    by_cases c14 : tC B T i = 14
    · rw [if_pos (by rw [c14]; decide), if_neg (by rw [c14]; decide), if_neg (c := tC B T i = 13) c13, if_pos c14]
      exact OK1 _ (by rw [c14]; decide) nO
    by_cases c15 : tC B T i = 15
    · rw [if_pos (by rw [c15]; decide), if_neg (by rw [c15]; decide), if_neg (c := tC B T i = 13) c13, if_neg (c := tC B T i = 14) c14, if_pos c15]
      exact OK1 _ (by rw [c15]; decide) nO
    rw [if_neg (c := tC B T i = 13) c13, if_neg (c := tC B T i = 14) c14, if_neg (c := tC B T i = 15) c15]
    have e9 : (9 : Int32).toInt = 9 := rfl
    have e12 : (12 : Int32).toInt = 12 := rfl
    have e13 : (13 : Int32).toInt = 13 := rfl
    have e14 : (14 : Int32).toInt = 14 := rfl
    have e15 : (15 : Int32).toInt = 15 := rfl
    by_cases h2 : 9 ≤ tC B T i ∧ tC B T i ≤ 12
    · have h3 : 9 ≤ tC B T i ∧ tC B T i ≤ 15 := by
        have := h2
        rw [q_le, q_le] at this ⊢
        omega
      rw [if_pos h2, if_pos h3]
      exact OK1 _ (fun h0 => by rw [h0] at h2; exact absurd h2.1 (by decide)) nO
    · have h3 : ¬ (9 ≤ tC B T i ∧ tC B T i ≤ 15) := by
        intro h3
        apply h2
        rw [q_eq] at c13 c14 c15
        rw [q_le, q_le] at h3 ⊢
        omega
      rw [if_neg h2, if_neg h3]
      exact ⟨_, _, _, rfl, FL⟩
theorem m_part_ok (fu : Nat) (cS : Int32 → zSt → Option zSt) {S : zSt} {B : Nat → Int32} {T N n r : Nat} {ord : Bool} (hM : zMS S B T N) (hW : zMW S ord) (hr : r ≤ 8) (hs : ∀ r', r = r' + 1 → mOk S B T N (cS (nI (8 - r'))) (fun i q => sR (lsum (lpart ord (tC B T) (tV B T) n r') (tC B T) n i q))) :
    mOk S B T N (f_M_readPart_o cS fu (nI (8 - r))) (fun i q => sR (lpart ord (tC B T) (tV B T) n r i q)) := by
  have hN := hM.1
  refine ⟨fun t v b hb => ?_, fun i q hi hq => ?_⟩
  · unfold f_M_readPart_o
    rw [qb1 (m_fine0 S t v hb), if_pos rfl]
  · have e := (hM.2.2.2.1 i hi).1
    by_cases c : tC B T i = 191
    · have hlt : i < N := tok_in hM.2.2.1 (by rw [c]; decide)
      have U : f_M_readPart_o cS fu (nI (8 - r)) (zQ S (nI i) (nI q) (-1)) = if nI (8 - r) = (8 : Int32) then zb1 (f_M_faults (zQ S (nI i) (nI q) (-1))) (fun S13 => f_M_readPart_37 cS fu (nI (8 - r)) S13) else f_M_readPart_37 cS fu (nI (8 - r)) (zQ S (nI i) (nI q) (-1)) := by
        unfold f_M_readPart_o
        rw [qb1 (m_fine1 S _ _), if_neg (by decide), zQ_19, n_gd (by omega) (by omega), q_cl (by omega), zQ_o _ _ _ _ (Or.inl (by omega)), e]
        show zb1 (some ((100 : Int32) + 91)) _ = _
        rw [qb1s, if_pos (show tC B T i = (100 : Int32) + 91 from c)]
      rw [U]
      cases r with
      | zero =>
        rw [if_pos (by rfl), qb1 (m_faults hM hi _)]
        unfold f_M_readPart_37
        rw [qb1 (m_fine0 S _ _ (pos_ne B hM.2.1 i)), if_pos rfl]
        refine ⟨_, _, _, rfl, ?_⟩
        show mR B T N i q (sR (if tC B T i = 191 then .inl i else _)) _ _ _
        rw [if_pos c]
        exact ⟨hi, rfl⟩
      | succ r' =>
        have ne : ¬ nI (8 - (r' + 1)) = (8 : Int32) := fun h2 => absurd ((n_eq (b := 8) (by omega) (by omega)).mp h2) (by omega)
        rw [if_neg ne]
        obtain ⟨hd, ha⟩ := hs r' rfl
        obtain ⟨t, v, b, h1, h2⟩ := ha (i + 1) q (by omega) hq
        have U2 : f_M_readPart_37 cS fu (nI (8 - (r' + 1))) (zQ S (nI i) (nI q) (-1)) = zb1 (f_M_must 193 (zQ S t v b)) (fun S9 => some S9) := by
          unfold f_M_readPart_37
          rw [qb1 (m_fine1 S _ _), if_neg (by decide), zQ_19, n_1, n_1, zQ_w19, show 8 - (r' + 1) + 1 = 8 - r' by omega, qb1 h1]
          rfl
        rw [U2]
        show ∃ t v b, _ ∧ mR B T N i q (sR (if tC B T i = 191 then (match lsum (lpart ord (tC B T) (tV B T) n r') (tC B T) n (i + 1) q with
          | .inl j => .inl j
          | .inr (j, q', d) => if tC B T j = 193 then .inr (j + 1, q', d) else .inl j) else _)) t v b
        rw [if_pos c]
        revert h2
        show mR B T N (i + 1) q (sR (lsum (lpart ord (tC B T) (tV B T) n r') (tC B T) n (i + 1) q)) t v b → _
        cases lsum (lpart ord (tC B T) (tV B T) n r') (tC B T) n (i + 1) q with
        | inl j =>
          intro h2
          obtain ⟨h3, rfl⟩ := h2
          exact ⟨_, _, _, qb1 (m_must_dead S t v (pos_ne B hM.2.1 j) 193), h3, rfl⟩
        | inr x =>
          obtain ⟨j, q', d⟩ := x
          intro h2
          obtain ⟨rfl, rfl, rfl, h3, h4, h5, h6⟩ := h2
          have hm := m_must hM h4 (nI q') 193
          show ∃ t v b, _ ∧ mR B T N i q (sR (if tC B T j = 193 then .inr (j + 1, q', d) else .inl j)) t v b
          by_cases c2 : tC B T j = 193
          · have hlt2 : j < N := tok_in hM.2.2.1 (by rw [c2]; decide)
            rw [if_pos c2]
            exact ⟨_, _, _, qb1 (hm.1 c2), rfl, rfl, rfl, by omega, by omega, by omega, by omega⟩
          · rw [if_neg c2]
            exact ⟨_, _, _, qb1 (hm.2 c2), h4, rfl⟩
    · obtain ⟨t, v, b, h1, h2⟩ := m_leaf_part fu cS hM hW (nI (8 - r)) hi hq c
      refine ⟨t, v, b, h1, ?_⟩
      cases r with
      | zero =>
        show mR B T N i q (sR (if tC B T i = 191 then .inl i else _)) _ _ _
        rw [if_neg c]; exact h2
      | succ r' =>
        show mR B T N i q (sR (if tC B T i = 191 then _ else _)) _ _ _
        rw [if_neg c]; exact h2
theorem sg_1 {c : Nat} (hc : c < 256) : f_M_sign (nI c) = some (nI (100 + c)) := by
  unfold f_M_sign
  rw [show (100 : Int32) = nI 100 from rfl, n_add]
section MLP
variable {S : zSt} {B : Nat → Int32} {T N : Nat}
theorem mt_dead (fu : Nat) (f : Int32 → zSt → Option zSt) (a1 t v : Int32) {b : Int32} (hb : b ≠ -1) {n : Nat} (hn : 1 ≤ n) : f_M_readTerm_5 f fu n a1 (zQ S t v b) = some (zQ S t v b) := by
  obtain ⟨n, rfl⟩ : ∃ n', n = n' + 1 := ⟨n - 1, by omega⟩
  rw [f_M_readTerm_5, show f_M_sign 42 = some 142 from rfl, qb1s, qb2 (m_takes_dead S t v hb _), if_pos rfl, show f_M_sign 47 = some 147 from rfl, qb1s, qb2 (m_takes_dead S t v hb _), if_pos rfl, show f_M_sign 37 = some 137 from rfl, qb1s, qb2 (m_takes_dead S t v hb _), if_pos rfl]
theorem mt_loop (fu : Nat) (hM : zMS S B T N) (f : Int32 → zSt → Option zSt) (a1 : Int32) {p : Nat → Nat → lR} (hp : mOk S B T N (f a1) (fun i q => sR (p i q))) : ∀ (n m i q : Nat) (d : lD), i ≤ N → q ≤ 50 → 402 ≤ n + i → 401 ≤ m + i →
    ∃ t v b, f_M_readTerm_5 f fu n a1 (zQ S (nI i) (nI q) (-1)) = some (zQ S t v b) ∧ mR B T N i q (sR (lloopT p (tC B T) m i q d)) t v b := by
  have hN := hM.1
  intro n
  induction n with
  | zero => intro m i q d h1 h2 h3; omega
  | succ n ih =>
    intro m i q d h1 h2 h3 h4
    obtain ⟨m, rfl⟩ : ∃ m', m = m' + 1 := ⟨m - 1, by omega⟩
    have STEP : ∀ w, tC B T i ≠ 0 → ∃ t v b, zb1 (f a1 (zQ S (nI (i + 1)) (nI q) (-1))) (fun S8 => f_M_readTerm_5 f fu n a1 S8) = some (zQ S t v b) ∧ mR B T N i q (sR (match p (i + 1) q with
        | .inl j => .inl j
        | .inr (j, q', d') => lloopT p (tC B T) m j q' (lopD w d d'))) t v b := by
      intro w h0
      have hlt : i < N := tok_in hM.2.2.1 h0
      obtain ⟨t, v, b, x1, x2⟩ := hp.2 (i + 1) q (by omega) h2
      rw [qb1 x1]
      revert x2
      show mR B T N (i + 1) q (sR (p (i + 1) q)) t v b → _
      cases p (i + 1) q with
      | inl j =>
        intro x2
        obtain ⟨x3, rfl⟩ := x2
        exact ⟨t, v, _, mt_dead fu f a1 t v (pos_ne B hM.2.1 j) (by omega), x3, rfl⟩
      | inr y =>
        obtain ⟨j, q', d'⟩ := y
        intro x2
        obtain ⟨rfl, rfl, rfl, x3, x4, x5, x6⟩ := x2
        obtain ⟨t, v, b, y1, y2⟩ := ih m j q' (lopD w d d') x4 x6 (by omega) (by omega)
        exact ⟨t, v, b, y1, mR_up y2 (by omega) (by omega)⟩
    have t42 := m_takes hM h1 (nI q) 142
    have t47 := m_takes hM h1 (nI q) 147
    have t37 := m_takes hM h1 (nI q) 137
    rw [f_M_readTerm_5, lloopT, show f_M_sign 42 = some 142 from rfl, qb1s]
    by_cases c1 : tC B T i = 142
    · have hor : tC B T i = 142 ∨ tC B T i = 147 ∨ tC B T i = 137 := Or.inl c1
      rw [qb2 (t42.1 c1), if_neg (by decide), if_pos hor]
      exact STEP _ (by rw [c1]; decide)
    rw [qb2 (t42.2 c1), if_pos rfl, show f_M_sign 47 = some 147 from rfl, qb1s]
    by_cases c2 : tC B T i = 147
    · have hor : tC B T i = 142 ∨ tC B T i = 147 ∨ tC B T i = 137 := Or.inr (Or.inl c2)
      rw [qb2 (t47.1 c2), if_neg (by decide), if_pos hor]
      exact STEP _ (by rw [c2]; decide)
    rw [qb2 (t47.2 c2), if_pos rfl, show f_M_sign 37 = some 137 from rfl, qb1s]
    by_cases c3 : tC B T i = 137
    · have hor : tC B T i = 142 ∨ tC B T i = 147 ∨ tC B T i = 137 := Or.inr (Or.inr c3)
      rw [qb2 (t37.1 c3), if_neg (by decide), if_pos hor]
      exact STEP _ (by rw [c3]; decide)
    · have hor : ¬ (tC B T i = 142 ∨ tC B T i = 147 ∨ tC B T i = 137) := by
        rintro (h | h | h)
        · exact c1 h
        · exact c2 h
        · exact c3 h
      rw [qb2 (t37.2 c3), if_pos rfl, if_neg hor]
      exact ⟨_, _, _, rfl, rfl, rfl, rfl, by omega, h1, by omega, h2⟩
theorem mt_ok (fu : Nat) (hfu : 500 ≤ fu) (hM : zMS S B T N) (f : Int32 → zSt → Option zSt) (a1 : Int32) {p : Nat → Nat → lR} {n : Nat} (hn : 401 ≤ n) (hp : mOk S B T N (f a1) (fun i q => sR (p i q))) : mOk S B T N (f_M_readTerm_o f fu a1) (fun i q => sR (lterm p (tC B T) n i q)) := by
  refine ⟨fun t v b hb => ?_, fun i q hi hq => ?_⟩
  · unfold f_M_readTerm_o
    rw [qb1 (hp.1 t v b hb)]
    exact mt_dead fu f a1 t v hb (by omega)
  · obtain ⟨t, v, b, x1, x2⟩ := hp.2 i q hi hq
    show ∃ t v b, f_M_readTerm_o f fu a1 (zQ S (nI i) (nI q) (-1)) = some (zQ S t v b) ∧ mR B T N i q (sR (lterm p (tC B T) n i q)) t v b
    unfold f_M_readTerm_o lterm
    rw [qb1 x1]
    revert x2
    show mR B T N i q (sR (p i q)) t v b → _
    cases p i q with
    | inl j =>
      intro x2
      obtain ⟨x3, rfl⟩ := x2
      exact ⟨t, v, _, mt_dead fu f a1 t v (pos_ne B hM.2.1 j) (by omega), x3, rfl⟩
    | inr y =>
      obtain ⟨j, q', d'⟩ := y
      intro x2
      obtain ⟨rfl, rfl, rfl, x3, x4, x5, x6⟩ := x2
      obtain ⟨t, v, b, y1, y2⟩ := mt_loop fu hM f a1 hp fu n j q' d' x4 x6 (by omega) (by omega)
      exact ⟨t, v, b, y1, mR_up y2 (by omega) (by omega)⟩
theorem ms_dead (fu : Nat) (f : Int32 → zSt → Option zSt) (a1 t v : Int32) {b : Int32} (hb : b ≠ -1) {n : Nat} (hn : 1 ≤ n) : f_M_readSum_5 f fu n a1 (zQ S t v b) = some (zQ S t v b) := by
  obtain ⟨n, rfl⟩ : ∃ n', n = n' + 1 := ⟨n - 1, by omega⟩
  rw [f_M_readSum_5, show f_M_sign 43 = some 143 from rfl, qb1s, qb2 (m_takes_dead S t v hb _), if_pos rfl, show f_M_sign 45 = some 145 from rfl, qb1s, qb2 (m_takes_dead S t v hb _), if_pos rfl]
theorem ms_loop (fu : Nat) (hM : zMS S B T N) (f : Int32 → zSt → Option zSt) (a1 : Int32) {p : Nat → Nat → lR} {M : Nat} (hp : mOk S B T N (f a1) (fun i q => sR (lterm p (tC B T) M i q))) : ∀ (n m i q : Nat) (d : lD), i ≤ N → q ≤ 50 → 402 ≤ n + i → 401 ≤ m + i →
    ∃ t v b, f_M_readSum_5 f fu n a1 (zQ S (nI i) (nI q) (-1)) = some (zQ S t v b) ∧ mR B T N i q (sR (lloopS p (tC B T) M m i q d)) t v b := by
  have hN := hM.1
  intro n
  induction n with
  | zero => intro m i q d h1 h2 h3; omega
  | succ n ih =>
    intro m i q d h1 h2 h3 h4
    obtain ⟨m, rfl⟩ : ∃ m', m = m' + 1 := ⟨m - 1, by omega⟩
    have STEP : ∀ w, tC B T i ≠ 0 → ∃ t v b, zb1 (f a1 (zQ S (nI (i + 1)) (nI q) (-1))) (fun S8 => f_M_readSum_5 f fu n a1 S8) = some (zQ S t v b) ∧ mR B T N i q (sR (match lterm p (tC B T) M (i + 1) q with
        | .inl j => .inl j
        | .inr (j, q', d') => lloopS p (tC B T) M m j q' (lopD w d d'))) t v b := by
      intro w h0
      have hlt : i < N := tok_in hM.2.2.1 h0
      obtain ⟨t, v, b, x1, x2⟩ := hp.2 (i + 1) q (by omega) h2
      rw [qb1 x1]
      revert x2
      show mR B T N (i + 1) q (sR (lterm p (tC B T) M (i + 1) q)) t v b → _
      cases lterm p (tC B T) M (i + 1) q with
      | inl j =>
        intro x2
        obtain ⟨x3, rfl⟩ := x2
        exact ⟨t, v, _, ms_dead fu f a1 t v (pos_ne B hM.2.1 j) (by omega), x3, rfl⟩
      | inr y =>
        obtain ⟨j, q', d'⟩ := y
        intro x2
        obtain ⟨rfl, rfl, rfl, x3, x4, x5, x6⟩ := x2
        obtain ⟨t, v, b, y1, y2⟩ := ih m j q' (lopD w d d') x4 x6 (by omega) (by omega)
        exact ⟨t, v, b, y1, mR_up y2 (by omega) (by omega)⟩
    have t43 := m_takes hM h1 (nI q) 143
    have t45 := m_takes hM h1 (nI q) 145
    rw [f_M_readSum_5, lloopS, show f_M_sign 43 = some 143 from rfl, qb1s]
    by_cases c1 : tC B T i = 143
    · have hor : tC B T i = 143 ∨ tC B T i = 145 := Or.inl c1
      rw [qb2 (t43.1 c1), if_neg (by decide), if_pos hor]
      exact STEP _ (by rw [c1]; decide)
    rw [qb2 (t43.2 c1), if_pos rfl, show f_M_sign 45 = some 145 from rfl, qb1s]
    by_cases c2 : tC B T i = 145
    · have hor : tC B T i = 143 ∨ tC B T i = 145 := Or.inr c2
      rw [qb2 (t45.1 c2), if_neg (by decide), if_pos hor]
      exact STEP _ (by rw [c2]; decide)
    · have hor : ¬ (tC B T i = 143 ∨ tC B T i = 145) := by
        rintro (h | h)
        · exact c1 h
        · exact c2 h
      rw [qb2 (t45.2 c2), if_pos rfl, if_neg hor]
      exact ⟨_, _, _, rfl, rfl, rfl, rfl, by omega, h1, by omega, h2⟩
theorem ms_ok (fu : Nat) (hfu : 500 ≤ fu) (hM : zMS S B T N) (f : Int32 → zSt → Option zSt) (a1 : Int32) {p : Nat → Nat → lR} {n : Nat} (hn : 401 ≤ n) (hp : mOk S B T N (f a1) (fun i q => sR (lterm p (tC B T) n i q))) : mOk S B T N (f_M_readSum_o f fu a1) (fun i q => sR (lsum p (tC B T) n i q)) := by
  refine ⟨fun t v b hb => ?_, fun i q hi hq => ?_⟩
  · unfold f_M_readSum_o
    rw [qb1 (hp.1 t v b hb)]
    exact ms_dead fu f a1 t v hb (by omega)
  · obtain ⟨t, v, b, x1, x2⟩ := hp.2 i q hi hq
    show ∃ t v b, f_M_readSum_o f fu a1 (zQ S (nI i) (nI q) (-1)) = some (zQ S t v b) ∧ mR B T N i q (sR (lsum p (tC B T) n i q)) t v b
    unfold f_M_readSum_o lsum
    rw [qb1 x1]
    revert x2
    show mR B T N i q (sR (lterm p (tC B T) n i q)) t v b → _
    cases lterm p (tC B T) n i q with
    | inl j =>
      intro x2
      obtain ⟨x3, rfl⟩ := x2
      exact ⟨t, v, _, ms_dead fu f a1 t v (pos_ne B hM.2.1 j) (by omega), x3, rfl⟩
    | inr y =>
      obtain ⟨j, q', d'⟩ := y
      intro x2
      obtain ⟨rfl, rfl, rfl, x3, x4, x5, x6⟩ := x2
      obtain ⟨t, v, b, y1, y2⟩ := ms_loop fu hM f a1 hp fu n j q' d' x4 x6 (by omega) (by omega)
      exact ⟨t, v, b, y1, mR_up y2 (by omega) (by omega)⟩
end MLP
theorem msums_ok (fu : Nat) (hfu : 500 ≤ fu) {S : zSt} {B : Nat → Int32} {T N n : Nat} {ord : Bool} (hM : zMS S B T N) (hW : zMW S ord) (hn : 401 ≤ n) :
    ∀ r, r ≤ 8 → ∀ d, 3 * r + 3 ≤ d → mOk S B T N (f_M_readSum fu d (nI (8 - r))) (fun i q => sR (lsum (lpart ord (tC B T) (tV B T) n r) (tC B T) n i q)) := by
  intro r
  induction r with
  | zero =>
    intro hr d hd
    obtain ⟨d, rfl⟩ : ∃ d', d = d' + 3 := ⟨d - 3, by omega⟩
    exact ms_ok fu hfu hM (f_M_readTerm fu (d + 2)) _ hn (mt_ok fu hfu hM (f_M_readPart fu (d + 1)) _ hn (m_part_ok fu (f_M_readSum fu d) hM hW hr (fun r' h => by omega)))
  | succ r ih =>
    intro hr d hd
    obtain ⟨d, rfl⟩ : ∃ d', d = d' + 3 := ⟨d - 3, by omega⟩
    refine ms_ok fu hfu hM (f_M_readTerm fu (d + 2)) _ hn (mt_ok fu hfu hM (f_M_readPart fu (d + 1)) _ hn (m_part_ok fu (f_M_readSum fu d) hM hW hr (fun r' h => ?_)))
    have e : r' = r := by omega
    rw [e]
    exact ih (by omega) d (by omega)

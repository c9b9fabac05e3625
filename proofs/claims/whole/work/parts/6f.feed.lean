/-! feed: five numbers, byte by byte -/
def fbt (v : Int32) (j : Nat) : Int32 := ((v >>> (nI (24 - 8 * j) &&& 31)).toInt8.toInt32).toInt8.toInt32
theorem fbt_rg (v : Int32) (j : Nat) : -128 ≤ (fbt v j).toInt ∧ (fbt v j).toInt ≤ 127 := by
  unfold fbt
  rw [Int8.toInt_toInt32]
  have h1 := Int8.le_toInt ((v >>> (nI (24 - 8 * j) &&& 31)).toInt8.toInt32).toInt8
  have h2 := Int8.toInt_lt ((v >>> (nI (24 - 8 * j) &&& 31)).toInt8.toInt32).toInt8
  omega
theorem put_3 (fu : Nat) (v : Int32) {T : Nat} (hT : T + 4 ≤ 400) (r : Nat) : ∀ (m : Nat) (S : zSt), m ≤ 4 → zI S 44 1 = nI (T + (4 - m)) → ∃ S', f_Ta_put_3 fu (m + 1 + r) v (nI (8 * m) - 8) S = some S' ∧ zI S' 44 1 = nI (T + 4) ∧ (∀ k, zI S' 45 k = if T + (4 - m) ≤ k ∧ k < T + 4 then fbt v (k - T) else zI S 45 k) ∧ (∀ j k, j ≠ 45 → ¬ (j = 44 ∧ k = 1) → zI S' j k = zI S j k) ∧ S'.2 = S.2 := by
  intro m
  induction m with
  | zero =>
    intro S _ h
    refine ⟨S, ?_, h, fun k => by rw [if_neg (by omega)], fun _ _ _ _ => rfl, rfl⟩
    rw [show 0 + 1 + r = r + 1 by omega]
    unfold f_Ta_put_3
    rw [if_pos (show nI (8 * 0) - 8 < 0 by decide)]
  | succ m ih =>
    intro S hm h
    have e1 : nI (8 * (m + 1)) - 8 = nI (8 * m) := by rw [show (8 : Int32) = nI 8 from rfl, n_sub (by omega)]; congr 1
    have e2 : nI (8 * m) + (-8) = nI (8 * m) - 8 := (Int32.sub_eq_add_neg _ _).symm
    have e3 : T + (4 - (m + 1)) + 1 = T + (4 - m) := by omega
    obtain ⟨S1, eS1⟩ : ∃ S1, S1 = zwI (zwI S 45 (T + (4 - (m + 1))) (fbt v (3 - m))) 44 1 (nI (T + (4 - m))) := ⟨_, rfl⟩
    obtain ⟨S', g1, g2, g3, g4, g5⟩ := ih S1 (by omega) (by rw [eS1, qIIs])
    refine ⟨S', ?_, g2, fun k => ?_, fun j k h1 h2 => ?_, g5.trans (by rw [eS1]; rfl)⟩
    · rw [show m + 1 + 1 + r = (m + 1 + r) + 1 by omega]
      unfold f_Ta_put_3
      rw [e1, if_neg (n_neg (by omega)), h, if_neg (n_neg (by omega)), if_neg (show ¬ (400 : Int32) ≤ nI (T + (4 - (m + 1))) from fun h => absurd ((n_le (a := 400) (by omega) (by omega)).mp h) (by omega)), n_gd (by omega) (by omega), q_cl (by omega), e2]
      have e4 : ((v >>> (nI (8 * m) &&& 31)).toInt8.toInt32).toInt8.toInt32 = fbt v (3 - m) := by
        unfold fbt
        rw [show 24 - 8 * (3 - m) = 8 * m by omega]
      rw [e4]
      have e5 : zI (zwI S 45 (T + (4 - (m + 1))) (fbt v (3 - m))) 44 1 = nI (T + (4 - (m + 1))) := by rw [qIIo _ _ (by omega)]; exact h
      rw [e5, n_1, e3, ← eS1]
      exact g1
    · rw [g3, eS1, qIIo _ _ (by omega), qII]
      by_cases c : T + (4 - m) ≤ k ∧ k < T + 4
      · rw [if_pos c, if_pos (by omega)]
      · rw [if_neg c]
        by_cases c2 : k = T + (4 - (m + 1))
        · rw [if_pos ⟨rfl, c2⟩, if_pos (by omega), show 3 - m = k - T by omega]
        · rw [if_neg (fun h => c2 h.2), if_neg (by omega)]
    · rw [g4 j k h1 h2, eS1, qIIo _ _ (by omega), qIIo _ _ (by omega)]
def fvl (a1 a2 a3 a4 a5 : Int32) (q : Nat) : Int32 := if q = 0 then a1 else if q = 1 then a2 else if q = 2 then a3 else if q = 3 then a4 else a5
/-- behind q numbers -/
def fdI (S : zSt) (T : Nat) (f : Nat → Int32) (q : Nat) (S' : zSt) : Prop := zI S' 44 1 = nI (T + 4 * q) ∧ (∀ k, zI S' 45 k = if T ≤ k ∧ k < T + 4 * q then fbt (f ((k - T) / 4)) ((k - T) % 4) else zI S 45 k) ∧ (∀ j k, j ≠ 45 → ¬ (j = 44 ∧ k = 1) → zI S' j k = zI S j k) ∧ S'.2 = S.2
theorem put_ok (fu : Nat) (hfu : 100 ≤ fu) {S S1 : zSt} {T q : Nat} {f : Nat → Int32} (hq : T + 4 * (q + 1) ≤ 400) (h : fdI S T f q S1) : ∃ S2, f_Ta_put fu (f q) S1 = some S2 ∧ fdI S T f (q + 1) S2 := by
  obtain ⟨h1, h2, h3, h4⟩ := h
  obtain ⟨S2, g1, g2, g3, g4, g5⟩ := put_3 fu (f q) (T := T + 4 * q) (by omega) (fu - 5) 4 S1 (by omega) h1
  refine ⟨S2, ?_, g2, fun k => ?_, fun j k a b => (g4 j k a b).trans (h3 j k a b), g5.trans h4⟩
  · unfold f_Ta_put
    rw [show 4 + 1 + (fu - 5) = fu by omega] at g1
    exact g1
  · rw [g3, h2]
    by_cases c : T + 4 * q + (4 - 4) ≤ k ∧ k < T + 4 * q + 4
    · rw [if_pos c, if_pos (by omega), show (k - T) / 4 = q by omega, show (k - T) % 4 = k - (T + 4 * q) by omega]
    · rw [if_neg c]
      by_cases c2 : T ≤ k ∧ k < T + 4 * q
      · rw [if_pos c2, if_pos (by omega)]
      · rw [if_neg c2, if_neg (by omega)]
theorem fd_ar : ∀ i, i < 20 → nI i / 4 = nI (i / 4) ∧ 24 - (8 * (nI i - nI i / 4 * 4)) = nI (24 - 8 * (i % 4)) ∧ i / 4 < 5 := by decide +kernel
theorem m_feed_loop (fu : Nat) {T : Nat} (hT : T + 20 ≤ 400) (f : Nat → Int32) : ∀ (m i : Nat) (S : zSt), i ≤ 20 → 20 < m + i → zI S 72 13 = nI T → (∀ q, q < 5 → zI S 80 q = f q) → ∃ S', f_M_feed_55 fu m (nI i) S = some (nI (T + 20), zwI S' 72 13 (nI (T + 20))) ∧ (∀ k, zI S' 79 k = if T + i ≤ k ∧ k < T + 20 then fbt (f ((k - T) / 4)) ((k - T) % 4) else zI S 79 k) ∧ (∀ j, j ≠ 79 → zI S' j = zI S j) ∧ S'.2 = S.2 := by
  intro m
  induction m with
  | zero => intro i S h1 h2; omega
  | succ m ih =>
    intro i S h1 h2 h3 h4
    unfold f_M_feed_55
    by_cases hi : i = 20
    · refine ⟨S, ?_, fun k => by rw [if_neg (by omega)], fun _ _ => rfl, rfl⟩
      rw [if_pos (by rw [hi]; decide)]
      unfold f_M_feed_101
      rw [h3, show (20 : Int32) = nI 20 from rfl, n_add, qIIs]
    · obtain ⟨a1, a2, a3⟩ := fd_ar i (by omega)
      rw [if_neg (show ¬ (20 : Int32) ≤ nI i from fun h => absurd ((n_le (a := 20) (by omega) (by omega)).mp h) (by omega)), a1] at *
      rw [a2, n_gd (by omega) a3, h3, n_add, n_gd (by omega) (by omega), q_cl (by omega), q_cl (by omega), h4 _ a3, n_1]
      have e4 : ((f (i / 4) >>> (nI (24 - 8 * (i % 4)) &&& 31)).toInt8.toInt32).toInt8.toInt32 = fbt (f (i / 4)) (i % 4) := rfl
      rw [e4]
      obtain ⟨S', g1, g2, g3, g4⟩ := ih (i + 1) (zwI S 79 (T + i) (fbt (f (i / 4)) (i % 4))) (by omega) (by omega) (by rw [qIIo _ _ (by omega)]; exact h3) (fun q hq => by rw [qIIo _ _ (by omega)]; exact h4 q hq)
      refine ⟨S', g1, fun k => ?_, fun j hj => (g3 j hj).trans (by funext k; exact qIIo _ _ (by omega)), g4⟩
      rw [g2, qII]
      by_cases c : T + (i + 1) ≤ k ∧ k < T + 20
      · rw [if_pos c, if_pos (by omega)]
      · rw [if_neg c]
        by_cases c2 : k = T + i
        · rw [if_pos ⟨rfl, c2⟩, if_pos (by omega), show k - T = i by omega]
        · rw [if_neg (fun h => c2 h.2), if_neg (by omega)]
theorem call_feed (fu : Nat) (hfu : 1000 ≤ fu) {S : zSt} (h : Inv S) (a1 a2 a3 a4 a5 : Int32) : cOk (f_E_feed fu a1 a2 a3 a4 a5) (f_M_feed fu a1 a2 a3 a4 a5) S := by
  obtain ⟨P, es, hP, hc, hm, hj, hi, ht, hms, hd, hs⟩ := id h
  obtain ⟨T, t1, t2, t3, t4⟩ := ht
  have e20 : nI T + 20 = nI (T + 20) := n_add T 20
  by_cases hl : T + 20 ≤ 400
  · have c1 : nI (T + 20) ≤ 400 := (n_le (b := 400) (by omega) (by omega)).mpr hl
    have i0 : fdI S T (fvl a1 a2 a3 a4 a5) 0 S := ⟨t2, fun k => by rw [if_neg (by omega)], fun _ _ _ _ => rfl, rfl⟩
    obtain ⟨S1, e1, i1⟩ := put_ok fu (by omega) (by omega) i0
    obtain ⟨S2, e2, i2⟩ := put_ok fu (by omega) (by omega) i1
    obtain ⟨S3, e3, i3⟩ := put_ok fu (by omega) (by omega) i2
    obtain ⟨S4, e4, i4⟩ := put_ok fu (by omega) (by omega) i3
    obtain ⟨S5, e5, i5⟩ := put_ok fu (by omega) (by omega) i4
    obtain ⟨k1, k2, k3, k4⟩ := i5
    obtain ⟨S6, eS6⟩ : ∃ S6, S6 = zwI (zwI (zwI (zwI (zwI S5 80 0 a1) 80 1 a2) 80 2 a3) 80 3 a4) 80 4 a5 := ⟨_, rfl⟩
    have K6 : ∀ j, j ≠ 80 → zI S6 j = zI S5 j := fun j hj => by funext k; rw [eS6, qIIo _ _ (by omega), qIIo _ _ (by omega), qIIo _ _ (by omega), qIIo _ _ (by omega), qIIo _ _ (by omega)]
    obtain ⟨S7, g1, g2, g3, g4⟩ := m_feed_loop fu hl (fvl a1 a2 a3 a4 a5) fu 0 S6 (by omega) (by omega) (by rw [K6 72 (by omega), k3 72 13 (by omega) (by omega)]; exact t3) (fun q hq => by
      rw [eS6]
      rcases (by omega : q = 0 ∨ q = 1 ∨ q = 2 ∨ q = 3 ∨ q = 4) with rfl | rfl | rfl | rfl | rfl <;> rfl)
    refine ⟨nI (T + 20), S5, zwI S7 72 13 (nI (T + 20)), ?_, ?_, ?_, ?_⟩
    · unfold f_E_feed
      rw [t2, e20, if_pos c1, qb1 (show f_Ta_put fu a1 S = some S1 from e1), qb1 (show f_Ta_put fu a2 S1 = some S2 from e2), qb1 (show f_Ta_put fu a3 S2 = some S3 from e3), qb1 (show f_Ta_put fu a4 S3 = some S4 from e4), qb1 (show f_Ta_put fu a5 S4 = some S5 from e5), k1]
    · unfold f_M_feed
      rw [k3 72 13 (by omega) (by omega), t3, e20, if_pos c1]
      rw [eS6] at g1
      exact g1
    · have F : ∀ j k, j ≠ 45 → j ≠ 79 → j ≠ 80 → ¬ (j = 44 ∧ k = 1) → ¬ (j = 72 ∧ k = 13) → zI (zwI S7 72 13 (nI (T + 20))) j k = zI S j k := fun j k h1 h2 h3 h4 h5 => by
        rw [qIIo _ _ (by omega), g3 j h2, K6 j h3, k3 j k h1 h4]
      have F2 : (zwI S7 72 13 (nI (T + 20))).2 = S.2 := by
        show S7.2 = S.2
        rw [g4, eS6]
        exact k4
      refine Inv_tape h ⟨by rw [show (zwI S7 72 13 (nI (T + 20))).2.2 = S.2.2 from congrArg (·.2) F2], fun j hj => ?_, F 72 49 (by omega) (by omega) (by omega) (by omega) (by omega), fun k hk => F 54 k (by omega) (by omega) (by omega) (by omega) (by omega), fun k hk => F 69 k (by omega) (by omega) (by omega) (by omega) (by omega), fun j _ => ?_⟩ (fun j hj => ?_) (fun k hk => F 72 k (by omega) (by omega) (by omega) (by omega) (by omega)) ?_ ⟨T + 20, hl, ?_, qIIs _ _ _ _, fun k hk => ?_⟩
      · funext k; exact F j k (by omega) (by omega) (by omega) (by omega) (by omega)
      · show (zwI S7 72 13 (nI (T + 20))).2.1 j = S.2.1 j
        rw [F2]
      · funext k; exact F j k (by omega) (by omega) (by omega) (by omega) (by omega)
      · exact congrArg (·.1) F2
      · rw [qIIo _ _ (by omega), g3 44 (by omega), K6 44 (by omega), k1]
      · have e45 : zI (zwI S7 72 13 (nI (T + 20))) 45 k = if T ≤ k ∧ k < T + 20 then fbt (fvl a1 a2 a3 a4 a5 ((k - T) / 4)) ((k - T) % 4) else zI S 45 k := by
          rw [qIIo _ _ (by omega), g3 45 (by omega), K6 45 (by omega)]
          exact k2 k
        have e79 : zI (zwI S7 72 13 (nI (T + 20))) 79 k = if T ≤ k ∧ k < T + 20 then fbt (fvl a1 a2 a3 a4 a5 ((k - T) / 4)) ((k - T) % 4) else zI S 79 k := by
          rw [qIIo _ _ (by omega), g2 k, K6 79 (by omega), k3 79 k (by omega) (by omega)]
          rfl
        rw [e45, e79]
        by_cases c : T ≤ k ∧ k < T + 20
        · rw [if_pos c, if_pos c]; exact ⟨rfl, fbt_rg _ _⟩
        · rw [if_neg c, if_neg c]; exact t4 k (by omega)
    · have F2 : (zwI S7 72 13 (nI (T + 20))).2.2 = S.2.2 := by
        show S7.2.2 = S.2.2
        rw [g4, eS6]
        exact congrArg (·.2) k4
      have : zN (zwI S7 72 13 (nI (T + 20))) = zN S := by unfold zN; rw [F2]
      rw [this]
      omega
  · have c1 : ¬ nI (T + 20) ≤ 400 := fun h => hl ((n_le (b := 400) (by omega) (by omega)).mp h)
    refine cOk_0 h (v := -1) ?_ ?_
    · unfold f_E_feed
      rw [t2, e20, if_neg c1]
    · unfold f_M_feed
      rw [t3, e20, if_neg c1]

/-! few: chances, string by string -/
def crP (p : Int32) : Nat → Nat → Int64
  | 0, j => if j = 0 then 1000000000000 else 0
  | t + 1, j => (crP p t j * (10 - p).toInt64) / 10 + (if j = 0 then 0 else (crP p t (j - 1) * p.toInt64) / 10)
theorem c_pull_16 (fu : Nat) {p : Int32} {t : Nat} : ∀ (m n : Nat) (S : zSt), m ≤ 20 → m + 1 ≤ n → (∀ j, j < 20 → zL S 70 j = if m ≤ j then crP p (t + 1) j else crP p t j) → ∃ S1, f_E_pullString_16 fu n p (nI m - 1) S = some S1 ∧ S1.1 = S.1 ∧ S1.2.2 = S.2.2 ∧ (∀ i k, i ≠ 70 → zL S1 i k = zL S i k) ∧ ∀ j, j < 20 → zL S1 70 j = crP p (t + 1) j := by
  intro m
  induction m with
  | zero =>
    intro n S h1 h2 h3
    obtain ⟨n', rfl⟩ : ∃ n', n = n' + 1 := ⟨n - 1, by omega⟩
    refine ⟨S, ?_, rfl, rfl, fun _ _ _ => rfl, fun j hj => by rw [h3 j hj, if_pos (by omega)]⟩
    unfold f_E_pullString_16
    rw [if_pos (show nI 0 - 1 < 0 by decide)]
  | succ m ih =>
    intro n S h1 h2 h3
    obtain ⟨n', rfl⟩ : ∃ n', n = n' + 1 := ⟨n - 1, by omega⟩
    have hm : zL S 70 m = crP p t m := by rw [h3 m (by omega), if_neg (by omega)]
    obtain ⟨S1, g1, g2, g3, g4, g5⟩ := ih n' (zwL S 70 m (crP p (t + 1) m)) (by omega) (by omega) (fun j hj => by
      rw [qLL]
      by_cases e : j = m
      · rw [if_pos ⟨rfl, e⟩, if_pos (by omega), e]
      · rw [if_neg (fun h => e h.2), h3 j hj]
        by_cases e2 : m + 1 ≤ j
        · rw [if_pos e2, if_pos (by omega)]
        · rw [if_neg e2, if_neg (by omega)])
    refine ⟨S1, ?_, g2, g3, fun i k hi => by rw [g4 i k hi, qLL, if_neg (fun h => hi h.1)], g5⟩
    rw [← g1]
    obtain ⟨K, eK⟩ : ∃ K, K = f_E_pullString_16 fu n' := ⟨_, rfl⟩
    rw [← eK]
    unfold f_E_pullString_16
    rw [show nI (m + 1) - 1 = nI m from n_sub (b := 1) (by omega), if_neg (n_neg (by omega)), ← eK]
    have es : crP p (t + 1) m = (crP p t m * (10 - p).toInt64) / 10 + (if m = 0 then 0 else (crP p t (m - 1) * p.toInt64) / 10) := rfl
    have e43 : ∀ k0 : Int64, f_E_pullString_43 fu K p (nI m) k0 S = K p (nI m - 1) (zwL S 70 m ((crP p t m * (10 - p).toInt64) / 10 + k0)) := fun k0 => by
      unfold f_E_pullString_43
      rw [n_gd (by omega) (by omega), n_gd (by omega) (by omega), q_cl (by omega), hm, show nI m + (-1) = nI m - 1 from (Int32.sub_eq_add_neg _ _).symm]
    by_cases c : m = 0
    · rw [if_pos (show nI m ≤ 0 by rw [c]; decide), e43, es, if_pos c]
    · rw [if_neg (show ¬ nI m ≤ 0 from fun h => absurd ((n_le (b := 0) (by omega) (by omega)).mp h) (by omega)), show nI m - 1 = nI (m - 1) from n_sub (b := 1) (by omega), n_gd (by omega) (by omega), q_cl (by omega), h3 (m - 1) (by omega), if_neg (by omega), e43, es, if_neg c]
      rw [show nI m - 1 = nI (m - 1) from n_sub (b := 1) (by omega)]
def fR (r : Nat) (S S' : zSt) : Prop := S'.1 = S.1 ∧ S'.2.2 = S.2.2 ∧ ∀ i k, i ≠ r → zL S' i k = zL S i k
theorem fR_r (r : Nat) (S : zSt) : fR r S S := ⟨rfl, rfl, fun _ _ _ => rfl⟩
theorem fR_t {r : Nat} {S S' S'' : zSt} (h : fR r S S') (h2 : fR r S' S'') : fR r S S'' := ⟨h2.1.trans h.1, h2.2.1.trans h.2.1, fun i k a => (h2.2.2 i k a).trans (h.2.2 i k a)⟩
theorem fR_w (r : Nat) (S : zSt) (k : Nat) (v : Int64) : fR r S (zwL S r k v) := ⟨rfl, rfl, fun i k' a => by rw [qLL, if_neg (fun h => a h.1)]⟩
theorem fR_co {r : Nat} {S S' : zSt} (h : fR r S S') (hr : scL r) : zCo S S' := ⟨h.2.1, fun j k _ => by unfold zI; rw [h.1], fun j k a => h.2.2 j k (fun e => a (by rw [e]; exact hr))⟩
theorem fillL_6 (fu : Nat) (v : Int64) : ∀ (m i n : Nat) (S : zSt), i + m = 20 → m + 1 ≤ n → zA S 70 = 20 → (∀ j, j < i → zL S 70 j = v) → ∃ S1, f_Ar_fillL_6 fu 70 n v (nI i) (nI 20) S = some S1 ∧ fR 70 S S1 ∧ ∀ j, j < 20 → zL S1 70 j = v := by
  intro m
  induction m with
  | zero =>
    intro i n S h1 h2 hA h3
    obtain ⟨n', rfl⟩ : ∃ n', n = n' + 1 := ⟨n - 1, by omega⟩
    refine ⟨S, ?_, fR_r _ S, fun j hj => h3 j (by omega)⟩
    unfold f_Ar_fillL_6
    rw [if_pos ((n_le (by omega) (by omega)).mpr (by omega))]
  | succ m ih =>
    intro i n S h1 h2 hA h3
    obtain ⟨n', rfl⟩ : ∃ n', n = n' + 1 := ⟨n - 1, by omega⟩
    obtain ⟨S1, g1, g2, g3⟩ := ih (i + 1) n' (zwL S 70 i v) (by omega) (by omega) hA (fun j hj => by
      rw [qLL]
      by_cases e : j = i
      · rw [if_pos ⟨rfl, e⟩]
      · rw [if_neg (fun h => e h.2)]; exact h3 j (by omega))
    refine ⟨S1, ?_, fR_t (fR_w _ _ _ _) g2, g3⟩
    rw [← g1]
    obtain ⟨K, eK⟩ : ∃ K, K = f_Ar_fillL_6 fu 70 n' := ⟨_, rfl⟩
    rw [← eK]
    unfold f_Ar_fillL_6
    rw [if_neg (fun h => absurd ((n_le (by omega) (by omega)).mp h) (by omega)), hA, n_gd (by omega) (by omega), q_cl (by omega), n_1, ← eK]
/-- the sum over the first words -/
def sm64 (f : Nat → Int64) : Nat → Int64
  | 0 => 0
  | n + 1 => sm64 f n + f n
theorem c_few_64 (fu : Nat) {S : zSt} {f : Nat → Int64} (hf : ∀ j, j < 20 → zL S 70 j = f j) {w : Nat} (hw : w ≤ 20) : ∀ (m i n : Nat), i + m = w → m + 1 ≤ n → f_E_few_64 fu n (nI w) (sm64 f i) (nI i) S = some (sm64 f w, S) := by
  intro m
  induction m with
  | zero =>
    intro i n h1 h2
    obtain ⟨n', rfl⟩ : ∃ n', n = n' + 1 := ⟨n - 1, by omega⟩
    unfold f_E_few_64
    rw [if_pos ((n_le (by omega) (by omega)).mpr (by omega)), show i = w by omega]
  | succ m ih =>
    intro i n h1 h2
    obtain ⟨n', rfl⟩ : ∃ n', n = n' + 1 := ⟨n - 1, by omega⟩
    rw [← ih (i + 1) n' (by omega) (by omega)]
    obtain ⟨K, eK⟩ : ∃ K, K = f_E_few_64 fu n' := ⟨_, rfl⟩
    rw [← eK]
    unfold f_E_few_64
    rw [if_neg (fun h => absurd ((n_le (by omega) (by omega)).mp h) (by omega)), if_neg (show ¬ (20 : Int32) ≤ nI i from fun h => absurd ((n_le (a := 20) (by omega) (by omega)).mp h) (by omega)), n_gd (by omega) (by omega), q_cl (by omega), hf i (by omega), n_1, ← eK]
    rfl
theorem c_few_44 (fu : Nat) (hfu : 1000 ≤ fu) {p : Int32} {w : Nat} (hw : w ≤ 20) {N : Nat} (hN : N ≤ 99) : ∀ (m t n : Nat) (S : zSt), t + m = N → m + 1 ≤ n → zI S 1 7 = p → (∀ j, j < 20 → zL S 70 j = crP p t j) → ∃ S1, f_E_few_44 fu n (nI w) (nI N) (nI t) S = some (sm64 (crP p N) w, S1) ∧ fR 70 S S1 := by
  intro m
  induction m with
  | zero =>
    intro t n S h1 h2 h7 h3
    obtain ⟨n', rfl⟩ : ∃ n', n = n' + 1 := ⟨n - 1, by omega⟩
    have ht : t = N := by omega
    refine ⟨S, ?_, fR_r _ S⟩
    unfold f_E_few_44
    rw [if_pos ((n_le (by omega) (by omega)).mpr (by omega))]
    exact c_few_64 fu (f := crP p N) (fun j hj => by rw [← ht]; exact h3 j hj) hw w 0 fu (by omega) (by omega)
  | succ m ih =>
    intro t n S h1 h2 h7 h3
    obtain ⟨n', rfl⟩ : ∃ n', n = n' + 1 := ⟨n - 1, by omega⟩
    obtain ⟨S1, g1, g2, g3, g4, g5⟩ := c_pull_16 fu (p := p) (t := t) 20 fu S (by omega) (by omega) (fun j hj => by rw [if_neg (by omega)]; exact h3 j hj)
    have r1 : fR 70 S S1 := ⟨g2, g3, g4⟩
    obtain ⟨S2, k1, k2⟩ := ih (t + 1) n' S1 (by omega) (by omega) (by unfold zI; rw [g2]; exact h7) g5
    refine ⟨S2, ?_, fR_t r1 k2⟩
    rw [← k1]
    obtain ⟨K, eK⟩ : ∃ K, K = f_E_few_44 fu n' := ⟨_, rfl⟩
    rw [← eK]
    have ep : f_E_pullString fu S = some S1 := by
      unfold f_E_pullString
      rw [h7]
      exact g1
    unfold f_E_few_44
    rw [if_neg (fun h => absurd ((n_le (by omega) (by omega)).mp h) (by omega)), qb1 ep, n_1, ← eK]
/-! the reference -/
theorem m_few_67 (fu : Nat) {p : Int32} {t w : Nat} (hw1 : 1 ≤ w) (hw : w ≤ 20) (k57 : Int32 → Int32 → Int32 → zSt → Option (Int64 × zSt)) (a2 a3 : Int32) : ∀ (m n : Nat) (S : zSt), m ≤ w → m + 1 ≤ n → zI S 74 194 = p → (∀ j, j < w → zL S 95 j = if j < m then crP p t j else if j = m then (crP p t j * (10 - p).toInt64) / 10 else crP p (t + 1) j) → ∃ S1, f_M_few_67 fu k57 n (nI w) a2 a3 (nI m - 1) S = k57 (nI w) a2 (a3 + 1) S1 ∧ fR 95 S S1 ∧ ∀ j, j < w → zL S1 95 j = crP p (t + 1) j := by
  intro m
  induction m with
  | zero =>
    intro n S h1 h2 h7 h3
    obtain ⟨n', rfl⟩ : ∃ n', n = n' + 1 := ⟨n - 1, by omega⟩
    refine ⟨S, ?_, fR_r _ S, fun j hj => ?_⟩
    · unfold f_M_few_67
      rw [if_pos (show nI 0 - 1 < 0 by decide)]
    · rw [h3 j hj, if_neg (by omega)]
      by_cases e : j = 0
      · rw [if_pos e, e]
        show _ = (crP p t 0 * (10 - p).toInt64) / 10 + 0
        rw [Int64.add_zero]
      · rw [if_neg e]
  | succ m ih =>
    intro n S h1 h2 h7 h3
    obtain ⟨n', rfl⟩ : ∃ n', n = n' + 1 := ⟨n - 1, by omega⟩
    obtain ⟨S0, eS0⟩ : ∃ S0, S0 = zwL S 95 (m + 1) (zL S 95 (m + 1) + (zL S 95 m * p.toInt64) / 10) := ⟨_, rfl⟩
    have hm : zL S 95 m = crP p t m := by rw [h3 m (by omega), if_pos (by omega)]
    have hm0 : zL S0 95 m = crP p t m := by rw [eS0, qLL, if_neg (by omega)]; exact hm
    have h70 : zI S0 74 194 = p := by rw [eS0]; exact h7
    obtain ⟨S1, g1, g2, g3⟩ := ih n' (zwL S0 95 m ((zL S0 95 m * (10 - p).toInt64) / 10)) (by omega) (by omega) h70 (fun j hj => by
      rw [qLL]
      by_cases e : j = m
      · rw [if_pos ⟨rfl, e⟩, if_neg (by omega), if_pos e, hm0, e]
      · rw [if_neg (fun h => e h.2), eS0, qLL]
        by_cases e1 : j = m + 1
        · rw [if_pos ⟨rfl, e1⟩, if_neg (by omega), if_neg e, hm, ← e1, h3 j hj, if_neg (by omega), if_pos e1]
          show _ = (crP p t j * (10 - p).toInt64) / 10 + (if j = 0 then 0 else (crP p t (j - 1) * p.toInt64) / 10)
          rw [if_neg (by omega), show j - 1 = m by omega]
        · rw [if_neg (fun h => e1 h.2), h3 j hj]
          by_cases e2 : j < m
          · rw [if_pos (by omega), if_pos e2]
          · rw [if_neg (by omega), if_neg (by omega), if_neg e2, if_neg e])
    refine ⟨S1, ?_, ?_, g3⟩
    · rw [← g1]
      obtain ⟨K, eK⟩ : ∃ K, K = f_M_few_67 fu k57 n' := ⟨_, rfl⟩
      rw [← eK]
      unfold f_M_few_67
      rw [show nI (m + 1) - 1 = nI m from n_sub (b := 1) (by omega), if_neg (n_neg (by omega)), n_1, n_gd (by omega) (by omega), n_gd (by omega) (by omega), n_gd (by omega) (by omega), n_gd (by omega) (by omega), n_gd (by omega) (by omega), q_cl (by omega), q_cl (by omega), show (194 : Int32).toNatClampNeg = 194 from rfl, h7, ← eS0, h70, show nI m + (-1) = nI m - 1 from (Int32.sub_eq_add_neg _ _).symm, ← eK]
    · rw [eS0] at g2
      exact fR_t (fR_w _ _ _ _) (fR_t (fR_w _ _ _ _) g2)
theorem m_few_153 (fu : Nat) {S : zSt} {f : Nat → Int64} {w : Nat} (hw : w ≤ 20) (hf : ∀ j, j < w → zL S 95 j = f j) : ∀ (m i n : Nat), i + m = w → m + 1 ≤ n → f_M_few_153 fu n (nI w) (sm64 f i) (nI i) S = some (sm64 f w, S) := by
  intro m
  induction m with
  | zero =>
    intro i n h1 h2
    obtain ⟨n', rfl⟩ : ∃ n', n = n' + 1 := ⟨n - 1, by omega⟩
    unfold f_M_few_153
    rw [if_pos ((n_le (by omega) (by omega)).mpr (by omega)), show i = w by omega]
  | succ m ih =>
    intro i n h1 h2
    obtain ⟨n', rfl⟩ : ∃ n', n = n' + 1 := ⟨n - 1, by omega⟩
    rw [← ih (i + 1) n' (by omega) (by omega)]
    obtain ⟨K, eK⟩ : ∃ K, K = f_M_few_153 fu n' := ⟨_, rfl⟩
    rw [← eK]
    unfold f_M_few_153
    rw [if_neg (fun h => absurd ((n_le (by omega) (by omega)).mp h) (by omega)), n_gd (by omega) (by omega), q_cl (by omega), hf i (by omega), n_1, ← eK]
    rfl
theorem m_few_57 (fu : Nat) (hfu : 1000 ≤ fu) {p : Int32} {w : Nat} (hw1 : 1 ≤ w) (hw : w ≤ 20) {N : Nat} (hN : N ≤ 99) : ∀ (m t n : Nat) (S : zSt), t + m = N → m + 1 ≤ n → zI S 74 194 = p → (∀ j, j < w → zL S 95 j = crP p t j) → ∃ S1, f_M_few_57 fu n (nI w) (nI N) (nI t) S = some (sm64 (crP p N) w, S1) ∧ fR 95 S S1 := by
  intro m
  induction m with
  | zero =>
    intro t n S h1 h2 h7 h3
    obtain ⟨n', rfl⟩ : ∃ n', n = n' + 1 := ⟨n - 1, by omega⟩
    have ht : t = N := by omega
    refine ⟨S, ?_, fR_r _ S⟩
    unfold f_M_few_57
    rw [if_pos ((n_le (by omega) (by omega)).mpr (by omega))]
    exact m_few_153 fu (f := crP p N) hw (fun j hj => by rw [← ht]; exact h3 j hj) w 0 fu (by omega) (by omega)
  | succ m ih =>
    intro t n S h1 h2 h7 h3
    obtain ⟨n', rfl⟩ : ∃ n', n = n' + 1 := ⟨n - 1, by omega⟩
    obtain ⟨S1, g1, g2, g3⟩ := m_few_67 fu (p := p) (t := t) hw1 hw (f_M_few_57 fu n') (nI N) (nI t) w fu S (by omega) (by omega) h7 (fun j hj => by rw [if_pos hj]; exact h3 j hj)
    obtain ⟨S2, k1, k2⟩ := ih (t + 1) n' S1 (by omega) (by omega) (by unfold zI; rw [g2.1]; exact h7) g3
    refine ⟨S2, ?_, fR_t g2 k2⟩
    rw [← k1, ← n_1]
    refine Eq.trans ?_ g1
    rw [show f_M_few_57 fu (n' + 1) (nI w) (nI N) (nI t) S = if nI N ≤ nI t then f_M_few_148 fu (nI w) S else f_M_few_67 fu (f_M_few_57 fu n') fu (nI w) (nI N) (nI t) (nI w - 1) S from rfl, if_neg (fun h => absurd ((n_le (by omega) (by omega)).mp h) (by omega))]
theorem m_few_26 (fu : Nat) (a1 a2 : Int32) : ∀ (m i n : Nat) (S : zSt), i + m = 21 → m + 1 ≤ n → (∀ j, j < i → zL S 95 j = if j = 0 then 1000000000000 else 0) → ∃ S1, f_M_few_26 fu n a1 a2 (nI i) S = f_M_few_57 fu fu a1 a2 0 S1 ∧ fR 95 S S1 ∧ ∀ j, j < 21 → zL S1 95 j = if j = 0 then 1000000000000 else 0 := by
  intro m
  induction m with
  | zero =>
    intro i n S h1 h2 h3
    obtain ⟨n', rfl⟩ : ∃ n', n = n' + 1 := ⟨n - 1, by omega⟩
    refine ⟨S, ?_, fR_r _ S, fun j hj => h3 j (by omega)⟩
    unfold f_M_few_26
    rw [if_pos (show (20 : Int32) < nI i from (n_lt (a := 20) (by omega) (by omega)).mpr (by omega))]
  | succ m ih =>
    intro i n S h1 h2 h3
    obtain ⟨n', rfl⟩ : ∃ n', n = n' + 1 := ⟨n - 1, by omega⟩
    obtain ⟨S1, g1, g2, g3⟩ := ih (i + 1) n' (zwL S 95 i (if i = 0 then 1000000000000 else 0)) (by omega) (by omega) (fun j hj => by
      rw [qLL]
      by_cases e : j = i
      · rw [if_pos ⟨rfl, e⟩, e]
      · rw [if_neg (fun h => e h.2)]; exact h3 j (by omega))
    refine ⟨S1, ?_, fR_t (fR_w _ _ _ _) g2, g3⟩
    rw [← g1]
    obtain ⟨K, eK⟩ : ∃ K, K = f_M_few_26 fu n' := ⟨_, rfl⟩
    rw [← eK]
    unfold f_M_few_26
    rw [if_neg (show ¬ (20 : Int32) < nI i from fun h => absurd ((n_lt (a := 20) (by omega) (by omega)).mp h) (by omega)), n_gd (by omega) (by omega), n_gd (by omega) (by omega), q_cl (by omega), n_1, ← eK]
    by_cases e : i = 0
    · rw [if_pos (show nI i = 0 by rw [e]; rfl), if_pos e]
    · rw [if_neg (show ¬ nI i = 0 from fun h => e ((n_eq (b := 0) (by omega) (by omega)).mp h)), if_neg e]
theorem call_few (fu : Nat) (hfu : 1000 ≤ fu) {S : zSt} (h : Inv S) (a b : Int32) : cOk (f_E_few fu a b) (f_M_few fu a b) S := by
  obtain ⟨P, es, hP, hc, hm, hj, hi, ht, hms, hd, hs⟩ := id h
  rcases rng_or a 1 20 with ⟨w, hw1, hw, rfl⟩ | ha
  · have l1 : f_M_lies (nI w) 1 20 = some 1 := lies_yes (lo := 1) (hi := 20) hw1 hw (by omega)
    have d1 : ¬ nI w < 1 := fun h => absurd ((n_lt (b := 1) (by omega) (by omega)).mp h) (by omega)
    have d2 : ¬ 20 < nI w := fun h => absurd ((n_lt (a := 20) (by omega) (by omega)).mp h) (by omega)
    rcases rng_or b 0 99 with ⟨N, -, hN, rfl⟩ | hb
    · have l2 : f_M_lies (nI N) 0 99 = some 1 := lies_yes (lo := 0) (hi := 99) (by omega) hN (by omega)
      have hA : zA S 70 = 20 := (hs.2.2.1.2.2 0 (by have := hs.2.2.1.1; have e : zN0 = 98 := rfl; omega) (by decide) 14 70 20 rfl).2.2 (by decide)
      obtain ⟨S1, e1, r1, z1⟩ := fillL_6 fu 0 20 0 fu S (by omega) (by omega) hA (fun j hj => absurd hj (by omega))
      have e7 : zI S 1 7 = nI (pSlips P) := hc.2.2.2.2.2.2.2.2.1
      obtain ⟨S2, e2, r2⟩ := c_few_44 fu hfu (p := nI (pSlips P)) hw hN N 0 fu (zwL S1 70 0 1000000000000) (by omega) (by omega) (by show zI S1 1 7 = _; unfold zI; rw [r1.1]; exact e7) (fun j hj => by
        rw [qLL]
        by_cases e : j = 0
        · rw [if_pos ⟨rfl, e⟩, e]; rfl
        · rw [if_neg (fun h => e h.2), z1 j hj]
          show 0 = if j = 0 then 1000000000000 else 0
          rw [if_neg e])
      have c2 : zCo S S2 := fR_co (fR_t r1 (fR_t (fR_w _ _ _ _) r2)) (Or.inr (Or.inl rfl))
      have hm2 := mRep_co hm c2 (Or.inl rfl) hP
      obtain ⟨S3, e3, r3, z3⟩ := m_few_26 fu (nI w) (nI N) 21 0 fu S2 (by omega) (by omega) (fun j hj => absurd hj (by omega))
      have e74 : zI S2 74 194 = nI (pSlips P) := by
        have := hm2.2.2.2.2.2.2.2.1
        rw [Nat.zero_add] at this
        exact this
      obtain ⟨S4, e4, r4⟩ := m_few_57 fu hfu (p := nI (pSlips P)) hw1 hw hN N 0 fu S3 (by omega) (by omega) (by unfold zI; rw [r3.1]; exact e74) (fun j hj => z3 j (by omega))
      refine cOk_q h (v := sm64 (crP (nI (pSlips P)) N) w) (S1 := S2) ?_ c2 (S2 := S4) ?_ (fR_co (fR_t r3 r4) (Or.inr (Or.inr rfl)))
      · unfold f_E_few
        have ef : f_Ar_fillL fu 70 0 S = some S1 := by
          unfold f_Ar_fillL
          rw [hA]
          exact e1
        rw [if_neg d1, if_neg d2, if_neg (n_neg (by omega)), if_pos (show nI N ≤ 99 from (n_le (b := 99) (by omega) (by omega)).mpr hN), qb1 ef]
        exact e2
      · unfold f_M_few
        rw [qb1 l1, if_neg (by decide), qb1 l2, if_neg (by decide)]
        exact e3.trans e4
    · refine cOk_0 h (v := -1) ?_ ?_
      · unfold f_E_few
        rw [if_neg d1, if_neg d2]
        rcases rng_no (hi := 99) (by omega) hb with h1 | h1
        · rw [if_pos h1]
        · by_cases h2 : b < 0
          · rw [if_pos h2]
          · rw [if_neg h2, if_neg (show ¬ b ≤ 99 from h1)]
      · have l2 : f_M_lies b 0 99 = some 0 := lies_no (lo := 0) (hi := 99) (by omega) (by omega) hb
        unfold f_M_few
        rw [qb1 l1, if_neg (by decide), qb1 l2, if_pos rfl]
  · refine cOk_0 h (v := -1) ?_ ?_
    · unfold f_E_few
      by_cases h1 : a < 1
      · rw [if_pos h1]
      · by_cases h2 : 20 < a
        · rw [if_neg h1, if_pos h2]
        · rw [q_lt, show (1 : Int32).toInt = 1 from rfl] at h1
          rw [q_lt, show (20 : Int32).toInt = 20 from rfl] at h2
          obtain ⟨m, rfl, hm, hb⟩ := q_ex (a := a) (by omega)
          exact absurd rfl (ha m (by omega) (by omega))
    · have l1 : f_M_lies a 1 20 = some 0 := lies_no (lo := 1) (hi := 20) (by omega) (by omega) ha
      unfold f_M_few
      rw [qb1 l1, if_pos rfl]

/-! the reference splits the bytes into the same tokens -/
theorem kd_is4 (b : Int32) : kd b = 4 ↔ b = 32 := by
  unfold kd kd2
  constructor
  · intro h
    split at h
    · split at h
      · split at h
        · assumption
        · exact absurd h (by decide)
      · split at h
        · split at h
          · assumption
          · exact absurd h (by decide)
        · exact absurd h (by decide)
    · split at h
      · split at h
        · split at h
          · assumption
          · exact absurd h (by decide)
        · split at h
          · split at h
            · assumption
            · exact absurd h (by decide)
          · exact absurd h (by decide)
      · exact absurd h (by decide)
  · intro h
    rw [h]; decide
theorem kd_small (b : Int32) : f_M_isSmall b = some (if kd b = 1 then 1 else 0) := by
  have k : ∀ b, kd2 b ≠ 1 := by
    intro b
    unfold kd2
    split
    · split <;> decide
    · split
      · split <;> decide
      · decide
  unfold f_M_isSmall kd
  split
  · rw [if_neg (k b)]
  · split
    · rw [if_neg (k b)]
    · rw [if_pos rfl]
theorem kd_digit (b : Int32) : f_M_isDigit b = some (if kd b = 2 then 1 else 0) := by
  have e48 : (48 : Int32).toInt = 48 := rfl
  have e57 : (57 : Int32).toInt = 57 := rfl
  have e97 : (97 : Int32).toInt = 97 := rfl
  have e122 : (122 : Int32).toInt = 122 := rfl
  unfold f_M_isDigit
  by_cases h : kd b = 2
  · have := kd_2 h
    rw [if_pos h, if_neg (by rw [q_lt]; omega), if_neg (by rw [q_lt]; omega)]
  · rw [if_neg h]
    by_cases h1 : b < 48
    · rw [if_pos h1]
    · rw [if_neg h1]
      by_cases h2 : 57 < b
      · rw [if_pos h2]
      · exact absurd (by unfold kd; rw [if_pos (by rw [q_lt] at *; omega)]; unfold kd2; rw [if_neg h1, if_neg h2]) h
/-- the reference's tape -/
def zMt (S : zSt) (B : Nat → Int32) (T : Nat) : Prop := (∀ k, k < T → zI S 79 k = B k) ∧ T ≤ 400 ∧ zW8 S
theorem s_43 (fu : Nat) (k7 : Int32 → Int32 → zSt → Option zSt) {S : zSt} {B : Nat → Int32} {T : Nat} (h : zMt S B T) (a2 a3 : Int32) : ∀ n p, p ≤ T → T < n + p → f_M_splits_43 fu k7 n (nI T) a2 a3 (nI p) S = f_M_splits_68 fu k7 (nI T) a2 a3 (nI (sc (isK B T 1) T p)) S := by
  have hT := h.2.1
  intro n
  induction n with
  | zero => intro p h1 h2; omega
  | succ n ih =>
    intro p h1 h2
    rw [f_M_splits_43]
    by_cases hp : p = T
    · rw [if_pos ((n_le (by omega) (by omega)).mpr (by omega)), sc_end (by omega)]
    · have ek : kat B T p = kd (B p) := by unfold kat; rw [if_pos (by omega)]
      rw [if_neg (fun h => absurd ((n_le (by omega) (by omega)).mp h) (by omega)), n_gd (by omega) (by omega), q_cl (by omega), h.1 p (by omega), qb1 (kd_small _)]
      by_cases hk : kd (B p) = 1
      · rw [if_pos hk, if_neg (by decide), n_1, ih (p + 1) (by omega) (by omega), sc_go (p := p) (by omega) (by unfold isK; rw [ek]; simp [hk])]
      · rw [if_neg hk, if_pos rfl, sc_no (by omega) (by unfold isK; rw [ek]; simp [hk])]
theorem s_75 (fu : Nat) (k7 : Int32 → Int32 → zSt → Option zSt) {S : zSt} {B : Nat → Int32} {T : Nat} (h : zMt S B T) (a2 a3 : Int32) : ∀ n p, p ≤ T → T < n + p → f_M_splits_75 fu k7 n (nI T) a2 a3 (nI p) S = f_M_splits_100 fu k7 (nI T) a2 a3 (nI (sc (isK B T 2) T p)) S := by
  have hT := h.2.1
  intro n
  induction n with
  | zero => intro p h1 h2; omega
  | succ n ih =>
    intro p h1 h2
    rw [f_M_splits_75]
    by_cases hp : p = T
    · rw [if_pos ((n_le (by omega) (by omega)).mpr (by omega)), sc_end (by omega)]
    · have ek : kat B T p = kd (B p) := by unfold kat; rw [if_pos (by omega)]
      rw [if_neg (fun h => absurd ((n_le (by omega) (by omega)).mp h) (by omega)), n_gd (by omega) (by omega), q_cl (by omega), h.1 p (by omega), qb1 (kd_digit _)]
      by_cases hk : kd (B p) = 2
      · rw [if_pos hk, if_neg (by decide), n_1, ih (p + 1) (by omega) (by omega), sc_go (p := p) (by omega) (by unfold isK; rw [ek]; simp [hk])]
      · rw [if_neg hk, if_pos rfl, sc_no (by omega) (by unfold isK; rw [ek]; simp [hk])]
theorem s_7b (fu : Nat) {S : zSt} {B : Nat → Int32} {T : Nat} (h : zMt S B T) : ∀ n p, p ≤ T → T < n + p → ∃ n', n' + sc (isBl B T) T p = n + p ∧ f_M_splits_7 fu n (nI T) (nI p) S = f_M_splits_7 fu n' (nI T) (nI (sc (isBl B T) T p)) S := by
  have hT := h.2.1
  intro n
  induction n with
  | zero => intro p h1 h2; omega
  | succ n ih =>
    intro p h1 h2
    by_cases hp : p = T
    · exact ⟨n + 1, by rw [sc_end (by omega)], by rw [sc_end (by omega)]⟩
    · have ek : kat B T p = kd (B p) := by unfold kat; rw [if_pos (by omega)]
      by_cases hk : kd (B p) = 4
      · obtain ⟨n', h3, h4⟩ := ih (p + 1) (by omega) (by omega)
        rw [sc_go (p := p) (by omega) (by unfold isBl; rw [ek]; simp [hk])]
        refine ⟨n', by omega, ?_⟩
        rw [← h4, f_M_splits_7, if_neg (fun h => absurd ((n_le (by omega) (by omega)).mp h) (by omega)), n_gd (by omega) (by omega), q_cl (by omega), h.1 p (by omega), if_pos ((kd_is4 _).mp hk), n_1]
      · rw [sc_no (by omega) (by unfold isBl; rw [ek]; simp [hk])]
        exact ⟨n + 1, rfl, rfl⟩
theorem s_7t (fu : Nat) (hfu : 500 ≤ fu) {S : zSt} {B : Nat → Int32} {T q : Nat} (h : zMt S B T) (hq : q < T) (h4 : kat B T q ≠ 4) (n : Nat) : f_M_splits_7 fu (n + 1) (nI T) (nI q) S = f_M_splits_100 fu (f_M_splits_7 fu n) (nI T) (nI q) (B q) (nI (tEnd B T q)) S := by
  have hT := h.2.1
  have ek : kat B T q = kd (B q) := by unfold kat; rw [if_pos hq]
  rw [ek] at h4
  rw [f_M_splits_7, if_neg (fun h => absurd ((n_le (by omega) (by omega)).mp h) (by omega)), n_gd (by omega) (by omega), q_cl (by omega), h.1 q hq, if_neg (fun h => h4 ((kd_is4 _).mpr h)), qb1 (kd_small _)]
  have sg : ∀ t, kd (B q) = t → sc (isK B T t) T (q + 1) = sc (isK B T t) T q := fun t ht => (sc_go hq (by unfold isK; rw [ek]; simp [ht])).symm
  rcases kat_or B T q with h0 | h0 | h0 | h0 | h0
  · unfold kat at h0
    rw [if_pos hq] at h0
    have : ∀ b, kd b ≠ 0 := by
      intro b
      unfold kd kd2
      repeat' split
      all_goals decide
    exact absurd h0 (this _)
  · rw [ek] at h0
    rw [if_pos h0, if_neg (by decide), n_1, s_43 fu _ h _ _ fu (q + 1) (by omega) (by omega), f_M_splits_68, qb1 (kd_digit _), h0, if_pos (by decide), sg 1 h0]
    unfold tEnd
    rw [ek, h0, if_neg (by decide)]
  · rw [ek] at h0
    rw [h0, if_pos (by decide), n_1, f_M_splits_68, qb1 (kd_digit _), h0, if_neg (by decide), s_75 fu _ h _ _ fu (q + 1) (by omega) (by omega), sg 2 h0]
    unfold tEnd
    rw [ek, h0, if_neg (by decide)]
  · rw [ek] at h0
    rw [h0, if_pos (by decide), n_1, f_M_splits_68, qb1 (kd_digit _), h0, if_pos (by decide)]
    unfold tEnd
    rw [ek, h0, if_pos rfl]
  · rw [ek] at h0
    exact absurd h0 h4

/-! law: the call -/
theorem zw_cc (S : zSt) {a b c d : Nat} (v w : Int32) (h : ¬ (a = c ∧ b = d)) : zwI (zwI S a b v) c d w = zwI (zwI S c d w) a b v := by
  have e : (zwI (zwI S a b v) c d w).1 = (zwI (zwI S c d w) a b v).1 := by
    funext j l
    show zI (zwI (zwI S a b v) c d w) j l = zI (zwI (zwI S c d w) a b v) j l
    rw [qII, qII, qII, qII]
    by_cases h1 : j = c ∧ l = d
    · rw [if_pos h1, if_neg (fun h2 => h ⟨by omega, by omega⟩), if_pos h1]
    · rw [if_neg h1, if_neg h1]
  exact Prod.ext e rfl
theorem zUq_FF {S S' : zSt} (h : zFF S S') : zUq S S' := by
  obtain ⟨h1, h2, h3, h4⟩ := h
  refine ⟨by rw [h1], fun j hj => funext fun k => h2 j k (by omega) (by omega) (by omega) (by omega) (by omega) (by omega) (by omega), h2 _ _ (by omega) (by omega) (by omega) (by omega) (by omega) (by omega) (by omega), fun k _ => h2 _ _ (by omega) (by omega) (by omega) (by omega) (by omega) (by omega) (by omega), fun k _ => h2 _ _ (by omega) (by omega) (by omega) (by omega) (by omega) (by omega) (by omega), fun j _ => by unfold zL; rw [h1]⟩
theorem zUq_MG {S S' : zSt} (h : zMG S S') : zUq S S' := by
  obtain ⟨h1, h2⟩ := h
  refine ⟨by rw [h1], fun j hj => funext fun k => h2 j k (by omega) (by omega) (by omega) (by omega), h2 _ _ (by omega) (by omega) (by omega) (by omega), fun k _ => h2 _ _ (by omega) (by omega) (by omega) (by omega), fun k _ => h2 _ _ (by omega) (by omega) (by omega) (by omega), fun j _ => by unfold zL; rw [h1]⟩
theorem tNo_1 {B : Nat → Int32} {T N N' : Nat} (h : tNo B T N) (h' : tNo B T N') : N = N' := by
  rcases Nat.lt_trichotomy N N' with e | e | e
  · have := h'.2 N e; have := h.1; omega
  · exact e
  · have := h.2 N' e; have := h'.1; omega
theorem tV_0 (B : Nat → Int32) (T k : Nat) : 0 ≤ (tV B T k).toInt := by
  unfold tV tNum
  split
  · split
    · rw [q_nI (by omega)]; omega
    · decide
  · decide
def pAdd (P : zP) (cls : List lC) : zP := (P.1, P.2.1, P.2.2.1, P.2.2.2.1, P.2.2.2.2.1, P.2.2.2.2.2.1, P.2.2.2.2.2.2.1, P.2.2.2.2.2.2.2.1 ++ [cls], P.2.2.2.2.2.2.2.2)
theorem pOK_add {P : zP} (hP : pOK P) (cls : List lC) (h : (pLw P).length < 6) : pOK (pAdd P cls) := by
  obtain ⟨p1, p2, p3, p4, p5, p6, p7, p8, p9, p10, p11, p12, p13, p14, p15, p16⟩ := hP
  refine ⟨p1, p2, p3, p4, p5, p6, p7, p8, p9, p10, p11, p12, p13, p14, ?_, fun f hf => ?_⟩
  · show (pLw P ++ [cls]).length ≤ 6
    rw [List.length_append]
    simp only [List.length_cons, List.length_nil]
    omega
  · have := p16 f hf
    show f < (pLw P ++ [cls]).length
    rw [List.length_append]
    omega
/-- a law laid into the reference's row -/
theorem m_lays16 (fu : Nat) {N t : Nat} (hN : N ≤ 400) (ht : t ≤ 6) : ∀ (m k n : Nat) (S : zSt), k + m = N → m + 1 ≤ n → zI S 72 18 = nI N → ∃ S', f_M_lays_16 fu n (nI t) (nI k) S = some S' ∧ S'.2 = S.2 ∧ (∀ j i, j ≠ 74 → zI S' j i = zI S j i) ∧ (∀ i, ¬ (207 + 400 * t + k ≤ i ∧ i < 207 + 400 * t + N) → ¬ (3007 + 400 * t + k ≤ i ∧ i < 3007 + 400 * t + N) → zI S' 74 i = zI S 74 i) ∧ ∀ i, k ≤ i → i < N → zI S' 74 (207 + 400 * t + i) = zI S 81 i ∧ zI S' 74 (3007 + 400 * t + i) = zI S 82 i := by
  intro m
  induction m with
  | zero =>
    intro k n S h1 h2 h18
    obtain ⟨n', rfl⟩ : ∃ n', n = n' + 1 := ⟨n - 1, by omega⟩
    refine ⟨S, ?_, rfl, fun _ _ _ => rfl, fun _ _ _ => rfl, fun i a b => absurd b (by omega)⟩
    unfold f_M_lays_16
    rw [h18, if_pos ((n_le (by omega) (by omega)).mpr (by omega))]
  | succ m ih =>
    intro k n S h1 h2 h18
    obtain ⟨n', rfl⟩ : ∃ n', n = n' + 1 := ⟨n - 1, by omega⟩
    obtain ⟨S1, eS1⟩ : ∃ S1, S1 = zwI (zwI S 74 (207 + 400 * t + k) (zI S 81 k)) 74 (3007 + 400 * t + k) (zI S 82 k) := ⟨_, rfl⟩
    have o1 : ∀ j i, j ≠ 74 → zI S1 j i = zI S j i := fun j i hj => by rw [eS1, qIIo _ _ (by omega), qIIo _ _ (by omega)]
    obtain ⟨S2, g1, g2, g3, g4, g5⟩ := ih (k + 1) n' S1 (by omega) (by omega) (by rw [o1 72 18 (by omega)]; exact h18)
    refine ⟨S2, ?_, by rw [g2, eS1]; rfl, fun j i hj => (g3 j i hj).trans (o1 j i hj), fun i a b => ?_, fun i a b => ?_⟩
    · rw [← g1]
      obtain ⟨K, eK⟩ : ∃ K, K = f_M_lays_16 fu n' := ⟨_, rfl⟩
      rw [← eK]
      have e1 : (207 + (400 * nI t)) + nI k = nI (207 + 400 * t + k) := by
        rw [show (400 : Int32) = nI 400 from rfl, show (207 : Int32) = nI 207 from rfl, n_mul, n_add, n_add]
      have e2 : (3007 + (400 * nI t)) + nI k = nI (3007 + 400 * t + k) := by
        rw [show (400 : Int32) = nI 400 from rfl, show (3007 : Int32) = nI 3007 from rfl, n_mul, n_add, n_add]
      unfold f_M_lays_16
      rw [h18, if_neg (fun h => absurd ((n_le (by omega) (by omega)).mp h) (by omega)), e1, e2, n_gd (by omega) (by omega), n_gd (by omega) (by omega), n_gd (by omega) (by omega), n_gd (by omega) (by omega), q_cl (by omega), q_cl (by omega), q_cl (by omega), qIIo (j := 82) _ _ (by omega), ← eS1, ← eK, n_1]
    · rw [g4 i (by omega) (by omega), eS1, qIIo _ _ (by omega), qIIo _ _ (by omega)]
    · by_cases e : i = k
      · rw [e, g4 _ (by omega) (by omega), g4 _ (by omega) (by omega), eS1, qIIs, qIIo _ _ (by omega), qIIs]
        exact ⟨rfl, rfl⟩
      · obtain ⟨c1, c2⟩ := g5 i (by omega) b
        exact ⟨c1.trans (o1 81 i (by omega)), c2.trans (o1 82 i (by omega))⟩
theorem m_lays (fu : Nat) (hfu : 500 ≤ fu) {N t : Nat} (hN : N ≤ 400) (ht : t ≤ 6) {S : zSt} (h18 : zI S 72 18 = nI N) : ∃ S', f_M_lays fu (nI t) S = some S' ∧ S'.2 = S.2 ∧ (∀ j i, j ≠ 74 → zI S' j i = zI S j i) ∧ (∀ i, i ≠ 200 + t → ¬ (207 + 400 * t ≤ i ∧ i < 207 + 400 * t + N) → ¬ (3007 + 400 * t ≤ i ∧ i < 3007 + 400 * t + N) → zI S' 74 i = zI S 74 i) ∧ zI S' 74 (200 + t) = nI N ∧ ∀ i, i < N → zI S' 74 (207 + 400 * t + i) = zI S 81 i ∧ zI S' 74 (3007 + 400 * t + i) = zI S 82 i := by
  obtain ⟨S1, g1, g2, g3, g4, g5⟩ := m_lays16 fu hN ht N 0 fu (zwI S 74 (200 + t) (nI N)) (by omega) (by omega) (by rw [qIIo _ _ (by omega)]; exact h18)
  refine ⟨S1, ?_, g2, fun j i hj => (g3 j i hj).trans (qIIo _ _ (by omega)), fun i a b c => by rw [g4 i (by omega) (by omega), qIIo _ _ (by omega)], by rw [g4 _ (by omega) (by omega), qIIs], fun i hi => ?_⟩
  · unfold f_M_lays
    rw [show 200 + nI t = nI (200 + t) from n_add 200 t, n_gd (by omega) (by omega), q_cl (by omega), h18]
    exact g1
  · obtain ⟨c1, c2⟩ := g5 i (Nat.zero_le _) hi
    exact ⟨c1.trans (qIIo _ _ (by omega)), c2.trans (qIIo _ _ (by omega))⟩

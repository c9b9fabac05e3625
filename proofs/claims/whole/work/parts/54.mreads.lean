/-! the reference's parser: a text of either language, and what else stays -/
/-- what reading a text leaves alone in the reference -/
def zMG (S S' : zSt) : Prop := S'.2 = S.2 ∧ ∀ j k, j ≠ 81 → j ≠ 82 → j ≠ 83 → ¬ (j = 72 ∧ 8 ≤ k ∧ k ≤ 21) → zI S' j k = zI S j k
theorem zMG_r (S : zSt) : zMG S S := ⟨rfl, fun _ _ _ _ _ _ => rfl⟩
theorem zMG_t {S S' S'' : zSt} (h : zMG S S') (h2 : zMG S' S'') : zMG S S'' := ⟨h2.1.trans h.1, fun j k a b c d => (h2.2 j k a b c d).trans (h.2 j k a b c d)⟩
theorem zMG_w (S : zSt) {k : Nat} (v : Int32) (h1 : 8 ≤ k) (h2 : k ≤ 21) : zMG S (zwI S 72 k v) := ⟨rfl, fun j l a b c d => qIIo _ _ (by omega)⟩
theorem zMG_Q (S : zSt) (t v b : Int32) : zMG S (zQ S t v b) := zMG_t (zMG_t (zMG_w S t (by omega) (by omega)) (zMG_w _ v (by omega) (by omega))) (zMG_w _ b (by omega) (by omega))
theorem zMG_s {S S' : zSt} (h : zFs S S') : zMG S S' := ⟨h.1, fun j k a b c d => h.2 j k a b c (by omega)⟩
/-- behind a whole text, the reference's side -/
def mE2 (B : Nat → Int32) (T N : Nat) (R : Nat ⊕ List lC) (r : Int32) (S' : zSt) : Prop := match R with
  | .inl j => r = 0 ∧ zI S' 72 14 = nI (tPos B T j)
  | .inr _ => r = 1 ∧ zI S' 72 14 = -1
theorem reads_is (fu : Nat) (hfu : 500 ≤ fu) {n : Nat} (hn : 401 ≤ n) {S : zSt} {B : Nat → Int32} {T : Nat} (ord : Bool) (hB : zMt S B T) (h13 : zI S 72 13 = nI T) :
    ∃ N r S', f_M_readsAs fu (b2 ord) S = some (r, S') ∧ zMG S S' ∧ tNo B T N ∧ zI S' 72 13 = 0 ∧ zI S' 72 18 = nI N ∧ zMS S' B T N ∧ mE2 B T N (ltx ord (tC B T) (tV B T) n N 12 0 0 []) r S' := by
  -- ahead of splitting
  obtain ⟨S0, hS0, F0, W0⟩ : ∃ S0, S0 = zwI (zwI (zwI S 72 10 (b2 ord)) 72 8 (if ord = true then 14 else 9)) 72 9 (if ord = true then 20 else 15) ∧ zMG S S0 ∧ zMW S0 ord := by
    refine ⟨_, rfl, zMG_t (zMG_t (zMG_w S _ (by omega) (by omega)) (zMG_w _ _ (by omega) (by omega))) (zMG_w _ _ (by omega) (by omega)), ?_, ?_, ?_⟩
    · rw [qIIo _ _ (by omega), qIIo _ _ (by omega), qIIs]
    · rw [qIIo _ _ (by omega), qIIs]
    · rw [qIIs]
  have hB0 : zMt S0 B T := by
    refine ⟨fun k hk => ?_, hB.2.1, fun k hk => ?_⟩
    · rw [F0.2 79 k (by omega) (by omega) (by omega) (by omega)]; exact hB.1 k hk
    · rw [F0.2 78 k (by omega) (by omega) (by omega) (by omega)]; exact hB.2.2 k hk
  have h130 : zI S0 72 13 = nI T := by rw [hS0, qIIo _ _ (by omega), qIIo _ _ (by omega), qIIo _ _ (by omega)]; exact h13
  obtain ⟨N, S2, e2, F2, Ts⟩ := splits_is fu hfu hB0
  obtain ⟨hN, hL, hc0, hv0, hp0⟩ := Ts
  have hT := hB.2.1
  have hN400 : N ≤ 400 := by
    rcases Nat.eq_zero_or_pos N with h | h
    · omega
    · have h1 := hN.2 (N - 1) (by omega)
      have := tok_lt (N - 1) h1
      omega
  have hM2 : zMS S2 B T N := by
    refine ⟨hN400, hT, hN, fun j hj => ?_, fun j hj => (hL.2 j hj).2.2⟩
    by_cases h : j = N
    · rw [h, hc0, hp0, tC_end hN (Nat.le_refl N), hN.1]
      exact ⟨rfl, rfl⟩
    · have := hL.2 j (by omega)
      exact ⟨this.1, this.2.1⟩
  -- ahead of reading
  have hMq : ∀ {S S' : zSt}, zMS S B T N → (∀ j k, j ≠ 72 → zI S' j k = zI S j k) → zMS S' B T N := by
    intro S S' h hw
    obtain ⟨a1, a2, a3, a4, a5⟩ := h
    refine ⟨a1, a2, a3, fun j hj => ?_, fun j hj => ?_⟩
    · rw [hw 81 j (by omega), hw 83 j (by omega)]; exact a4 j hj
    · rw [hw 82 j (by omega)]; exact a5 j hj
  have hw3 : ∀ j k, j ≠ 72 → zI (zwI S2 72 13 0) j k = zI S2 j k := fun j k hj => qIIo _ _ (by omega)
  have hM3 : zMS (zwI S2 72 13 0) B T N := hMq hM2 hw3
  have F3 : zMG S (zwI S2 72 13 0) := zMG_t F0 (zMG_t (zMG_s F2) (zMG_w S2 0 (by omega) (by omega)))
  have W3 : zMW (zwI S2 72 13 0) ord := by
    obtain ⟨w1, w2, w3⟩ := W0
    refine ⟨?_, ?_, ?_⟩
    · rw [qIIo _ _ (by omega), F2.2 72 10 (by omega) (by omega) (by omega) (by omega)]; exact w1
    · rw [qIIo _ _ (by omega), F2.2 72 8 (by omega) (by omega) (by omega) (by omega)]; exact w2
    · rw [qIIo _ _ (by omega), F2.2 72 9 (by omega) (by omega) (by omega) (by omega)]; exact w3
  have h18 : zI (zwI S2 72 13 0) 72 18 = nI N := by rw [qIIo _ _ (by omega)]; exact hL.1
  have hO := m_one fu hfu hM3 W3 hn
  obtain ⟨t, v, b, x1, x2⟩ := hO.2 0 0 (by omega) (by omega)
  -- the end
  have KEY : ∃ t v b, zb1 (f_M_readOne fu (zQ (zwI S2 72 13 0) 0 0 (-1))) (fun S4 => f_M_reads_34 fu fu (1 : Int32) S4) = some (if b = -1 then 1 else 0, zwI (zQ (zwI S2 72 13 0) t v b) 72 14 b) ∧ mE B T N (ltx ord (tC B T) (tV B T) n N 12 0 0 []) b := by
    have x1' : f_M_readOne fu (zQ (zwI S2 72 13 0) 0 0 (-1)) = some (zQ (zwI S2 72 13 0) t v b) := x1
    rw [qb1 x1']
    show ∃ t v b, _ ∧ mE B T N (match lclause ord (tC B T) (tV B T) n 0 0 with
      | .inl j => .inl j
      | .inr (j, q', cl) => if tC B T j = 159 then ltx ord (tC B T) (tV B T) n N 11 (j + 1) q' ([] ++ [cl]) else if N ≤ j then .inr ([] ++ [cl]) else .inl j) b
    revert x2
    show mR B T N 0 0 (sR (lclause ord (tC B T) (tV B T) n 0 0)) t v b → _
    cases lclause ord (tC B T) (tV B T) n 0 0 with
    | inl j =>
      intro x2
      obtain ⟨x3, rfl⟩ := x2
      have pn := pos_ne B hT j
      rw [m_end_dead fu t v pn (by omega)]
      exact ⟨_, _, _, by rw [if_neg pn], x3, rfl⟩
    | inr y =>
      obtain ⟨j, q', cl⟩ := y
      intro x2
      obtain ⟨rfl, rfl, rfl, x3, x4, x5, x6⟩ := x2
      exact m_text fu hfu hM3 W3 h18 hn 11 1 fu j q' ([] ++ [cl]) (by omega) (by omega) x4 x6
  obtain ⟨t, v, b, y1, y2⟩ := KEY
  have eR : f_M_reads fu S0 = some (if b = -1 then 1 else 0, zwI (zQ (zwI S2 72 13 0) t v b) 72 14 b) := by
    unfold f_M_reads
    rw [h130, qb1 e2]
    exact y1
  have hr : (if b = -1 then (1 : Int32) else 0) = 0 ∨ (if b = -1 then (1 : Int32) else 0) = 1 := by
    split
    · exact Or.inr rfl
    · exact Or.inl rfl
  have eA : f_M_readsAs fu (b2 ord) S = some (if b = -1 then 1 else 0, zwI (zQ (zwI S2 72 13 0) t v b) 72 14 b) := by
    unfold f_M_readsAs
    rw [qgd (by cases ord; exact Or.inl rfl; exact Or.inr rfl)]
    cases ord with
    | false =>
      rw [if_pos (show b2 false = 0 from rfl), f_M_readsAs_17, if_pos (show b2 false = 0 from rfl)]
      have eR' : f_M_reads fu (zwI (zwI (zwI S 72 10 (b2 false)) 72 8 9) 72 9 15) = _ := hS0 ▸ eR
      rw [qb2 eR', qgd hr]
    | true =>
      rw [if_neg (show ¬ b2 true = 0 by decide), f_M_readsAs_17, if_neg (show ¬ b2 true = 0 by decide)]
      have eR' : f_M_reads fu (zwI (zwI (zwI S 72 10 (b2 true)) 72 8 14) 72 9 20) = _ := hS0 ▸ eR
      rw [qb2 eR', qgd hr]
  refine ⟨N, _, _, eA, zMG_t F3 (zMG_t (zMG_Q _ t v b) (zMG_w _ b (by omega) (by omega))), hN, ?_, ?_, ?_, ?_⟩
  · rw [qIIo _ _ (by omega), zQ_o _ _ _ _ (Or.inr ⟨by omega, by omega, by omega⟩), qIIs]
  · rw [qIIo _ _ (by omega), zQ_o _ _ _ _ (Or.inr ⟨by omega, by omega, by omega⟩)]; exact h18
  · exact hMq hM3 (fun j k hj => by rw [qIIo _ _ (by omega), zQ_o _ _ _ _ (Or.inl hj)])
  · revert y2
    cases ltx ord (tC B T) (tV B T) n N 12 0 0 [] with
    | inl j =>
      intro y2
      obtain ⟨y3, rfl⟩ := y2
      have pn := pos_ne B hT j
      exact ⟨by rw [if_neg pn], by rw [qIIs]⟩
    | inr cls =>
      intro y2
      have y3 : b = -1 := y2
      exact ⟨by rw [if_pos y3], by rw [qIIs]; exact y3⟩

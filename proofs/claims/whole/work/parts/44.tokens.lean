/-! the reference's rows hold the tokens -/
/-- so many tokens laid down -/
def zTl (S : zSt) (B : Nat → Int32) (T i : Nat) : Prop := zI S 72 18 = nI i ∧ ∀ j, j < i → zI S 81 j = tC B T j ∧ zI S 83 j = nI (tPos B T j) ∧ vR (zI S 82 j) (tV B T j)
/-- nothing else is written -/
def zFs (S S' : zSt) : Prop := S'.2 = S.2 ∧ ∀ j k, j ≠ 81 → j ≠ 82 → j ≠ 83 → ¬ (j = 72 ∧ k = 18) → zI S' j k = zI S j k
theorem zFs_r (S : zSt) : zFs S S := ⟨rfl, fun _ _ _ _ _ _ => rfl⟩
theorem zFs_t {S S' S'' : zSt} (h : zFs S S') (h2 : zFs S' S'') : zFs S S'' := ⟨h2.1.trans h.1, fun j k a b c d => (h2.2 j k a b c d).trans (h.2 j k a b c d)⟩
theorem zLay_f (S : zSt) (i : Nat) (q c v : Int32) : zFs S (zLay S i q c v) := by
  refine ⟨rfl, fun j k a b d e => ?_⟩
  unfold zLay
  rw [qIIo _ _ (by omega), qIIo _ _ (by omega), qIIo _ _ (by omega), qIIo _ _ (by omega)]
theorem zMt_f {S S' : zSt} {B : Nat → Int32} {T : Nat} (h : zMt S B T) (hf : zFs S S') : zMt S' B T :=
  ⟨fun k hk => (hf.2 79 k (by omega) (by omega) (by omega) (by omega)).trans (h.1 k hk), h.2.1, fun k hk => (hf.2 78 k (by omega) (by omega) (by omega) (by omega)).trans (h.2.2 k hk)⟩
theorem zLay_l {S : zSt} {B : Nat → Int32} {T i : Nat} {v : Int32} (h : zTl S B T i) (hv : vR v (tV B T i)) : zTl (zLay S i (nI (tPos B T i)) (tC B T i) v) B T (i + 1) := by
  refine ⟨by unfold zLay; rw [qIIs], fun j hj => ?_⟩
  unfold zLay
  by_cases e : j = i
  · rw [e]
    refine ⟨?_, ?_, ?_⟩
    · rw [qIIo _ _ (by omega), qIIo _ _ (by omega), qIIs]
    · rw [qIIo _ _ (by omega), qIIo _ _ (by omega), qIIo _ _ (by omega), qIIs]
    · rw [qIIo _ _ (by omega), qIIs]; exact hv
  · have := h.2 j (by omega)
    refine ⟨?_, ?_, ?_⟩
    · rw [qIIo _ _ (by omega), qIIo _ _ (by omega), qIIo _ _ (by omega), qIIo _ _ (by omega)]; exact this.1
    · rw [qIIo _ _ (by omega), qIIo _ _ (by omega), qIIo _ _ (by omega), qIIo _ _ (by omega)]; exact this.2.1
    · rw [qIIo _ _ (by omega), qIIo _ _ (by omega), qIIo _ _ (by omega), qIIo _ _ (by omega)]; exact this.2.2
theorem tPos_go {B : Nat → Int32} {T : Nat} : ∀ i, tPos B T i < T → tPos B T i < tPos B T (i + 1) := by
  intro i h
  have h1 := (tEnd_le (B := B) (T := T) (q := tPos B T i) (by omega)).2.2 h
  have h2 := (sc_spec (isBl B T) T (tEnd B T (tPos B T i)) (tEnd_le (tPos_le B T i)).2.1).1
  show _ < sc (isBl B T) T (tEnd B T (tPos B T i))
  omega
/-- how many tokens: N; behind them the end -/
def tNo (B : Nat → Int32) (T N : Nat) : Prop := tPos B T N = T ∧ ∀ j, j < N → tPos B T j < T
/-- the reference has the tokens -/
def zTs (S : zSt) (B : Nat → Int32) (T N : Nat) : Prop := tNo B T N ∧ zTl S B T N ∧ zI S 81 N = 0 ∧ zI S 82 N = 0 ∧ zI S 83 N = nI T
theorem s_all (fu : Nat) (hfu : 500 ≤ fu) {B : Nat → Int32} {T : Nat} : ∀ (n i : Nat) (S : zSt), zMt S B T → zTl S B T i → (∀ j, j < i → tPos B T j < T) → i ≤ tPos B T i → T < n + tPos B T i → ∃ N S', f_M_splits_7 fu n (nI T) (nI (tPos B T i)) S = some S' ∧ zFs S S' ∧ zTs S' B T N := by
  intro n
  induction n using Nat.strongRecOn with
  | ind n ih =>
    intro i S hM hL hlt hile hn
    have hT := hM.2.1
    have hq := tPos_le B T i
    obtain ⟨n, rfl⟩ : ∃ n', n = n' + 1 := ⟨n - 1, by omega⟩
    by_cases he : tPos B T i = T
    · rw [f_M_splits_7, he, if_pos ((n_le (by omega) (by omega)).mpr (by omega)), f_M_splits_263]
      simp only [q72a, q72c, hL.1]
      rw [n_gd (by omega) (by omega), q_cl (by omega), qgd ⟨n_0 (by omega), by omega⟩, qgd ⟨n_0 (by omega), by omega⟩]
      refine ⟨i, _, rfl, ⟨rfl, fun j k a b c d => by rw [qIIo _ _ (by omega), qIIo _ _ (by omega), qIIo _ _ (by omega)]⟩, ⟨he, hlt⟩, ⟨?_, fun j hj => ?_⟩, ?_, ?_, ?_⟩
      · rw [q72b, q72a, q72c]; exact hL.1
      · have := hL.2 j hj
        refine ⟨?_, ?_, ?_⟩
        · rw [qIIo _ _ (by omega), qIIo _ _ (by omega), qIIo _ _ (by omega)]; exact this.1
        · rw [qIIo _ _ (by omega), qIIo _ _ (by omega), qIIo _ _ (by omega)]; exact this.2.1
        · rw [qIIo _ _ (by omega), qIIo _ _ (by omega), qIIo _ _ (by omega)]; exact this.2.2
      · rw [qIIo _ _ (by omega), qIIs]
      · rw [qIIs]
      · rw [qIIo _ _ (by omega), qIIo _ _ (by omega), qIIs]
    · have hqT : tPos B T i < T := by omega
      have hee := tEnd_le (B := B) (T := T) (q := tPos B T i) hq
      obtain ⟨v, hv, hf⟩ := s_100 fu hfu (f_M_splits_7 fu n) hM hqT (tPos_kind B T i) (i := i) (by omega) hL.1
      rw [s_7t fu hfu hM hqT (tPos_kind B T i) n, hf]
      have hM2 := zMt_f hM (zLay_f S i (nI (tPos B T i)) (tCq B T (tPos B T i)) v)
      have hL2 : zTl (zLay S i (nI (tPos B T i)) (tCq B T (tPos B T i)) v) B T (i + 1) := zLay_l hL hv
      obtain ⟨n', h1, h2⟩ := s_7b fu hM2 n (tEnd B T (tPos B T i)) hee.2.1 (by have := hee.2.2 hqT; omega)
      rw [h2]
      have hgo := tPos_go (B := B) (T := T) i hqT
      have hle := (sc_spec (isBl B T) T (tEnd B T (tPos B T i)) hee.2.1).1
      have e1 : tPos B T (i + 1) = sc (isBl B T) T (tEnd B T (tPos B T i)) := rfl
      have h3 := hee.2.2 hqT
      obtain ⟨N, S', h4, h5, h6⟩ := ih n' (by omega) (i + 1) _ hM2 hL2 (fun j hj => by
        by_cases h : j = i
        · rw [h]; exact hqT
        · exact hlt j (by omega)) (by omega) (by omega)
      exact ⟨N, S', h4, zFs_t (zLay_f S i _ _ v) h5, h6⟩
theorem splits_is (fu : Nat) (hfu : 500 ≤ fu) {S : zSt} {B : Nat → Int32} {T : Nat} (h : zMt S B T) : ∃ N S', f_M_splits fu (nI T) S = some S' ∧ zFs S S' ∧ zTs S' B T N := by
  have h0 : zFs S (zwI S 72 18 0) := ⟨rfl, fun j k a b c d => qIIo _ _ d⟩
  have hM := zMt_f h h0
  have hL : zTl (zwI S 72 18 0) B T 0 := ⟨by rw [qIIs]; rfl, fun j hj => by omega⟩
  obtain ⟨n', h1, h2⟩ := s_7b fu hM fu 0 (Nat.zero_le _) (by have := h.2.1; omega)
  obtain ⟨N, S', h4, h5, h6⟩ := s_all fu hfu n' 0 _ hM hL (fun j hj => by omega) (Nat.zero_le _) (by show T < n' + sc (isBl B T) T 0; have := h.2.1; omega)
  refine ⟨N, S', ?_, zFs_t h0 h5, h6⟩
  unfold f_M_splits
  exact h2.trans h4

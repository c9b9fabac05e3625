/-! the class's parser: what holds ahead of a piece, what behind it -/
/-- what a piece of parsing leaves alone; the code below l too -/
def zPF (S S' : zSt) (l : Nat) : Prop := S'.2 = S.2 ∧ (∀ j k, j ≠ 44 → j ≠ 46 → j ≠ 47 → j ≠ 51 → zI S' j k = zI S j k) ∧ (∀ k, k < 2 → zI S' 44 k = zI S 44 k) ∧ zI S' 46 1 = zI S 46 1 ∧ (∀ k, k ≠ 1 → k ≠ 3 → zI S' 47 k = zI S 47 k) ∧ (∀ k, k < l → zI S' 51 k = zI S 51 k) ∧ ((zI S' 47 3 = 0 → zI S 47 3 = 0) ∧ (zI S' 47 3 = zI S 47 3 ∨ zI S' 47 3 = 1))
theorem zPF_r (S : zSt) (l : Nat) : zPF S S l := ⟨rfl, fun _ _ _ _ _ _ => rfl, fun _ _ => rfl, rfl, fun _ _ _ => rfl, fun _ _ => rfl, id, Or.inl rfl⟩
theorem zPF_t {S S' S'' : zSt} {l l' : Nat} (h : zPF S S' l) (h2 : zPF S' S'' l') (hl : l ≤ l') : zPF S S'' l := by
  obtain ⟨a1, a2, a3, a4, a5, a6, a7⟩ := h
  obtain ⟨b1, b2, b3, b4, b5, b6, b7⟩ := h2
  exact ⟨b1.trans a1, fun j k c d e f => (b2 j k c d e f).trans (a2 j k c d e f), fun k hk => (b3 k hk).trans (a3 k hk), b4.trans a4, fun k c d => (b5 k c d).trans (a5 k c d), fun k hk => (b6 k (by omega)).trans (a6 k hk), fun h => a7.1 (b7.1 h), by
    rcases b7.2 with h | h
    · rw [h]; exact a7.2
    · exact Or.inr h⟩
theorem zPF_tk {S : zSt} {B : Nat → Int32} {T : Nat} (q l : Nat) : zPF S (zTk S B T q) l :=
  ⟨rfl, fun j k h1 _ _ _ => zTk_o S B T q (Or.inl h1), fun k hk => zTk_o S B T q (Or.inr (Or.inl hk)), zTk_o S B T q (Or.inl (by omega)), fun k _ _ => zTk_o S B T q (Or.inl (by omega)), fun k _ => zTk_o S B T q (Or.inl (by omega)), fun h => by rw [zTk_o S B T q (Or.inl (by omega))] at h; exact h, Or.inl (zTk_o S B T q (Or.inl (by omega)))⟩
theorem zHd_w {S : zSt} {B : Nat → Int32} {T i : Nat} (h : zHd S B T i) {j : Nat} (k : Nat) (v : Int32) (h1 : j ≠ 44) (h2 : j ≠ 45) : zHd (zwI S j k v) B T i := by
  obtain ⟨⟨a1, a2, a3⟩, a4, a5, a6, a7⟩ := h
  refine ⟨⟨?_, a2, fun k' hk => ?_⟩, ?_, ?_, ?_, ?_⟩
  · rw [qIIo _ _ (by omega)]; exact a1
  · rw [qIIo _ _ (by omega)]; exact a3 k' hk
  · rw [qIIo _ _ (by omega)]; exact a4
  · rw [qIIo _ _ (by omega)]; exact a5
  · rw [qIIo _ _ (by omega)]; exact a6
  · rw [qIIo _ _ (by omega)]; exact a7
/-- ahead of a piece: the i-th token is at hand, q parts were read, within b brackets, l numbers of code stand -/
def zPS (S : zSt) (B : Nat → Int32) (T : Nat) (ord : Int32) (i q b l : Nat) : Prop := zHd S B T i ∧ zI S 46 1 = ord ∧ zI S 46 2 = nI q ∧ zI S 46 3 = nI b ∧ zI S 47 1 = nI l ∧ zA S 51 = 436
/-- one more number of code -/
def zEm (S : zSt) (l w v : Nat) : zSt := zwI (zwI S 51 l (xw w v)) 47 1 (nI (l + 1))
theorem emit_is {S : zSt} {l w v : Nat} (hl : l < 436) (h : zI S 47 1 = nI l) (hA : zA S 51 = 436) : f_Tx_emit 47 (nI w) (nI v) S = some (zEm S l w v) := by
  have e : (zA S (47 + 4)).toInt32 = nI 436 := by rw [show 47 + 4 = 51 from rfl, hA]; rfl
  unfold f_Tx_emit
  rw [h, if_neg (n_neg (by omega)), e, if_neg (fun h => absurd ((n_le (by omega) (by omega)).mp h) (by omega)), show 47 + 4 = 51 from rfl, hA, n_gd (by omega) hl, q_cl (by omega), qIIo _ _ (by omega), h, n_1]
  rfl
theorem zEm_F (S : zSt) (l w v : Nat) : zPF S (zEm S l w v) l := by
  unfold zEm
  refine ⟨rfl, fun j k h1 h2 h3 h4 => ?_, fun k hk => ?_, ?_, fun k h1 h2 => ?_, fun k hk => ?_, fun h => ?_, Or.inl ?_⟩
  · rw [qIIo _ _ (by omega), qIIo _ _ (by omega)]
  · rw [qIIo _ _ (by omega), qIIo _ _ (by omega)]
  · rw [qIIo _ _ (by omega), qIIo _ _ (by omega)]
  · rw [qIIo _ _ (by omega), qIIo _ _ (by omega)]
  · rw [qIIo _ _ (by omega), qIIo _ _ (by omega)]
  · rw [qIIo _ _ (by omega), qIIo _ _ (by omega)] at h; exact h
  · rw [qIIo _ _ (by omega), qIIo _ _ (by omega)]
theorem zEm_51 (S : zSt) (l w v : Nat) : zI (zEm S l w v) 51 l = xw w v := by unfold zEm; rw [qIIo _ _ (by omega), qIIs]
theorem zEm_47 (S : zSt) (l w v : Nat) : zI (zEm S l w v) 47 1 = nI (l + 1) := by unfold zEm; rw [qIIs]
theorem zEm_H {S : zSt} {B : Nat → Int32} {T i : Nat} (h : zHd S B T i) (l w v : Nat) : zHd (zEm S l w v) B T i := zHd_w (zHd_w h _ _ (by omega) (by omega)) _ _ (by omega) (by omega)
theorem zEm_46 (S : zSt) (l w v k : Nat) : zI (zEm S l w v) 46 k = zI S 46 k := by unfold zEm; rw [qIIo _ _ (by omega), qIIo _ _ (by omega)]
theorem zEm_S {S : zSt} {B : Nat → Int32} {T : Nat} {ord : Int32} {i q b l : Nat} (h : zPS S B T ord i q b l) (w v : Nat) : zPS (zEm S l w v) B T ord i q b (l + 1) :=
  ⟨zEm_H h.1 l w v, by rw [zEm_46]; exact h.2.1, by rw [zEm_46]; exact h.2.2.1, by rw [zEm_46]; exact h.2.2.2.1, zEm_47 S l w v, h.2.2.2.2.2⟩
theorem zTk_S {S : zSt} {B : Nat → Int32} {T : Nat} {ord : Int32} {i q b l : Nat} (h : zPS S B T ord i q b l) : zPS (zTk S B T (tPos B T (i + 1))) B T ord (i + 1) q b l :=
  ⟨zTk_at h.1.1 (i + 1), by rw [zTk_o S B T _ (Or.inl (by omega))]; exact h.2.1, by rw [zTk_o S B T _ (Or.inl (by omega))]; exact h.2.2.1, by rw [zTk_o S B T _ (Or.inl (by omega))]; exact h.2.2.2.1, by rw [zTk_o S B T _ (Or.inl (by omega))]; exact h.2.2.2.2.1, h.2.2.2.2.2⟩
/-- a value asks no word of how soon -/
def noSoon (d : lD) : Prop := ∀ E E' : lE, (∀ k, k < 14 ∨ 22 < k → E k = E' k) → d E = d E'
/-- the codes that were put down are such as the run knows -/
def codeOk (c : Nat → Int32) (l l' : Nat) : Prop := ∀ k, l ≤ k → k < l' → c k &&& 15 ≤ 13
/-- behind a piece that tells a number -/
def zOut (S : zSt) (B : Nat → Int32) (T : Nat) (ord : Int32) (W i q b l : Nat) (R : lR) (r : Int32) (S' : zSt) : Prop := zPF S S' l ∧ match R with
  | .inl j => r = 0 ∧ zHd S' B T j
  | .inr (j, q', d) => r = 1 ∧ ∃ l', zPS S' B T ord j q' b l' ∧ i < j ∧ j ≤ 400 ∧ q < q' ∧ q' ≤ 50 ∧ l < l' ∧ l' + i ≤ l + j ∧ xseg (zI S' 51) W l l' (q' - q) d ∧ codeOk (zI S' 51) l l' ∧ (zI S' 47 3 = 0 → noSoon d)
/-- behind a piece that tells whether -/
def zOutT (S : zSt) (B : Nat → Int32) (T : Nat) (ord : Int32) (W i q b l : Nat) (R : lRT) (r : Int32) (S' : zSt) : Prop := zPF S S' l ∧ match R with
  | .inl j => r = 0 ∧ zHd S' B T j
  | .inr (j, q', d) => r = 1 ∧ ∃ l', zPS S' B T ord j q' b l' ∧ i < j ∧ j ≤ 400 ∧ q < q' ∧ q' ≤ 50 ∧ l < l' ∧ l' + i ≤ l + j ∧ xseg (zI S' 51) W l l' (q' - q) (xT d) ∧ codeOk (zI S' 51) l l' ∧ (zI S' 47 3 = 0 → noSoon (xT d))
theorem xw_ok {w v : Nat} (hw : w ≤ 13) : xw w v &&& 15 ≤ 13 := by
  rw [xw_what (by omega)]
  exact (n_le (b := 13) (by omega) (by omega)).mpr hw
/-- a real token: its number is less than the tape's length -/
theorem tok_lt {B : Nat → Int32} {T : Nat} : ∀ i, tPos B T i < T → i ≤ tPos B T i
  | 0, _ => Nat.zero_le _
  | i + 1, h => by
    have h2 : tPos B T i < T := by
      refine Nat.lt_of_not_le (fun h3 => ?_)
      have e : tPos B T i = T := Nat.le_antisymm (tPos_le B T i) h3
      have h4 := (tEnd_le (B := B) (T := T) (q := tPos B T i) (tPos_le B T i))
      have h5 := (sc_spec (isBl B T) T (tEnd B T (tPos B T i)) h4.2.1).1
      have h6 : tPos B T (i + 1) = sc (isBl B T) T (tEnd B T (tPos B T i)) := rfl
      omega
    have := tok_lt i h2
    have := tPos_go i h2
    omega
theorem tC_lt {B : Nat → Int32} {T i : Nat} (hT : T ≤ 400) (h : tC B T i ≠ 0) : i < 400 := by
  have h1 : tPos B T i < T := by
    refine kat_lt (B := B) (fun h2 => h ?_)
    unfold tC tCq
    rw [if_pos h2]
  have := tok_lt i h1
  omega

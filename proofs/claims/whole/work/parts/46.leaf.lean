/-! the class's parser: words, the part that is no bracket -/
def lawW (c : Int32) : Int32 := if c = 9 then 0 else if c = 10 then 1 else if c = 11 then 2 else if c = 12 then 3 else if c = 14 then 4 else if c = 15 then 5 else if c = 13 then 6 else -1
def ordW (c : Int32) : Int32 := if c = 15 then 0 else if c = 16 then 1 else if c = 17 then 2 else if c = 18 then 3 else if c = 19 then 4 else -1
theorem law_word (fu : Nat) (hfu : 500 ≤ fu) {S : zSt} {B : Nat → Int32} {T i : Nat} (h : zHd S B T i) : f_Re_lawWord fu S = some (lawW (tC B T i)) := by
  have h9 : f_Ta_isWord fu 19 S = some (if tC B T i = 9 then 1 else 0) := is_word fu hfu h (n := 8) (by omega) rfl
  have h10 : f_Ta_isWord fu 8 S = some (if tC B T i = 10 then 1 else 0) := is_word fu hfu h (n := 9) (by omega) rfl
  have h11 : f_Ta_isWord fu 20 S = some (if tC B T i = 11 then 1 else 0) := is_word fu hfu h (n := 10) (by omega) rfl
  have h12 : f_Ta_isWord fu 21 S = some (if tC B T i = 12 then 1 else 0) := is_word fu hfu h (n := 11) (by omega) rfl
  have h14 : f_Ta_isWord fu 12 S = some (if tC B T i = 14 then 1 else 0) := is_word fu hfu h (n := 13) (by omega) rfl
  have h15 : f_Ta_isWord fu 14 S = some (if tC B T i = 15 then 1 else 0) := is_word fu hfu h (n := 14) (by omega) rfl
  have h13 : f_Ta_isWord fu 22 S = some (if tC B T i = 13 then 1 else 0) := is_word fu hfu h (n := 12) (by omega) rfl
  unfold f_Re_lawWord lawW
  rw [qb1 h9]
  by_cases c9 : tC B T i = 9
  · rw [if_pos c9, if_pos c9]; rfl
  rw [if_neg c9, if_neg c9, if_pos rfl, qb1 h10]
  by_cases c10 : tC B T i = 10
  · rw [if_pos c10, if_pos c10]; rfl
  rw [if_neg c10, if_neg c10, if_pos rfl, qb1 h11]
  by_cases c11 : tC B T i = 11
  · rw [if_pos c11, if_pos c11]; rfl
  rw [if_neg c11, if_neg c11, if_pos rfl, qb1 h12]
  by_cases c12 : tC B T i = 12
  · rw [if_pos c12, if_pos c12]; rfl
  rw [if_neg c12, if_neg c12, if_pos rfl, qb1 h14]
  by_cases c14 : tC B T i = 14
  · rw [if_pos c14, if_pos c14]; rfl
  rw [if_neg c14, if_neg c14, if_pos rfl, qb1 h15]
  by_cases c15 : tC B T i = 15
  · rw [if_pos c15, if_pos c15]; rfl
  rw [if_neg c15, if_neg c15, if_pos rfl, qb1 h13]
  by_cases c13 : tC B T i = 13
  · rw [if_pos c13, if_pos c13]; rfl
  · rw [if_neg c13, if_neg c13]; rfl
theorem ord_word (fu : Nat) (hfu : 500 ≤ fu) {S : zSt} {B : Nat → Int32} {T i : Nat} (h : zHd S B T i) : f_Re_orderWord fu S = some (ordW (tC B T i)) := by
  have h15 : f_Ta_isWord fu 14 S = some (if tC B T i = 15 then 1 else 0) := is_word fu hfu h (n := 14) (by omega) rfl
  have h16 : f_Ta_isWord fu 15 S = some (if tC B T i = 16 then 1 else 0) := is_word fu hfu h (n := 15) (by omega) rfl
  have h17 : f_Ta_isWord fu 16 S = some (if tC B T i = 17 then 1 else 0) := is_word fu hfu h (n := 16) (by omega) rfl
  have h18 : f_Ta_isWord fu 17 S = some (if tC B T i = 18 then 1 else 0) := is_word fu hfu h (n := 17) (by omega) rfl
  have h19 : f_Ta_isWord fu 18 S = some (if tC B T i = 19 then 1 else 0) := is_word fu hfu h (n := 18) (by omega) rfl
  unfold f_Re_orderWord ordW
  rw [qb1 h15]
  by_cases c15 : tC B T i = 15
  · rw [if_pos c15, if_pos c15]; rfl
  rw [if_neg c15, if_neg c15, if_pos rfl, qb1 h16]
  by_cases c16 : tC B T i = 16
  · rw [if_pos c16, if_pos c16]; rfl
  rw [if_neg c16, if_neg c16, if_pos rfl, qb1 h17]
  by_cases c17 : tC B T i = 17
  · rw [if_pos c17, if_pos c17]; rfl
  rw [if_neg c17, if_neg c17, if_pos rfl, qb1 h18]
  by_cases c18 : tC B T i = 18
  · rw [if_pos c18, if_pos c18]; rfl
  rw [if_neg c18, if_neg c18, if_pos rfl, qb1 h19]
  by_cases c19 : tC B T i = 19
  · rw [if_pos c19, if_pos c19]; rfl
  · rw [if_neg c19, if_neg c19]; rfl
/-- one number of code for one token: what stands then -/
theorem put_out (fu : Nat) (hfu : 500 ≤ fu) {S S0 : zSt} {B : Nat → Int32} {T : Nat} {ord : Int32} {W i0 i q0 q b l w v : Nat} {d : lD} (h : zPS S B T ord i q b l) (hF : zPF S0 S l) (hi : i0 ≤ i) (hq0 : q0 + 1 = q) (hq : q ≤ 50) (hl : l < 436) (hw : w ≤ 13) (hi4 : i < 400) (hd : xseg (zI (zTk (zEm S l w v) B T (tPos B T (i + 1))) 51) W l (l + 1) 1 d) (hn : zI S 47 3 = 0 → noSoon d) :
    ∃ S', zb1 (f_Tx_emit 47 (nI w) (nI v) S) (fun S6 => zb1 (f_Ta_next fu S6) (fun S8 => some ((1 : Int32), S8))) = some (1, S') ∧ zOut S0 B T ord W i0 q0 b l (.inr (i + 1, q, d)) 1 S' := by
  have hE := zEm_S h w v
  have hN := next_at fu hfu hE.1
  refine ⟨zTk (zEm S l w v) B T (tPos B T (i + 1)), ?_, zPF_t hF (zPF_t (zEm_F S l w v) (zPF_tk (B := B) (T := T) _ l) (Nat.le_refl l)) (Nat.le_refl l), rfl, l + 1, zTk_S hE, by omega, by omega, by omega, hq, by omega, by omega, ?_, ?_, ?_⟩
  · rw [qb1 (emit_is hl h.2.2.2.2.1 h.2.2.2.2.2), qb1 hN.1]
  · rw [show q - q0 = 1 by omega]; exact hd
  · intro k h1 h2
    have e : k = l := by omega
    rw [e, zTk_o _ _ _ _ (Or.inl (by omega)), zEm_51]
    exact xw_ok hw
  · intro h3
    refine hn ?_
    rw [zTk_o _ _ _ _ (Or.inl (by omega))] at h3
    exact (zEm_F S l w v).2.2.2.2.2.2.1 h3

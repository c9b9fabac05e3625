/-! the class's parser: a part that is a number; the law's words -/
theorem tV_nat {B : Nat → Int32} {T i : Nat} (h : tV B T i ≤ 1000) : ∃ v, v ≤ 1000 ∧ tV B T i = nI v := by
  unfold tV tNum at h ⊢
  split
  · split
    · rename_i h2
      exact ⟨_, h2, rfl⟩
    · rename_i h1 h2
      rw [if_pos h1, if_neg h2] at h
      exact absurd h (by decide)
  · exact ⟨0, by omega, rfl⟩
theorem zPS_q {S : zSt} {B : Nat → Int32} {T : Nat} {ord : Int32} {i q b l : Nat} (h : zPS S B T ord i q b l) (q' : Nat) : zPS (zwI S 46 2 (nI q')) B T ord i q' b l := by
  obtain ⟨h1, h2, h3, h4, h5, h6⟩ := h
  refine ⟨zHd_w h1 _ _ (by omega) (by omega), ?_, ?_, ?_, ?_, h6⟩
  · rw [qIIo _ _ (by omega)]; exact h2
  · rw [qIIs]
  · rw [qIIo _ _ (by omega)]; exact h4
  · rw [qIIo _ _ (by omega)]; exact h5
theorem zPF_46 (S : zSt) (k : Nat) (v : Int32) (l : Nat) (hk : k ≠ 1) : zPF S (zwI S 46 k v) l :=
  ⟨rfl, fun j k h1 h2 h3 h4 => qIIo _ _ (by omega), fun k hk => qIIo _ _ (by omega), qIIo _ _ (by omega), fun k _ _ => qIIo _ _ (by omega), fun k _ => qIIo _ _ (by omega), fun h => by rw [qIIo _ _ (by omega)] at h; exact h, Or.inl (qIIo _ _ (by omega))⟩
theorem put_code (S : zSt) (B : Nat → Int32) (T l w v q : Nat) : zI (zTk (zEm S l w v) B T q) 51 l = xw w v := by
  rw [zTk_o _ _ _ _ (Or.inl (by omega)), zEm_51]
/-- what is read behind the bracket's test, the count of parts being one more -/
theorem leaf_num (fu : Nat) (hfu : 500 ≤ fu) (brk : Int32 → Int32 → zSt → Option (Int32 × zSt)) {S : zSt} {B : Nat → Int32} {T : Nat} {ord : Int32} {W i q b l : Nat} (h : zPS S B T ord i q b l) (hl : l ≤ i + 35) (hq50 : q ≤ 50) (h191 : tC B T i ≠ 191) (ordB : Bool) :
    (50 ≤ q → ∃ r S', f_Re_readPart_o brk fu S = some (r, S') ∧ zOut S B T ord W i q b l (lleaf ordB (tC B T) (tV B T) i q) r S') ∧
    (q < 50 → tC B T i = 50 ∧ tV B T i ≤ 1000 → ∃ r S', f_Re_readPart_o brk fu S = some (r, S') ∧ zOut S B T ord W i q b l (lleaf ordB (tC B T) (tV B T) i q) r S') ∧
    (q < 50 → ¬ (tC B T i = 50 ∧ tV B T i ≤ 1000) → f_Re_readPart_o brk fu S = if ord = 0 then f_Re_readPart_88 brk fu (zwI S 46 2 (nI (q + 1))) else zb2 (f_Ta_takeWord fu 12 (zwI S 46 2 (nI (q + 1)))) (fun r10 S11 => if r10 = 0 then f_Re_readPart_88 brk fu S11 else zb2 (f_Re_readWhich fu (5 : Int32) S11) (fun r14 S15 => zgd (r14 = 0 ∨ r14 = 1) (some (r14, S15))))) := by
  have hs : f_Ta_isSign (91 : Int32) S = some 0 := by
    have := is_sign (c := 91) h.1 (by omega)
    rw [if_neg (show ¬ tC B T i = nI (100 + 91) from fun h => h191 h)] at this
    exact this
  have hT := h.1.1.2.1
  have h1 := zPS_q h (q + 1)
  refine ⟨fun hq => ?_, fun hq hc => ?_, fun hq hc => ?_⟩
  · refine ⟨0, S, ?_, zPF_r S l, ?_⟩
    · have l5 : ¬ nI q < (50 : Int32) := fun h => absurd ((n_lt (b := 50) (by omega) (by omega)).mp h) (by omega)
      unfold f_Re_readPart_o
      rw [qb1 hs, if_pos rfl, h.2.2.1, if_neg l5]
    · unfold lleaf
      rw [if_pos hq]
      exact ⟨rfl, h.1⟩
  · obtain ⟨v, hv, hev⟩ := tV_nat hc.2
    have l5 : nI q < (50 : Int32) := (n_lt (b := 50) (by omega) (by omega)).mpr hq
    have hi := tC_lt hT (by rw [hc.1]; decide : tC B T i ≠ 0)
    obtain ⟨S', h2, h3⟩ := put_out fu hfu (S0 := S) (W := W) (i0 := i) (q0 := q) (w := 0) (v := v) (d := fun _ => some (v : Int)) h1 (zPF_46 S 2 _ l (by omega)) (Nat.le_refl i) rfl (by omega) (by omega) (by omega) hi (xseg_num (by omega) (put_code _ _ _ _ _ _ _)) (fun _ _ _ _ => rfl)
    refine ⟨1, S', ?_, ?_⟩
    · unfold f_Re_readPart_o
      rw [qb1 hs, if_pos rfl, h.2.2.1, if_pos l5, n_1, qb1 (is_number h1.1), if_pos hc, if_neg (by decide), h1.1.2.2.2.2, show tNum B T (tPos B T i) = nI v from hev]
      exact h2
    · unfold lleaf
      rw [if_neg (by omega), if_pos hc, hev, q_nI (by omega)]
      exact h3
  · have l5 : nI q < (50 : Int32) := (n_lt (b := 50) (by omega) (by omega)).mpr hq
    unfold f_Re_readPart_o
    rw [qb1 hs, if_pos rfl, h.2.2.1, if_pos l5, n_1, qb1 (is_number h1.1), if_neg hc, if_pos rfl, h1.2.1]

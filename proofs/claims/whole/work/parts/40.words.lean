/-! the codes of tokens; the class's words and signs -/
def wj : List Nat := [4, 5, 6, 7, 24, 11, 10, 9, 19, 8, 20, 21, 22, 12, 14, 15, 16, 17, 18, 13, 0, 1, 2, 3, 23]
/-- what stands from q up to e is the literal j -/
abbrev isW (B : Nat → Int32) (q e j : Nat) : Prop := e - q = zSln.getD j 0 ∧ ∀ i, i < zSln.getD j 0 → B (q + i) = zSch j i
def wnf (P : Nat → Bool) : Nat → List Nat → Nat
  | _, [] => 0
  | w, j :: r => if P j = true then w else wnf P (w + 1) r
def wnum (B : Nat → Int32) (q e : Nat) : Nat := wnf (fun j => decide (isW B q e j)) 1 wj
theorem wnf_of {P : Nat → Bool} : ∀ (l : List Nat) (k m : Nat), wnf P k l = m → m ≠ 0 → ∃ n, n < l.length ∧ m = k + n ∧ P (l.getD n 0) = true
  | [], _, _, h, h0 => absurd h.symm h0
  | j :: r, k, m, h, h0 => by
    unfold wnf at h
    by_cases hp : P j = true
    · rw [if_pos hp] at h
      exact ⟨0, by simp, by omega, hp⟩
    · rw [if_neg hp] at h
      obtain ⟨n, h1, h2, h3⟩ := wnf_of r (k + 1) m h h0
      exact ⟨n + 1, by simpa using h1, by omega, h3⟩
theorem wnf_is {P : Nat → Bool} : ∀ (l : List Nat) (k n : Nat), n < l.length → P (l.getD n 0) = true → (∀ m, m < n → P (l.getD m 0) = false) → wnf P k l = k + n
  | [], _, _, h, _, _ => absurd h (by simp)
  | j :: r, k, 0, _, hp, _ => by
    unfold wnf
    have hp' : P j = true := hp
    rw [if_pos hp']; rfl
  | j :: r, k, n + 1, h, hp, hl => by
    unfold wnf
    have h0 : P j = false := hl 0 (by omega)
    rw [if_neg (by rw [h0]; decide), wnf_is r (k + 1) n (by simpa using h) hp (fun m hm => hl (m + 1) (by omega))]
    omega
theorem sby_ne : ∀ j, j < 25 → ∀ i, i < 25 → j ≠ i → zSln.getD j 0 = zSln.getD i 0 → ∃ k, k < zSln.getD j 0 ∧ zSch j k ≠ zSch i k := by decide +kernel
theorem wj_lt : ∀ n, n < 25 → wj.getD n 0 < 25 := by decide
theorem wj_inj : ∀ n, n < 25 → ∀ m, m < 25 → wj.getD n 0 = wj.getD m 0 → n = m := by decide
theorem isW_one {B : Nat → Int32} {q e i j : Nat} (hi : i < 25) (hj : j < 25) (h1 : isW B q e i) (h2 : isW B q e j) : i = j := by
  refine Classical.byContradiction fun hne => ?_
  obtain ⟨k, hk, hk2⟩ := sby_ne i hi j hj hne (h1.1.symm.trans h2.1)
  exact hk2 ((h1.2 k hk).symm.trans (h2.2 k (by rw [← h2.1, h1.1]; exact hk)))
theorem wnum_iff {B : Nat → Int32} {q e : Nat} {n : Nat} (hn : n < 25) : wnum B q e = n + 1 ↔ isW B q e (wj.getD n 0) := by
  constructor
  · intro h
    obtain ⟨m, hm, h2, h3⟩ := wnf_of wj 1 (n + 1) h (by omega)
    have : m = n := by omega
    rw [← this]
    exact of_decide_eq_true h3
  · intro h
    have := wnf_is (P := fun j => decide (isW B q e j)) wj 1 n hn (decide_eq_true h) (fun m hm => decide_eq_false (fun h2 => absurd (wj_inj n hn m (by omega) (isW_one (wj_lt n hn) (wj_lt m (by omega)) h h2)) (by omega)))
    unfold wnum
    rw [this]; omega
theorem wnum_le (B : Nat → Int32) (q e : Nat) : wnum B q e ≤ 25 := by
  by_cases h : wnum B q e = 0
  · omega
  · obtain ⟨m, hm, h2, h3⟩ := wnf_of wj 1 _ rfl h
    have : wj.length = 25 := rfl
    show wnf _ 1 wj ≤ 25
    omega
/-- the code of the token that begins at q -/
def tCq (B : Nat → Int32) (T q : Nat) : Int32 := if kat B T q = 0 then 0 else if kat B T q = 1 then nI (wnum B q (tEnd B T q)) else if kat B T q = 2 then 50 else 100 + (B q &&& 255)
def tC (B : Nat → Int32) (T i : Nat) : Int32 := tCq B T (tPos B T i)
theorem sign_rg (x : Int32) : 100 ≤ (100 + (x &&& 255)).toInt ∧ (100 + (x &&& 255)).toInt ≤ 355 := by
  obtain ⟨k, hk, hx⟩ : ∃ k, k < 256 ∧ x &&& 255 = nI k := by
    obtain ⟨n, hn, rfl⟩ := wb_of32 x
    exact ⟨n % 2 ^ 8, Nat.mod_lt _ (by omega), fa_mask n 8⟩
  rw [hx, show (100 : Int32) + nI k = nI (100 + k) from n_add 100 k, q_nI (by omega)]
  omega
theorem tCq_word {B : Nat → Int32} {T q n : Nat} (hn : n < 25) : tCq B T q = nI (n + 1) ↔ kat B T q = 1 ∧ isW B q (tEnd B T q) (wj.getD n 0) := by
  unfold tCq
  have hw := wnum_le B q (tEnd B T q)
  by_cases h0 : kat B T q = 0
  · rw [if_pos h0, h0]
    exact ⟨fun h => absurd ((n_eq (a := 0) (by omega) (by omega)).mp h) (by omega), fun h => absurd h.1 (by decide)⟩
  · rw [if_neg h0]
    by_cases h1 : kat B T q = 1
    · rw [if_pos h1, ← wnum_iff hn, n_eq (by omega) (by omega)]
      exact ⟨fun h => ⟨h1, h⟩, fun h => h.2⟩
    · rw [if_neg h1]
      refine ⟨fun h => ?_, fun h => absurd h.1 h1⟩
      split at h
      · exact absurd ((n_eq (a := 50) (by omega) (by omega)).mp h) (by omega)
      · have := sign_rg (B q)
        rw [h, q_nI (by omega)] at this
        omega
theorem kd_1 {b : Int32} (h : kd b = 1) : 97 ≤ b.toInt ∧ b.toInt ≤ 122 := by
  have e97 : (97 : Int32).toInt = 97 := rfl
  have e122 : (122 : Int32).toInt = 122 := rfl
  have k : ∀ b, kd2 b ≠ 1 := by
    intro b h
    unfold kd2 at h
    split at h
    · split at h <;> exact absurd h (by decide)
    · split at h
      · split at h <;> exact absurd h (by decide)
      · exact absurd h (by decide)
  unfold kd at h
  split at h
  · exact absurd h (k b)
  · rename_i h1
    split at h
    · exact absurd h (k b)
    · rename_i h2
      rw [q_lt] at h1 h2
      omega
theorem byte_at {S : zSt} {B : Nat → Int32} {T : Nat} (h : zTp S B T) {p : Nat} (hp : p < T) : f_Ta_byteAt (nI p) S = some (B p &&& 255) := by
  have hT := h.2.1
  have l : ¬ (400 : Int32) ≤ nI p := fun h => absurd ((n_le (a := 400) (by omega) (by omega)).mp h) (by omega)
  unfold f_Ta_byteAt
  rw [if_neg (n_neg (by omega)), h.1, if_neg (fun h => absurd ((n_le (by omega) (by omega)).mp h) (by omega)), if_neg l, n_gd (by omega) (by omega), q_cl (by omega), h.2.2 p hp]
theorem and_255 {b : Int32} (h : 0 ≤ b.toInt ∧ b.toInt ≤ 255) : b &&& 255 = b := by
  obtain ⟨n, rfl, hn, hb⟩ := q_ex h.1
  have : n < 256 := by omega
  rw [show (255 : Int32) = nI (2 ^ 8 - 1) from rfl, fa_mask, Nat.mod_eq_of_lt (by omega)]
theorem word_28 (fu j : Nat) (hj : j < 25) {S : zSt} {B : Nat → Int32} {T q : Nat} (h : zTp S B T) (h2 : zI S 44 2 = nI q) (hq : q + zSln.getD j 0 ≤ T) (hl : ∀ k, k < zSln.getD j 0 → kat B T (q + k) = 1) :
    ∀ n i, i ≤ zSln.getD j 0 → zSln.getD j 0 < n + i → (∀ k, k < i → B (q + k) = zSch j k) → f_Ta_isWord_28 fu j n (nI i) S = some (if ∀ k, k < zSln.getD j 0 → B (q + k) = zSch j k then 1 else 0) := by
  have hT := h.2.1
  intro n
  induction n with
  | zero => intro i h1 h3; omega
  | succ n ih =>
    intro i h1 h3 h4
    rw [f_Ta_isWord_28, show zSlen j = nI (zSln.getD j 0) from rfl]
    by_cases hi : i = zSln.getD j 0
    · rw [if_pos ((n_le (by omega) (by omega)).mpr (by omega)), if_pos (by rw [← hi]; exact h4)]
    · have hk := hl i (by omega)
      unfold kat at hk
      rw [if_pos (by omega)] at hk
      have hb := kd_1 hk
      rw [if_neg (fun h => absurd ((n_le (by omega) (by omega)).mp h) (by omega)), h2, n_add, qb1 (byte_at h (by omega)), and_255 (by omega), qgd ⟨n_0 (by omega), (n_lt (by omega) (by omega)).mpr (by omega)⟩, q_cl (by omega)]
      by_cases hc : B (q + i) = zSch j i
      · rw [if_pos hc, n_1]
        refine ih (i + 1) (by omega) (by omega) (fun k hk => ?_)
        by_cases h5 : k = i
        · rw [h5]; exact hc
        · exact h4 k (by omega)
      · rw [if_neg hc, if_neg (fun h => hc (h i (by omega)))]
theorem tEnd_kind {B : Nat → Int32} {T q : Nat} (hq : q ≤ T) (h1 : kat B T q ≠ 3) : ∀ k, q ≤ k → k < tEnd B T q → kat B T k = kat B T q := by
  intro k h5 h6
  unfold tEnd at h6
  rw [if_neg h1] at h6
  have := (sc_spec (isK B T (kat B T q)) T q hq).2.2.1 k h5 h6
  unfold isK at this
  simpa using this
theorem is_word (fu : Nat) (hfu : 500 ≤ fu) {S : zSt} {B : Nat → Int32} {T i : Nat} (h : zHd S B T i) {n j : Nat} (hn : n < 25) (hj : wj.getD n 0 = j) : f_Ta_isWord fu j S = some (if tC B T i = nI (n + 1) then 1 else 0) := by
  obtain ⟨ht, h2, h3, h4, h5⟩ := h
  have hq := tPos_le B T i
  have he := tEnd_le (B := B) hq
  have hT := ht.2.1
  have hj25 : j < 25 := by rw [← hj]; exact wj_lt n hn
  have hl7 : zSln.getD j 0 ≤ 7 := (by decide : ∀ j, j < 25 → zSln.getD j 0 ≤ 7) j hj25
  unfold f_Ta_isWord
  rw [h4, h2, h3]
  have key := tCq_word (B := B) (T := T) (q := tPos B T i) hn
  rw [hj] at key
  unfold tC
  generalize tPos B T i = q at *
  by_cases h1 : kat B T q = 1
  · rw [if_pos h1, n_sub he.1, show zSlen j = nI (zSln.getD j 0) from rfl]
    by_cases hl : tEnd B T q - q = zSln.getD j 0
    · rw [if_pos (by rw [hl])]
      have hk := tEnd_kind (B := B) hq (by rw [h1]; decide)
      have hw := word_28 fu j hj25 ht h2 (by omega) (fun k hk2 => (hk (q + k) (by omega) (by omega)).trans h1) fu 0 (by omega) (by omega) (fun k hk2 => by omega)
      rw [show (0 : Int32) = nI 0 from rfl, hw]
      by_cases hc : ∀ k, k < zSln.getD j 0 → B (q + k) = zSch j k
      · rw [if_pos hc, if_pos (key.mpr ⟨h1, hl, hc⟩)]
      · rw [if_neg hc, if_neg (fun h => hc (key.mp h).2.2)]; rfl
    · rw [if_neg (fun h => hl ((n_eq (by omega) (by omega)).mp h)), if_neg (fun h => hl (key.mp h).2.1)]
  · rw [if_neg h1, if_neg (fun h => h1 (key.mp h).1)]
theorem kat_or (B : Nat → Int32) (T q : Nat) : kat B T q = 0 ∨ kat B T q = 1 ∨ kat B T q = 2 ∨ kat B T q = 3 ∨ kat B T q = 4 := by
  unfold kat kd kd2
  repeat' split
  all_goals decide
theorem kat_lt {B : Nat → Int32} {T q : Nat} (h : kat B T q ≠ 0) : q < T := by
  refine Nat.lt_of_not_le (fun h2 => h ?_)
  unfold kat
  rw [if_neg (by omega)]
theorem tCq_sign {B : Nat → Int32} {T q c : Nat} (hc : c < 256) (h4 : kat B T q ≠ 4) : tCq B T q = nI (100 + c) ↔ kat B T q = 3 ∧ B q &&& 255 = nI c := by
  unfold tCq
  have hw := wnum_le B q (tEnd B T q)
  rcases kat_or B T q with h | h | h | h | h
  · rw [h, if_pos rfl]
    exact ⟨fun h => absurd ((n_eq (a := 0) (by omega) (by omega)).mp h) (by omega), fun h => absurd h.1 (by decide)⟩
  · rw [h, if_neg (by decide), if_pos rfl]
    exact ⟨fun h => absurd ((n_eq (by omega) (by omega)).mp h) (by omega), fun h => absurd h.1 (by decide)⟩
  · rw [h, if_neg (by decide), if_neg (by decide), if_pos rfl]
    exact ⟨fun h => absurd ((n_eq (a := 50) (by omega) (by omega)).mp h) (by omega), fun h => absurd h.1 (by decide)⟩
  · rw [h, if_neg (by decide), if_neg (by decide), if_neg (by decide), ← n_add]
    exact ⟨fun h => ⟨rfl, (Int32.add_right_inj _).mp h⟩, fun h => by rw [h.2]; rfl⟩
  · exact absurd h h4
theorem tPos_kind (B : Nat → Int32) (T i : Nat) : kat B T (tPos B T i) ≠ 4 := by
  have key : ∀ p, p ≤ T → kat B T (sc (isBl B T) T p) ≠ 4 := by
    intro p hp h
    have hlt := kat_lt (B := B) (T := T) (q := sc (isBl B T) T p) (by rw [h]; decide)
    have := (sc_spec (isBl B T) T p hp).2.2.2 hlt
    exact absurd h (of_decide_eq_false this)
  cases i with
  | zero => exact key 0 (Nat.zero_le _)
  | succ i => exact key _ (tEnd_le (tPos_le B T i)).2.1
theorem is_sign {S : zSt} {B : Nat → Int32} {T i c : Nat} (h : zHd S B T i) (hc : c < 256) : f_Ta_isSign (nI c) S = some (if tC B T i = nI (100 + c) then 1 else 0) := by
  obtain ⟨ht, h2, h3, h4, h5⟩ := h
  have hT := ht.2.1
  have key := tCq_sign (B := B) (T := T) (q := tPos B T i) hc (tPos_kind B T i)
  unfold f_Ta_isSign tC
  rw [h4, h2]
  generalize tPos B T i = q at *
  by_cases k3 : kat B T q = 3
  · rw [if_pos k3, qb1 (byte_at ht (kat_lt (by rw [k3]; decide)))]
    by_cases hb : B q &&& 255 = nI c
    · rw [if_pos hb, if_pos (key.mpr ⟨k3, hb⟩)]
    · rw [if_neg hb, if_neg (fun h => hb (key.mp h).2)]
  · rw [if_neg k3, if_neg (fun h => k3 (key.mp h).1)]
/-- the number of a token: what the class has at hand -/
def tV (B : Nat → Int32) (T i : Nat) : Int32 := tNum B T (tPos B T i)
theorem tCq_num {B : Nat → Int32} {T q : Nat} (h4 : kat B T q ≠ 4) : tCq B T q = 50 ↔ kat B T q = 2 := by
  unfold tCq
  have hw := wnum_le B q (tEnd B T q)
  rcases kat_or B T q with h | h | h | h | h
  · rw [h, if_pos rfl]
    exact ⟨fun h => absurd h (by decide), fun h => absurd h (by decide)⟩
  · rw [h, if_neg (by decide), if_pos rfl]
    exact ⟨fun h => absurd ((n_eq (b := 50) (by omega) (by omega)).mp h) (by omega), fun h => absurd h (by decide)⟩
  · rw [h, if_neg (by decide), if_neg (by decide), if_pos rfl]
    exact ⟨fun _ => rfl, fun _ => rfl⟩
  · rw [h, if_neg (by decide), if_neg (by decide), if_neg (by decide)]
    refine ⟨fun h => ?_, fun h => absurd h (by decide)⟩
    have := sign_rg (B q)
    rw [h] at this
    exact absurd this (by decide)
  · exact absurd h h4
theorem is_number {S : zSt} {B : Nat → Int32} {T i : Nat} (h : zHd S B T i) : f_Ta_isNumber S = some (if tC B T i = 50 ∧ tV B T i ≤ 1000 then 1 else 0) := by
  obtain ⟨ht, h2, h3, h4, h5⟩ := h
  have key := tCq_num (B := B) (T := T) (q := tPos B T i) (tPos_kind B T i)
  unfold f_Ta_isNumber tC tV
  rw [h4, h5]
  by_cases k : kat B T (tPos B T i) = 2
  · rw [if_pos k]
    by_cases hv : tNum B T (tPos B T i) ≤ 1000
    · rw [if_neg (fun h => by rw [q_lt] at h; rw [q_le] at hv; omega), if_pos ⟨key.mpr k, hv⟩]
    · rw [if_pos (by rw [q_lt]; rw [q_le] at hv; omega), if_neg (fun h => hv h.2)]
  · rw [if_neg k, if_neg (fun h => k (key.mp h.1))]
/-- taking a word or a sign -/
theorem take_word (fu : Nat) (hfu : 500 ≤ fu) {S : zSt} {B : Nat → Int32} {T i : Nat} (h : zHd S B T i) {n j : Nat} (hn : n < 25) (hj : wj.getD n 0 = j) :
    (tC B T i = nI (n + 1) → f_Ta_takeWord fu j S = some (1, zTk S B T (tPos B T (i + 1))) ∧ zHd (zTk S B T (tPos B T (i + 1))) B T (i + 1)) ∧ (tC B T i ≠ nI (n + 1) → f_Ta_takeWord fu j S = some (0, S)) := by
  have hw := is_word fu hfu h hn hj
  constructor
  · intro hc
    obtain ⟨h1, h2⟩ := next_at fu hfu h
    refine ⟨?_, h2⟩
    unfold f_Ta_takeWord
    rw [qb1 hw, if_pos hc, if_neg (by decide), qb1 h1, qgd (by decide)]
  · intro hc
    unfold f_Ta_takeWord
    rw [qb1 hw, if_neg hc, if_pos rfl, qgd (by decide)]
theorem take_sign (fu : Nat) (hfu : 500 ≤ fu) {S : zSt} {B : Nat → Int32} {T i c : Nat} (h : zHd S B T i) (hc : c < 256) :
    (tC B T i = nI (100 + c) → f_Ta_takeSign fu (nI c) S = some (1, zTk S B T (tPos B T (i + 1))) ∧ zHd (zTk S B T (tPos B T (i + 1))) B T (i + 1)) ∧ (tC B T i ≠ nI (100 + c) → f_Ta_takeSign fu (nI c) S = some (0, S)) := by
  have hw := is_sign h hc
  constructor
  · intro hc
    obtain ⟨h1, h2⟩ := next_at fu hfu h
    refine ⟨?_, h2⟩
    unfold f_Ta_takeSign
    rw [qb1 hw, if_pos hc, if_neg (by decide), qb1 h1, qgd (by decide)]
  · intro hc
    unfold f_Ta_takeSign
    rw [qb1 hw, if_neg hc, if_pos rfl, qgd (by decide)]

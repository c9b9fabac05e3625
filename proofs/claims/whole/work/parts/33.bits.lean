/-! mud as nibbles of a long, what is shut as its bits -/
def bL (x : Int64) (i : Nat) : Bool := x.toBitVec.getLsbD i
theorem bL_and (x y : Int64) (i : Nat) : bL (x &&& y) i = (bL x i && bL y i) := by unfold bL; rw [Int64.toBitVec_and, BitVec.getLsbD_and]
theorem bL_or (x y : Int64) (i : Nat) : bL (x ||| y) i = (bL x i || bL y i) := by unfold bL; rw [Int64.toBitVec_or, BitVec.getLsbD_or]
theorem bL_xor (x y : Int64) (i : Nat) : bL (x ^^^ y) i = (bL x i ^^ bL y i) := by unfold bL; rw [Int64.toBitVec_xor, BitVec.getLsbD_xor]
theorem bL_big {x : Int64} {i : Nat} (h : 64 ≤ i) : bL x i = false := BitVec.getLsbD_of_ge _ _ h
theorem bL_m1 : ∀ i, i < 64 → bL (-1) i = true := by decide +kernel
theorem bL_0 (i : Nat) : bL 0 i = false := BitVec.getLsbD_zero
theorem bL_ext {x y : Int64} (h : ∀ i, i < 64 → bL x i = bL y i) : x = y := Int64.toBitVec_inj.mp (BitVec.eq_of_getLsbD_eq (fun i hi => h i hi))
theorem bL_sl : ∀ n, n < 64 → (((nI n).toInt64 &&& 63).toBitVec.smod 64).toNat = n := by decide +kernel
theorem bL_su : ∀ n, n < 64 → (((nI n).toInt64.toUInt64 &&& Int64.toUInt64 63).toBitVec % 64).toNat = n := by decide +kernel
theorem bL_shl (x : Int64) {k i : Nat} (hk : k < 64) (hi : i < 64) : bL (x <<< ((nI k).toInt64 &&& 63)) i = (decide (k ≤ i) && bL x (i - k)) := by
  unfold bL
  rw [Int64.toBitVec_shiftLeft]
  show (x.toBitVec <<< (((nI k).toInt64 &&& 63).toBitVec.smod 64).toNat).getLsbD i = _
  rw [bL_sl k hk, BitVec.getLsbD_shiftLeft]
  rcases Nat.lt_or_ge i k with h | h
  · simp [h, Nat.not_le.mpr h]
  · simp [hi, h, Nat.not_lt.mpr h]
theorem bL_ushr (x : Int64) {k : Nat} (hk : k < 64) (i : Nat) : bL ((x.toUInt64 >>> ((nI k).toInt64.toUInt64 &&& Int64.toUInt64 63)).toInt64) i = bL x (k + i) := by
  show (x.toUInt64 >>> ((nI k).toInt64.toUInt64 &&& Int64.toUInt64 63)).toBitVec.getLsbD i = x.toUInt64.toBitVec.getLsbD (k + i)
  rw [UInt64.toBitVec_shiftRight]
  show (x.toUInt64.toBitVec >>> (((nI k).toInt64.toUInt64 &&& Int64.toUInt64 63).toBitVec % 64).toNat).getLsbD i = _
  rw [bL_su k hk, BitVec.getLsbD_ushiftRight]
theorem bt_l2i (x : Int64) {i : Nat} (hi : i < 32) : bt x.toInt32 i = bL x i := by
  unfold bt bL
  show (x.toBitVec.signExtend 32).getLsbD i = _
  rw [BitVec.getLsbD_signExtend]
  simp [hi]
  omega
theorem bL_i2l (x : Int32) {i : Nat} (hi : i < 32) : bL x.toInt64 i = bt x i := by
  unfold bt bL
  show (x.toBitVec.signExtend 64).getLsbD i = _
  rw [BitVec.getLsbD_signExtend]
  simp [hi]
  omega
theorem bt_15 (i : Nat) : bt 15 i = decide (i < 4) := by
  rcases Nat.lt_or_ge i 32 with h | h
  · exact (by decide +kernel : ∀ i, i < 32 → bt 15 i = decide (i < 4)) i h
  · rw [b_big h, decide_eq_false (by omega)]
theorem bL_15 (i : Nat) : bL 15 i = decide (i < 4) := by
  rcases Nat.lt_or_ge i 64 with h | h
  · exact (by decide +kernel : ∀ i, i < 64 → bL 15 i = decide (i < 4)) i h
  · rw [bL_big h, decide_eq_false (by omega)]
theorem bL_1 (i : Nat) : bL 1 i = decide (i = 0) := by
  rcases Nat.lt_or_ge i 64 with h | h
  · exact (by decide +kernel : ∀ i, i < 64 → bL 1 i = decide (i = 0)) i h
  · rw [bL_big h, decide_eq_false (by omega)]
theorem n4 (s : Nat) : (4 : Int32) * nI s = nI (4 * s) := (Int32.ofNat_mul 4 s).symm
/-- the nibble of a spring -/
def nib (x : Int64) (s : Nat) : Int32 := ((x.toUInt64 >>> (((4 : Int32) * nI s).toInt64.toUInt64 &&& Int64.toUInt64 63)).toInt64).toInt32 &&& 15
theorem nib_bt (x : Int64) {s i : Nat} (hs : s < 16) (hi : i < 32) : bt (nib x s) i = (decide (i < 4) && bL x (4 * s + i)) := by
  unfold nib
  rw [b_and, bt_15, n4, bt_l2i _ hi, bL_ushr _ (by omega), Bool.and_comm]
theorem nib_ext {x y : Int64} {s t : Nat} (hs : s < 16) (ht : t < 16) (h : ∀ i, i < 4 → bL x (4 * s + i) = bL y (4 * t + i)) : nib x s = nib y t := by
  apply b_ext
  intro i hi
  rw [nib_bt x hs hi, nib_bt y ht hi]
  by_cases h4 : i < 4
  · rw [h i h4]
  · simp [h4]
def nibS (x : Int64) (s : Nat) (v : Int32) : Int64 := (x &&& (((15 : Int64) <<< (((4 : Int32) * nI s).toInt64 &&& 63)) ^^^ (-1 : Int64))) ||| (v.toInt64 <<< (((4 : Int32) * nI s).toInt64 &&& 63))
theorem bt_small {v : Int32} (h0 : 0 ≤ v.toInt) (h9 : v.toInt < 16) : ∀ i, 4 ≤ i → i < 32 → bt v i = false := by
  obtain ⟨n, rfl, hn, hb⟩ := q_ex h0
  have : n < 16 := by rw [← hn] at h9; omega
  exact fun i h4 hi => (by decide +kernel : ∀ n, n < 16 → ∀ i, i < 32 → 4 ≤ i → bt (nI n) i = false) n this i hi h4
theorem bL_small {v : Int32} (h0 : 0 ≤ v.toInt) (h9 : v.toInt < 16) {i : Nat} (hi : i < 64) : bL v.toInt64 i = (decide (i < 4) && bt v i) := by
  obtain ⟨n, rfl, hn, hb⟩ := q_ex h0
  have : n < 16 := by rw [← hn] at h9; omega
  exact (by decide +kernel : ∀ n, n < 16 → ∀ i, i < 64 → bL (nI n).toInt64 i = (decide (i < 4) && bt (nI n) i)) n this i hi
theorem bL_nibS (x : Int64) {s j : Nat} {v : Int32} (hs : s < 9) (hj : j < 36) (h0 : 0 ≤ v.toInt) (h9 : v.toInt < 16) : bL (nibS x s v) j = if 4 * s ≤ j ∧ j < 4 * s + 4 then bt v (j - 4 * s) else bL x j := by
  unfold nibS
  rw [bL_or, bL_and, bL_xor, n4, bL_shl _ (by omega) (by omega), bL_shl _ (by omega) (by omega), bL_m1 j (by omega), bL_15]
  by_cases h1 : 4 * s ≤ j
  · rw [bL_small h0 h9 (by omega)]
    by_cases h2 : j < 4 * s + 4
    · have h3 : j - 4 * s < 4 := by omega
      simp [h1, h2, h3]
    · have h3 : ¬ j - 4 * s < 4 := by omega
      simp [h1, h2, h3]
  · simp [h1]
theorem nib_same (x : Int64) {s : Nat} {v : Int32} (hs : s < 9) (h0 : 0 ≤ v.toInt) (h9 : v.toInt < 16) : nib (nibS x s v) s = v := by
  apply b_ext
  intro i hi
  rw [nib_bt _ (by omega) hi]
  by_cases h4 : i < 4
  · rw [bL_nibS x hs (by omega) h0 h9, if_pos (by omega), Nat.add_sub_cancel_left]
    simp [h4]
  · rw [bt_small h0 h9 i (by omega) hi]
    simp [h4]
theorem nib_other (x : Int64) {s t : Nat} {v : Int32} (hs : s < 9) (ht : t < 9) (hne : s ≠ t) (h0 : 0 ≤ v.toInt) (h9 : v.toInt < 16) : nib (nibS x s v) t = nib x t := by
  refine nib_ext (by omega) (by omega) (fun i hi => ?_)
  rw [bL_nibS x hs (by omega) h0 h9, if_neg (by omega)]
/-- nibbles put together from 0: what nextDay() does -/
theorem bL_nibO (x : Int64) {s j : Nat} {v : Int32} (hs : s < 9) (hj : j < 36) (h0 : 0 ≤ v.toInt) (h9 : v.toInt < 16) (hx : ∀ j, 4 * s ≤ j → bL x j = false) : bL (x ||| (v.toInt64 <<< (((4 : Int32) * nI s).toInt64 &&& 63))) j = if 4 * s ≤ j ∧ j < 4 * s + 4 then bt v (j - 4 * s) else bL x j := by
  rw [bL_or, n4, bL_shl _ (by omega) (by omega)]
  by_cases h1 : 4 * s ≤ j
  · rw [bL_small h0 h9 (by omega), hx j h1]
    by_cases h2 : j < 4 * s + 4
    · have h3 : j - 4 * s < 4 := by omega
      simp [h1, h2, h3]
    · have h3 : ¬ j - 4 * s < 4 := by omega
      simp [h1, h2, h3]
  · simp [h1]
/-! shut -/
theorem q_lcmp0 (x y : Int64) : lg_cmp x y = 0 ↔ x = y := by
  unfold lg_cmp
  split
  · rename_i h
    constructor
    · intro h2; exact absurd h2 (by decide)
    · intro h2; rw [h2] at h; exact absurd h (by simp)
  · split
    · rename_i h1 h2
      exact ⟨fun _ => by simpa using h2, fun _ => rfl⟩
    · rename_i h1 h2
      constructor
      · intro h3; exact absurd h3 (by decide)
      · intro h3; exact absurd h3 (by simpa using h2)

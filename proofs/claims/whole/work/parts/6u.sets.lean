/-! sets of springs as bits -/
theorem bt_1 : ∀ i, i < 32 → bt 1 i = decide (i = 0) := by decide +kernel
theorem bt_bit {s : Nat} (hs : s < 32) {i : Nat} (hi : i < 32) : bt ((1 : Int32) <<< (nI s &&& 31)) i = decide (i = s) := by
  rw [b_shl s hs _ hi, bt_1 _ (by omega)]
  by_cases h : i = s
  · rw [h]; simp
  · by_cases h2 : s ≤ i
    · have : ¬ i - s = 0 := by omega
      simp [h, this]
    · simp [h, h2]
theorem inS_bt (set : Int32) {s : Nat} (hs : s < 32) : inS set s = bt set s := by
  unfold inS
  have e : ∀ i, i < 32 → bt ((set >>> (nI s &&& 31)) &&& 1) i = (decide (i = 0) && bt set s) := fun i hi => by
    rw [b_and, b_sshr s hs _ hi, bt_1 i hi, Bool.and_comm]
    by_cases h : i = 0
    · rw [h, if_pos (by omega), Nat.add_zero]
    · simp [h]
  cases h : bt set s with
  | true =>
    refine decide_eq_true (b_ext (fun i hi => ?_))
    rw [e i hi, h, bt_1 i hi, Bool.and_true]
  | false =>
    refine decide_eq_false (fun h2 => ?_)
    have := e 0 (by omega)
    rw [h2, bt_1 0 (by omega), h] at this
    cases this
theorem ogP_bt (P : zP) {i : Nat} (hi : i < 32) : ∀ n, n ≤ 9 → bt (ogP P n) i = (decide (i < n) && (stA P i).isSome) := by
  intro n
  induction n with
  | zero => intro _; show bt 0 i = _; rw [b_0]; simp
  | succ n ih =>
    intro hn
    have es : ogP P (n + 1) = if (stA P n).isSome = true then ogP P n ||| ((1 : Int32) <<< (nI n &&& 31)) else ogP P n := rfl
    have ih' := ih (by omega)
    rw [es]
    by_cases c : (stA P n).isSome = true
    · rw [if_pos c, b_or, bt_bit (by omega) hi, ih']
      by_cases e : i = n
      · rw [e, c]; simp
      · rw [decide_eq_false e, Bool.or_false]
        congr 1
        by_cases e2 : i < n
        · rw [decide_eq_true e2, decide_eq_true (show i < n + 1 by omega)]
        · rw [decide_eq_false e2, decide_eq_false (show ¬ i < n + 1 by omega)]
    · rw [if_neg c, ih']
      by_cases e : i = n
      · rw [e, show (stA P n).isSome = false by revert c; cases (stA P n).isSome <;> simp]; simp
      · congr 1
        by_cases e2 : i < n
        · rw [decide_eq_true e2, decide_eq_true (show i < n + 1 by omega)]
        · rw [decide_eq_false e2, decide_eq_false (show ¬ i < n + 1 by omega)]
theorem ogP_in {P : zP} (hP : pOK P) {a : Nat} (ha : a < pN P) : inS (ogP P (pN P)) a = (stA P a).isSome := by
  have h9 := hP.1
  rw [inS_bt _ (by omega), ogP_bt P (by omega) _ h9, decide_eq_true ha, Bool.true_and]
/-- one spring out of a set -/
theorem bt_out (set : Int32) {s : Nat} (hs : s < 32) {i : Nat} (hi : i < 32) : bt (set &&& (((1 : Int32) <<< (nI s &&& 31)) ^^^ (-1 : Int32))) i = (bt set i && decide (i ≠ s)) := by
  rw [b_and, b_xor, bt_bit hs hi, b_m1 i hi]
  by_cases h : i = s
  · simp [h]
  · simp [h]
theorem ogP_0 {P : zP} (hP : pOK P) (h : ∀ a, a < pN P → stA P a = none) : ogP P (pN P) = 0 := by
  have h9 := hP.1
  apply b_ext
  intro i hi
  rw [ogP_bt P hi _ h9, b_0]
  by_cases c : i < pN P
  · rw [h i c]; simp
  · simp [c]
theorem ogP_n0 {P : zP} (hP : pOK P) {a : Nat} (ha : a < pN P) {v : Nat} (h : stA P a = some v) : ogP P (pN P) ≠ 0 := by
  have h9 := hP.1
  intro e
  have := ogP_bt P (i := a) (by omega) _ h9
  rw [e, b_0, decide_eq_true ha, h] at this
  cases this

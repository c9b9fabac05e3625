/-! pure: reading what was written; small numbers -/
theorem qII (S : zSt) (i k j l : Nat) (v : Int32) : zI (zwI S i k v) j l = if j = i ∧ l = k then v else zI S j l := rfl
theorem qIL (S : zSt) (i k : Nat) (v : Int64) : zI (zwL S i k v) = zI S := rfl
theorem qIR (S : zSt) (i k : Nat) (v : Option Nat) : zI (zwR S i k v) = zI S := rfl
theorem qLI (S : zSt) (i k : Nat) (v : Int32) : zL (zwI S i k v) = zL S := rfl
theorem qLL (S : zSt) (i k j l : Nat) (v : Int64) : zL (zwL S i k v) j l = if j = i ∧ l = k then v else zL S j l := rfl
theorem qLR (S : zSt) (i k : Nat) (v : Option Nat) : zL (zwR S i k v) = zL S := rfl
theorem qRI (S : zSt) (i k : Nat) (v : Int32) : zR (zwI S i k v) = zR S := rfl
theorem qRL (S : zSt) (i k : Nat) (v : Int64) : zR (zwL S i k v) = zR S := rfl
theorem qRR (S : zSt) (i k j l : Nat) (v : Option Nat) : zR (zwR S i k v) j l = if j = i ∧ l = k then v else zR S j l := rfl
theorem qNI (S : zSt) (i k : Nat) (v : Int32) : zN (zwI S i k v) = zN S := rfl
theorem qNL (S : zSt) (i k : Nat) (v : Int64) : zN (zwL S i k v) = zN S := rfl
theorem qNR (S : zSt) (i k : Nat) (v : Option Nat) : zN (zwR S i k v) = zN S := rfl
theorem qAI (S : zSt) (i k : Nat) (v : Int32) : zA (zwI S i k v) = zA S := rfl
theorem qAL (S : zSt) (i k : Nat) (v : Int64) : zA (zwL S i k v) = zA S := rfl
theorem qAR (S : zSt) (i k : Nat) (v : Option Nat) : zA (zwR S i k v) = zA S := rfl
theorem qgd {α : Type} {c : Prop} [Decidable c] {A : Option α} (h : c) : zgd c A = A := if_pos h
theorem qb1 {α β : Type} {x : Option α} {k : α → Option β} {a : α} (h : x = some a) : zb1 x k = k a := by rw [h]; rfl
theorem qb2 {α β : Type} {x : Option (α × zSt)} {k : α → zSt → Option β} {a : α} {S : zSt} (h : x = some (a, S)) : zb2 x k = k a S := by rw [h]; rfl
theorem qb1s {α β : Type} (k : α → Option β) (a : α) : zb1 (some a) k = k a := rfl
theorem qb2s {α β : Type} (k : α → zSt → Option β) (a : α) (S : zSt) : zb2 (some (a, S)) k = k a S := rfl
/-! numbers -/
theorem q_lt {a b : Int32} : a < b ↔ a.toInt < b.toInt := Int32.lt_iff_toInt_lt
theorem q_le {a b : Int32} : a ≤ b ↔ a.toInt ≤ b.toInt := Int32.le_iff_toInt_le
theorem q_eq {a b : Int32} : a = b ↔ a.toInt = b.toInt := Int32.toInt_inj.symm
theorem q_ne {a b : Int32} : a ≠ b ↔ a.toInt ≠ b.toInt := by rw [Ne, q_eq]
theorem q_rg (a : Int32) : -2147483648 ≤ a.toInt ∧ a.toInt < 2147483648 := by
  have h1 := Int32.le_toInt a
  have h2 := Int32.toInt_lt a
  omega
theorem q_add {a b : Int32} (h : -2147483648 ≤ a.toInt + b.toInt ∧ a.toInt + b.toInt < 2147483648) : (a + b).toInt = a.toInt + b.toInt := by
  rw [Int32.toInt_add]
  exact Int.bmod_eq_of_le (by omega) (by omega)
theorem q_sub {a b : Int32} (h : -2147483648 ≤ a.toInt - b.toInt ∧ a.toInt - b.toInt < 2147483648) : (a - b).toInt = a.toInt - b.toInt := by
  rw [Int32.toInt_sub]
  exact Int.bmod_eq_of_le (by omega) (by omega)
theorem q_mul {a b : Int32} (h : -2147483648 ≤ a.toInt * b.toInt ∧ a.toInt * b.toInt < 2147483648) : (a * b).toInt = a.toInt * b.toInt := by
  rw [Int32.toInt_mul]
  exact Int.bmod_eq_of_le (by omega) (by omega)
theorem q_nat {a : Int32} (h : 0 ≤ a.toInt) : ((a.toNatClampNeg : Nat) : Int) = a.toInt := by
  show ((a.toInt.toNat : Nat) : Int) = a.toInt
  omega
theorem q_nI {n : Nat} (h : n < 2 ^ 31) : (nI n).toInt = (n : Int) := nI_toInt h
theorem q_of {a : Int32} (h : 0 ≤ a.toInt) : a = nI a.toInt.toNat := by
  have h2 := (q_rg a).2
  rw [q_eq, q_nI (by omega)]
  omega
theorem q_ex {a : Int32} (h : 0 ≤ a.toInt) : ∃ n : Nat, a = nI n ∧ (n : Int) = a.toInt ∧ n < 2 ^ 31 := by
  have h2 := (q_rg a).2
  exact ⟨a.toInt.toNat, q_of h, by omega, by omega⟩
theorem q_cl {n : Nat} (h : n < 2 ^ 31) : (nI n).toNatClampNeg = n := nI_clamp h

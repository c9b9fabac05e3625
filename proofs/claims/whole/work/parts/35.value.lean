/-! longs as integers; the class's code on a stack -/
theorem w_rg (a : Int64) : -9223372036854775808 ≤ a.toInt ∧ a.toInt < 9223372036854775808 := by
  have h1 := Int64.le_toInt a
  have h2 := Int64.toInt_lt a
  omega
theorem w_of {z : Int} (h : -9223372036854775808 ≤ z ∧ z < 9223372036854775808) : (Int64.ofInt z).toInt = z := Int64.toInt_ofInt_of_le (by omega) (by omega)
theorem w_inj {y z : Int} (hy : -9223372036854775808 ≤ y ∧ y < 9223372036854775808) (hz : -9223372036854775808 ≤ z ∧ z < 9223372036854775808) : Int64.ofInt y = Int64.ofInt z ↔ y = z := by
  rw [← Int64.toInt_inj, w_of hy, w_of hz]
theorem w_as (a : Int32) : a.toInt64 = Int64.ofInt a.toInt := (Int64.ofInt_int32ToInt a).symm
theorem w_cmp0 {y z : Int} (hy : -9223372036854775808 ≤ y ∧ y < 9223372036854775808) (hz : -9223372036854775808 ≤ z ∧ z < 9223372036854775808) : lg_cmp (Int64.ofInt y) (Int64.ofInt z) = 0 ↔ y = z := by
  rw [q_lcmp0, w_inj hy hz]
theorem w_cmp {y z : Int} (hy : -9223372036854775808 ≤ y ∧ y < 9223372036854775808) (hz : -9223372036854775808 ≤ z ∧ z < 9223372036854775808) : lg_cmp (Int64.ofInt y) (Int64.ofInt z) = if z < y then 1 else if y = z then 0 else -1 := by
  unfold lg_cmp
  have h1 : (Int64.ofInt y > Int64.ofInt z) ↔ z < y := by
    show Int64.ofInt z < Int64.ofInt y ↔ _
    rw [Int64.lt_iff_toInt_lt, w_of hy, w_of hz]
  have h2 : (Int64.ofInt y = Int64.ofInt z) ↔ y = z := w_inj hy hz
  by_cases a : z < y
  · rw [if_pos (h1.mpr a), if_pos a]
  · rw [if_neg (fun h => a (h1.mp h)), if_neg a]
    by_cases b : y = z
    · rw [if_pos (h2.mpr b), if_pos b]
    · rw [if_neg (fun h => b (h2.mp h)), if_neg b]
theorem w_gt {y z : Int} (hy : -9223372036854775808 ≤ y ∧ y < 9223372036854775808) (hz : -9223372036854775808 ≤ z ∧ z < 9223372036854775808) : 0 < lg_cmp (Int64.ofInt y) (Int64.ofInt z) ↔ z < y := by
  rw [w_cmp hy hz]
  by_cases a : z < y
  · rw [if_pos a]; exact ⟨fun _ => a, fun _ => by decide⟩
  · rw [if_neg a]
    by_cases b : y = z
    · rw [if_pos b]; exact ⟨fun h => absurd h (by decide), fun h => absurd h a⟩
    · rw [if_neg b]; exact ⟨fun h => absurd h (by decide), fun h => absurd h a⟩
theorem w_ge {y z : Int} (hy : -9223372036854775808 ≤ y ∧ y < 9223372036854775808) (hz : -9223372036854775808 ≤ z ∧ z < 9223372036854775808) : 0 ≤ lg_cmp (Int64.ofInt y) (Int64.ofInt z) ↔ z ≤ y := by
  rw [w_cmp hy hz]
  by_cases a : z < y
  · rw [if_pos a]; exact ⟨fun _ => by omega, fun _ => by decide⟩
  · rw [if_neg a]
    by_cases b : y = z
    · rw [if_pos b]; exact ⟨fun _ => by omega, fun _ => by decide⟩
    · rw [if_neg b]; exact ⟨fun h => absurd h (by decide), fun h => by omega⟩
theorem w_le {y z : Int} (hy : -9223372036854775808 ≤ y ∧ y < 9223372036854775808) (hz : -9223372036854775808 ≤ z ∧ z < 9223372036854775808) : lg_cmp (Int64.ofInt y) (Int64.ofInt z) ≤ 0 ↔ y ≤ z := by
  rw [w_cmp hy hz]
  by_cases a : z < y
  · rw [if_pos a]; exact ⟨fun h => absurd h (by decide), fun h => by omega⟩
  · rw [if_neg a]
    by_cases b : y = z
    · rw [if_pos b]; exact ⟨fun _ => by omega, fun _ => by decide⟩
    · rw [if_neg b]; exact ⟨fun _ => by omega, fun _ => by decide⟩
theorem w_div {y z : Int} (hy : -4700000000000000000 ≤ y ∧ y ≤ 4700000000000000000) (hz : -4700000000000000000 ≤ z ∧ z ≤ 4700000000000000000) : Int64.ofInt y / Int64.ofInt z = Int64.ofInt (y.tdiv z) := by
  have m1 : Int64.minValue.toInt = -9223372036854775808 := by decide
  have m2 : Int64.maxValue.toInt = 9223372036854775807 := by decide
  exact (Int64.ofInt_tdiv (a := y) (b := z) (by rw [m1]; omega) (by rw [m2]; omega) (by rw [m1]; omega) (by rw [m2]; omega)).symm
theorem tdiv_rg {y z : Int} (hy : -4700000000000000000 ≤ y ∧ y ≤ 4700000000000000000) : -4700000000000000000 ≤ y.tdiv z ∧ y.tdiv z ≤ 4700000000000000000 := by
  have := Int.natAbs_tdiv_le_natAbs y z
  omega
theorem w_rem {y z : Int} (hy : -4700000000000000000 ≤ y ∧ y ≤ 4700000000000000000) (hz : -4700000000000000000 ≤ z ∧ z ≤ 4700000000000000000) : Int64.ofInt y - Int64.ofInt y / Int64.ofInt z * Int64.ofInt z = Int64.ofInt (y.tmod z) := by
  rw [w_div hy hz, ← Int64.ofInt_mul, ← Int64.ofInt_sub]
  congr 1
  have := Int.tmod_add_tdiv_mul y z
  omega
/-- broken, as the class tells it -/
def xB : Int64 := -9000000000000000000
theorem xB_i : xB = Int64.ofInt (-9000000000000000000) := by decide +kernel
def xE (r : Option Int) : Int64 := match r with
  | none => xB
  | some v => Int64.ofInt v
theorem f_joined144 {z : Int} (h : -9000000000000000000 ≤ z ∧ z ≤ 9000000000000000000) : f_Tx_joined_144 (Int64.ofInt z) = some (xE (lbd z)) := by
  unfold f_Tx_joined_144 lbd
  have e1 : (1000000000 : Int64) = Int64.ofInt 1000000000 := by decide +kernel
  have e2 : (-1000000000 : Int64) = Int64.ofInt (-1000000000) := by decide +kernel
  rw [e2, e1]
  have h1 := w_gt (y := z) (z := 1000000000) (by omega) (by omega)
  have h2 := w_ge (y := z) (z := -1000000000) (by omega) (by omega)
  by_cases a : 1000000000 < z
  · rw [if_pos (h1.mpr a), if_pos (Or.inl a)]; rfl
  · rw [if_neg (fun h => a (h1.mp h))]
    by_cases b : -1000000000 ≤ z
    · rw [if_pos (h2.mpr b), if_neg (by omega)]; rfl
    · rw [if_neg (fun h => b (h2.mp h)), if_pos (by omega)]; rfl
/-- what two numbers give -/
def xop (w : Int32) (x y : Int) : Option Int :=
  if w = 10 then some (if x < y then 1 else 0) else if w = 11 then some (if y < x then 1 else 0) else if w = 12 then some (if x = y then 1 else 0) else lop w.toNatClampNeg x y
theorem fj5 (a b : Int64) : f_Tx_joined 5 a b = f_Tx_joined_144 (a + b) := by unfold f_Tx_joined; rw [if_pos rfl]
theorem fj6 (a b : Int64) : f_Tx_joined 6 a b = f_Tx_joined_144 (a - b) := by unfold f_Tx_joined; rw [if_neg (by decide), if_pos rfl]
theorem fj7 (a b : Int64) : f_Tx_joined 7 a b = f_Tx_joined_144 (a * b) := by unfold f_Tx_joined; rw [if_neg (by decide), if_neg (by decide), if_pos rfl]
theorem fj8 (a b : Int64) : f_Tx_joined 8 a b = if lg_cmp b (0 : Int64) = 0 then f_Tx_joined_144 (-9000000000000000000 : Int64) else zgd (¬ b = 0) (f_Tx_joined_144 (a / b)) := by unfold f_Tx_joined; rw [if_neg (by decide), if_neg (by decide), if_neg (by decide), if_pos rfl]
theorem fj9 (a b : Int64) : f_Tx_joined 9 a b = if lg_cmp b (0 : Int64) = 0 then f_Tx_joined_144 (-9000000000000000000 : Int64) else zgd (¬ b = 0) (f_Tx_joined_144 (a - a / b * b)) := by unfold f_Tx_joined; rw [if_neg (by decide), if_neg (by decide), if_neg (by decide), if_neg (by decide), if_pos rfl]
theorem fj10 (a b : Int64) : f_Tx_joined 10 a b = if 0 ≤ lg_cmp a b then some (0 : Int64) else some (1 : Int64) := by unfold f_Tx_joined; rw [if_neg (by decide), if_neg (by decide), if_neg (by decide), if_neg (by decide), if_neg (by decide), if_pos rfl]
theorem fj11 (a b : Int64) : f_Tx_joined 11 a b = if lg_cmp a b ≤ 0 then some (0 : Int64) else some (1 : Int64) := by unfold f_Tx_joined; rw [if_neg (by decide), if_neg (by decide), if_neg (by decide), if_neg (by decide), if_neg (by decide), if_neg (by decide), if_pos rfl]
theorem fj12 (a b : Int64) : f_Tx_joined 12 a b = if lg_cmp a b = 0 then some (1 : Int64) else some (0 : Int64) := by unfold f_Tx_joined; rw [if_neg (by decide), if_neg (by decide), if_neg (by decide), if_neg (by decide), if_neg (by decide), if_neg (by decide), if_neg (by decide)]
theorem xop5 (x y : Int) : xop 5 x y = lbd (x + y) := rfl
theorem xop6 (x y : Int) : xop 6 x y = lbd (x - y) := rfl
theorem xop7 (x y : Int) : xop 7 x y = lbd (x * y) := rfl
theorem xop8 (x y : Int) : xop 8 x y = if y = 0 then none else lbd (x.tdiv y) := rfl
theorem xop9 (x y : Int) : xop 9 x y = if y = 0 then none else lbd (x.tmod y) := rfl
theorem xop10 (x y : Int) : xop 10 x y = some (if x < y then 1 else 0) := rfl
theorem xop11 (x y : Int) : xop 11 x y = some (if y < x then 1 else 0) := rfl
theorem xop12 (x y : Int) : xop 12 x y = some (if x = y then 1 else 0) := rfl
theorem xEn : xE none = (-9000000000000000000 : Int64) := rfl
theorem xE1 : xE (some 1) = (1 : Int64) := by decide +kernel
theorem xE0 : xE (some 0) = (0 : Int64) := by decide +kernel
theorem prod_rg {x y : Int} (hx : -2147490000 ≤ x ∧ x ≤ 2147490000) (hy : -2147490000 ≤ y ∧ y ≤ 2147490000) : -4700000000000000000 ≤ x * y ∧ x * y ≤ 4700000000000000000 := by
  have h1 : (x * y).natAbs = x.natAbs * y.natAbs := Int.natAbs_mul x y
  have h2 : x.natAbs * y.natAbs ≤ 2147490000 * 2147490000 := Nat.mul_le_mul (by omega) (by omega)
  rw [← h1] at h2
  generalize x * y = z at *
  clear h1 hx hy
  have h3 : (2147490000 : Nat) * 2147490000 = 4611713300100000000 := by decide
  rw [h3] at h2
  omega
theorem f_joined_eq {w : Int32} {x y : Int} (hw : w = 5 ∨ w = 6 ∨ w = 7 ∨ w = 8 ∨ w = 9 ∨ w = 10 ∨ w = 11 ∨ w = 12) (hx : -2147490000 ≤ x ∧ x ≤ 2147490000) (hy : -2147490000 ≤ y ∧ y ≤ 2147490000) : f_Tx_joined w (Int64.ofInt x) (Int64.ofInt y) = some (xE (xop w x y)) := by
  have hm := prod_rg hx hy
  have e0 : (0 : Int64) = Int64.ofInt 0 := by decide +kernel
  have e1 : (1 : Int64) = Int64.ofInt 1 := by decide +kernel
  have c0 := w_cmp0 (y := y) (z := 0) (by omega) (by omega)
  have eB : f_Tx_joined_144 (-9000000000000000000 : Int64) = some (xE none) := by decide +kernel
  have z0 : ∀ h : y ≠ 0, ¬ Int64.ofInt y = 0 := fun h h2 => h (by rw [e0] at h2; exact (w_inj (by omega) (by omega)).mp h2)
  rcases hw with rfl | rfl | rfl | rfl | rfl | rfl | rfl | rfl
  · rw [fj5, xop5]
    rw [← Int64.ofInt_add, f_joined144 (by omega)]
  · rw [fj6, xop6]
    rw [← Int64.ofInt_sub, f_joined144 (by omega)]
  · rw [fj7, xop7]
    rw [← Int64.ofInt_mul, f_joined144 (by omega)]
  · rw [fj8, xop8]
    by_cases h : y = 0
    · rw [if_pos (by rw [e0]; exact c0.mpr h), if_pos h, eB]
    · have := tdiv_rg (y := x) (z := y) (by omega)
      rw [if_neg (by rw [e0]; exact fun h2 => h (c0.mp h2)), if_neg h, qgd (z0 h), w_div (by omega) (by omega), f_joined144 (by omega)]
  · rw [fj9, xop9]
    by_cases h : y = 0
    · rw [if_pos (by rw [e0]; exact c0.mpr h), if_pos h, eB]
    · have h3 : -4700000000000000000 ≤ x.tmod y ∧ x.tmod y ≤ 4700000000000000000 := by
        have h5 := Int.natAbs_tmod x y
        have h6 := Nat.mod_le x.natAbs y.natAbs
        omega
      rw [if_neg (by rw [e0]; exact fun h2 => h (c0.mp h2)), if_neg h, qgd (z0 h), w_rem (by omega) (by omega), f_joined144 (by omega)]
  · rw [fj10, xop10]
    have h := w_ge (y := x) (z := y) (by omega) (by omega)
    by_cases a : y ≤ x
    · rw [if_pos (h.mpr a), if_neg (by omega), xE0]
    · rw [if_neg (fun b => a (h.mp b)), if_pos (by omega), xE1]
  · rw [fj11, xop11]
    have h := w_le (y := x) (z := y) (by omega) (by omega)
    by_cases a : x ≤ y
    · rw [if_pos (h.mpr a), if_neg (by omega), xE0]
    · rw [if_neg (fun b => a (h.mp b)), if_pos (by omega), xE1]
  · rw [fj12, xop12]
    have h := w_cmp0 (y := x) (z := y) (by omega) (by omega)
    by_cases a : x = y
    · rw [if_pos (h.mpr a), if_pos a, xE1]
    · rw [if_neg (fun b => a (h.mp b)), if_neg a, xE0]

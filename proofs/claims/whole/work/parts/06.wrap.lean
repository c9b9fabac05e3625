/-! facts on objects by number; rows over them (printed by dec3.py) -/
theorem zo_0 {S : zSt} : (true = true ∧ 0 < zN0) ∨ 0 < zN S := Or.inl ⟨rfl, Nat.le_of_ble_eq_true rfl⟩
theorem zp_0 {S : zSt} : 0 < zN0 ∨ 0 < zN S := Or.inl (Nat.le_of_ble_eq_true rfl)
theorem zk_0 : zK 0 = 0 := by decide
theorem zo_1 {S : zSt} : (true = true ∧ 1 < zN0) ∨ 1 < zN S := Or.inl ⟨rfl, Nat.le_of_ble_eq_true rfl⟩
theorem zp_1 {S : zSt} : 1 < zN0 ∨ 1 < zN S := Or.inl (Nat.le_of_ble_eq_true rfl)
theorem zk_1 : zK 1 = 5 := by decide
theorem zo_2 {S : zSt} : (true = true ∧ 2 < zN0) ∨ 2 < zN S := Or.inl ⟨rfl, Nat.le_of_ble_eq_true rfl⟩
theorem zp_2 {S : zSt} : 2 < zN0 ∨ 2 < zN S := Or.inl (Nat.le_of_ble_eq_true rfl)
theorem zk_2 : zK 2 = 50 := by decide
theorem zo_3 {S : zSt} : (true = true ∧ 3 < zN0) ∨ 3 < zN S := Or.inl ⟨rfl, Nat.le_of_ble_eq_true rfl⟩
theorem zp_3 {S : zSt} : 3 < zN0 ∨ 3 < zN S := Or.inl (Nat.le_of_ble_eq_true rfl)
theorem zk_3 : zK 3 = 50 := by decide
theorem zo_4 {S : zSt} : (true = true ∧ 4 < zN0) ∨ 4 < zN S := Or.inl ⟨rfl, Nat.le_of_ble_eq_true rfl⟩
theorem zp_4 {S : zSt} : 4 < zN0 ∨ 4 < zN S := Or.inl (Nat.le_of_ble_eq_true rfl)
theorem zk_4 : zK 4 = 50 := by decide
theorem zo_5 {S : zSt} : (true = true ∧ 5 < zN0) ∨ 5 < zN S := Or.inl ⟨rfl, Nat.le_of_ble_eq_true rfl⟩
theorem zp_5 {S : zSt} : 5 < zN0 ∨ 5 < zN S := Or.inl (Nat.le_of_ble_eq_true rfl)
theorem zk_5 : zK 5 = 50 := by decide
theorem zo_6 {S : zSt} : (true = true ∧ 6 < zN0) ∨ 6 < zN S := Or.inl ⟨rfl, Nat.le_of_ble_eq_true rfl⟩
theorem zp_6 {S : zSt} : 6 < zN0 ∨ 6 < zN S := Or.inl (Nat.le_of_ble_eq_true rfl)
theorem zk_6 : zK 6 = 55 := by decide
theorem zo_7 {S : zSt} : (true = true ∧ 7 < zN0) ∨ 7 < zN S := Or.inl ⟨rfl, Nat.le_of_ble_eq_true rfl⟩
theorem zp_7 {S : zSt} : 7 < zN0 ∨ 7 < zN S := Or.inl (Nat.le_of_ble_eq_true rfl)
theorem zk_7 : zK 7 = 5 := by decide
theorem zo_8 {S : zSt} : (true = true ∧ 8 < zN0) ∨ 8 < zN S := Or.inl ⟨rfl, Nat.le_of_ble_eq_true rfl⟩
theorem zp_8 {S : zSt} : 8 < zN0 ∨ 8 < zN S := Or.inl (Nat.le_of_ble_eq_true rfl)
theorem zk_8 : zK 8 = 50 := by decide
theorem zo_9 {S : zSt} : (true = true ∧ 9 < zN0) ∨ 9 < zN S := Or.inl ⟨rfl, Nat.le_of_ble_eq_true rfl⟩
theorem zp_9 {S : zSt} : 9 < zN0 ∨ 9 < zN S := Or.inl (Nat.le_of_ble_eq_true rfl)
theorem zk_9 : zK 9 = 50 := by decide
theorem zo_10 {S : zSt} : (true = true ∧ 10 < zN0) ∨ 10 < zN S := Or.inl ⟨rfl, Nat.le_of_ble_eq_true rfl⟩
theorem zp_10 {S : zSt} : 10 < zN0 ∨ 10 < zN S := Or.inl (Nat.le_of_ble_eq_true rfl)
theorem zk_10 : zK 10 = 50 := by decide
theorem zo_11 {S : zSt} : (true = true ∧ 11 < zN0) ∨ 11 < zN S := Or.inl ⟨rfl, Nat.le_of_ble_eq_true rfl⟩
theorem zp_11 {S : zSt} : 11 < zN0 ∨ 11 < zN S := Or.inl (Nat.le_of_ble_eq_true rfl)
theorem zk_11 : zK 11 = 50 := by decide
theorem zo_12 {S : zSt} : (true = true ∧ 12 < zN0) ∨ 12 < zN S := Or.inl ⟨rfl, Nat.le_of_ble_eq_true rfl⟩
theorem zp_12 {S : zSt} : 12 < zN0 ∨ 12 < zN S := Or.inl (Nat.le_of_ble_eq_true rfl)
theorem zk_12 : zK 12 = 55 := by decide
theorem zo_13 {S : zSt} : (true = true ∧ 13 < zN0) ∨ 13 < zN S := Or.inl ⟨rfl, Nat.le_of_ble_eq_true rfl⟩
theorem zp_13 {S : zSt} : 13 < zN0 ∨ 13 < zN S := Or.inl (Nat.le_of_ble_eq_true rfl)
theorem zk_13 : zK 13 = 5 := by decide
theorem zo_14 {S : zSt} : (true = true ∧ 14 < zN0) ∨ 14 < zN S := Or.inl ⟨rfl, Nat.le_of_ble_eq_true rfl⟩
theorem zp_14 {S : zSt} : 14 < zN0 ∨ 14 < zN S := Or.inl (Nat.le_of_ble_eq_true rfl)
theorem zk_14 : zK 14 = 50 := by decide
theorem zo_15 {S : zSt} : (true = true ∧ 15 < zN0) ∨ 15 < zN S := Or.inl ⟨rfl, Nat.le_of_ble_eq_true rfl⟩
theorem zp_15 {S : zSt} : 15 < zN0 ∨ 15 < zN S := Or.inl (Nat.le_of_ble_eq_true rfl)
theorem zk_15 : zK 15 = 50 := by decide
theorem zo_16 {S : zSt} : (true = true ∧ 16 < zN0) ∨ 16 < zN S := Or.inl ⟨rfl, Nat.le_of_ble_eq_true rfl⟩
theorem zp_16 {S : zSt} : 16 < zN0 ∨ 16 < zN S := Or.inl (Nat.le_of_ble_eq_true rfl)
theorem zk_16 : zK 16 = 50 := by decide
theorem zo_17 {S : zSt} : (true = true ∧ 17 < zN0) ∨ 17 < zN S := Or.inl ⟨rfl, Nat.le_of_ble_eq_true rfl⟩
theorem zp_17 {S : zSt} : 17 < zN0 ∨ 17 < zN S := Or.inl (Nat.le_of_ble_eq_true rfl)
theorem zk_17 : zK 17 = 50 := by decide
theorem zo_18 {S : zSt} : (true = true ∧ 18 < zN0) ∨ 18 < zN S := Or.inl ⟨rfl, Nat.le_of_ble_eq_true rfl⟩
theorem zp_18 {S : zSt} : 18 < zN0 ∨ 18 < zN S := Or.inl (Nat.le_of_ble_eq_true rfl)
theorem zk_18 : zK 18 = 55 := by decide
theorem zo_19 {S : zSt} : (true = true ∧ 19 < zN0) ∨ 19 < zN S := Or.inl ⟨rfl, Nat.le_of_ble_eq_true rfl⟩
theorem zp_19 {S : zSt} : 19 < zN0 ∨ 19 < zN S := Or.inl (Nat.le_of_ble_eq_true rfl)
theorem zk_19 : zK 19 = 54 := by decide
theorem zo_20 {S : zSt} : (true = true ∧ 20 < zN0) ∨ 20 < zN S := Or.inl ⟨rfl, Nat.le_of_ble_eq_true rfl⟩
theorem zp_20 {S : zSt} : 20 < zN0 ∨ 20 < zN S := Or.inl (Nat.le_of_ble_eq_true rfl)
theorem zk_20 : zK 20 = 5 := by decide
theorem zo_21 {S : zSt} : (true = true ∧ 21 < zN0) ∨ 21 < zN S := Or.inl ⟨rfl, Nat.le_of_ble_eq_true rfl⟩
theorem zp_21 {S : zSt} : 21 < zN0 ∨ 21 < zN S := Or.inl (Nat.le_of_ble_eq_true rfl)
theorem zk_21 : zK 21 = 50 := by decide
theorem zo_22 {S : zSt} : (true = true ∧ 22 < zN0) ∨ 22 < zN S := Or.inl ⟨rfl, Nat.le_of_ble_eq_true rfl⟩
theorem zp_22 {S : zSt} : 22 < zN0 ∨ 22 < zN S := Or.inl (Nat.le_of_ble_eq_true rfl)
theorem zk_22 : zK 22 = 50 := by decide
theorem zo_23 {S : zSt} : (true = true ∧ 23 < zN0) ∨ 23 < zN S := Or.inl ⟨rfl, Nat.le_of_ble_eq_true rfl⟩
theorem zp_23 {S : zSt} : 23 < zN0 ∨ 23 < zN S := Or.inl (Nat.le_of_ble_eq_true rfl)
theorem zk_23 : zK 23 = 50 := by decide
theorem zo_24 {S : zSt} : (true = true ∧ 24 < zN0) ∨ 24 < zN S := Or.inl ⟨rfl, Nat.le_of_ble_eq_true rfl⟩
theorem zp_24 {S : zSt} : 24 < zN0 ∨ 24 < zN S := Or.inl (Nat.le_of_ble_eq_true rfl)
theorem zk_24 : zK 24 = 50 := by decide
theorem zo_25 {S : zSt} : (true = true ∧ 25 < zN0) ∨ 25 < zN S := Or.inl ⟨rfl, Nat.le_of_ble_eq_true rfl⟩
theorem zp_25 {S : zSt} : 25 < zN0 ∨ 25 < zN S := Or.inl (Nat.le_of_ble_eq_true rfl)
theorem zk_25 : zK 25 = 55 := by decide
theorem zo_26 {S : zSt} : (true = true ∧ 26 < zN0) ∨ 26 < zN S := Or.inl ⟨rfl, Nat.le_of_ble_eq_true rfl⟩
theorem zp_26 {S : zSt} : 26 < zN0 ∨ 26 < zN S := Or.inl (Nat.le_of_ble_eq_true rfl)
theorem zk_26 : zK 26 = 5 := by decide
theorem zo_27 {S : zSt} : (true = true ∧ 27 < zN0) ∨ 27 < zN S := Or.inl ⟨rfl, Nat.le_of_ble_eq_true rfl⟩
theorem zp_27 {S : zSt} : 27 < zN0 ∨ 27 < zN S := Or.inl (Nat.le_of_ble_eq_true rfl)
theorem zk_27 : zK 27 = 50 := by decide
theorem zo_28 {S : zSt} : (true = true ∧ 28 < zN0) ∨ 28 < zN S := Or.inl ⟨rfl, Nat.le_of_ble_eq_true rfl⟩
theorem zp_28 {S : zSt} : 28 < zN0 ∨ 28 < zN S := Or.inl (Nat.le_of_ble_eq_true rfl)
theorem zk_28 : zK 28 = 50 := by decide
theorem zo_29 {S : zSt} : (true = true ∧ 29 < zN0) ∨ 29 < zN S := Or.inl ⟨rfl, Nat.le_of_ble_eq_true rfl⟩
theorem zp_29 {S : zSt} : 29 < zN0 ∨ 29 < zN S := Or.inl (Nat.le_of_ble_eq_true rfl)
theorem zk_29 : zK 29 = 50 := by decide
theorem zo_30 {S : zSt} : (true = true ∧ 30 < zN0) ∨ 30 < zN S := Or.inl ⟨rfl, Nat.le_of_ble_eq_true rfl⟩
theorem zp_30 {S : zSt} : 30 < zN0 ∨ 30 < zN S := Or.inl (Nat.le_of_ble_eq_true rfl)
theorem zk_30 : zK 30 = 50 := by decide
theorem zo_31 {S : zSt} : (true = true ∧ 31 < zN0) ∨ 31 < zN S := Or.inl ⟨rfl, Nat.le_of_ble_eq_true rfl⟩
theorem zp_31 {S : zSt} : 31 < zN0 ∨ 31 < zN S := Or.inl (Nat.le_of_ble_eq_true rfl)
theorem zk_31 : zK 31 = 55 := by decide
theorem zo_32 {S : zSt} : (true = true ∧ 32 < zN0) ∨ 32 < zN S := Or.inl ⟨rfl, Nat.le_of_ble_eq_true rfl⟩
theorem zp_32 {S : zSt} : 32 < zN0 ∨ 32 < zN S := Or.inl (Nat.le_of_ble_eq_true rfl)
theorem zk_32 : zK 32 = 2 := by decide
theorem zo_33 {S : zSt} : (true = true ∧ 33 < zN0) ∨ 33 < zN S := Or.inl ⟨rfl, Nat.le_of_ble_eq_true rfl⟩
theorem zp_33 {S : zSt} : 33 < zN0 ∨ 33 < zN S := Or.inl (Nat.le_of_ble_eq_true rfl)
theorem zk_33 : zK 33 = 50 := by decide
theorem zo_34 {S : zSt} : (true = true ∧ 34 < zN0) ∨ 34 < zN S := Or.inl ⟨rfl, Nat.le_of_ble_eq_true rfl⟩
theorem zp_34 {S : zSt} : 34 < zN0 ∨ 34 < zN S := Or.inl (Nat.le_of_ble_eq_true rfl)
theorem zk_34 : zK 34 = 50 := by decide
theorem zo_35 {S : zSt} : (true = true ∧ 35 < zN0) ∨ 35 < zN S := Or.inl ⟨rfl, Nat.le_of_ble_eq_true rfl⟩
theorem zp_35 {S : zSt} : 35 < zN0 ∨ 35 < zN S := Or.inl (Nat.le_of_ble_eq_true rfl)
theorem zk_35 : zK 35 = 50 := by decide
theorem zo_36 {S : zSt} : (true = true ∧ 36 < zN0) ∨ 36 < zN S := Or.inl ⟨rfl, Nat.le_of_ble_eq_true rfl⟩
theorem zp_36 {S : zSt} : 36 < zN0 ∨ 36 < zN S := Or.inl (Nat.le_of_ble_eq_true rfl)
theorem zk_36 : zK 36 = 51 := by decide
theorem zo_37 {S : zSt} : (true = true ∧ 37 < zN0) ∨ 37 < zN S := Or.inl ⟨rfl, Nat.le_of_ble_eq_true rfl⟩
theorem zp_37 {S : zSt} : 37 < zN0 ∨ 37 < zN S := Or.inl (Nat.le_of_ble_eq_true rfl)
theorem zk_37 : zK 37 = 51 := by decide
theorem zo_38 {S : zSt} : (true = true ∧ 38 < zN0) ∨ 38 < zN S := Or.inl ⟨rfl, Nat.le_of_ble_eq_true rfl⟩
theorem zp_38 {S : zSt} : 38 < zN0 ∨ 38 < zN S := Or.inl (Nat.le_of_ble_eq_true rfl)
theorem zk_38 : zK 38 = 2 := by decide
theorem zo_39 {S : zSt} : (true = true ∧ 39 < zN0) ∨ 39 < zN S := Or.inl ⟨rfl, Nat.le_of_ble_eq_true rfl⟩
theorem zp_39 {S : zSt} : 39 < zN0 ∨ 39 < zN S := Or.inl (Nat.le_of_ble_eq_true rfl)
theorem zk_39 : zK 39 = 50 := by decide
theorem zo_40 {S : zSt} : (true = true ∧ 40 < zN0) ∨ 40 < zN S := Or.inl ⟨rfl, Nat.le_of_ble_eq_true rfl⟩
theorem zp_40 {S : zSt} : 40 < zN0 ∨ 40 < zN S := Or.inl (Nat.le_of_ble_eq_true rfl)
theorem zk_40 : zK 40 = 50 := by decide
theorem zo_41 {S : zSt} : (true = true ∧ 41 < zN0) ∨ 41 < zN S := Or.inl ⟨rfl, Nat.le_of_ble_eq_true rfl⟩
theorem zp_41 {S : zSt} : 41 < zN0 ∨ 41 < zN S := Or.inl (Nat.le_of_ble_eq_true rfl)
theorem zk_41 : zK 41 = 50 := by decide
theorem zo_42 {S : zSt} : (true = true ∧ 42 < zN0) ∨ 42 < zN S := Or.inl ⟨rfl, Nat.le_of_ble_eq_true rfl⟩
theorem zp_42 {S : zSt} : 42 < zN0 ∨ 42 < zN S := Or.inl (Nat.le_of_ble_eq_true rfl)
theorem zk_42 : zK 42 = 51 := by decide
theorem zo_43 {S : zSt} : (true = true ∧ 43 < zN0) ∨ 43 < zN S := Or.inl ⟨rfl, Nat.le_of_ble_eq_true rfl⟩
theorem zp_43 {S : zSt} : 43 < zN0 ∨ 43 < zN S := Or.inl (Nat.le_of_ble_eq_true rfl)
theorem zk_43 : zK 43 = 51 := by decide
theorem zo_44 {S : zSt} : (true = true ∧ 44 < zN0) ∨ 44 < zN S := Or.inl ⟨rfl, Nat.le_of_ble_eq_true rfl⟩
theorem zp_44 {S : zSt} : 44 < zN0 ∨ 44 < zN S := Or.inl (Nat.le_of_ble_eq_true rfl)
theorem zk_44 : zK 44 = 9 := by decide
theorem zo_45 {S : zSt} : (true = true ∧ 45 < zN0) ∨ 45 < zN S := Or.inl ⟨rfl, Nat.le_of_ble_eq_true rfl⟩
theorem zp_45 {S : zSt} : 45 < zN0 ∨ 45 < zN S := Or.inl (Nat.le_of_ble_eq_true rfl)
theorem zk_45 : zK 45 = 52 := by decide
theorem zo_46 {S : zSt} : (true = true ∧ 46 < zN0) ∨ 46 < zN S := Or.inl ⟨rfl, Nat.le_of_ble_eq_true rfl⟩
theorem zp_46 {S : zSt} : 46 < zN0 ∨ 46 < zN S := Or.inl (Nat.le_of_ble_eq_true rfl)
theorem zk_46 : zK 46 = 6 := by decide
theorem zo_47 {S : zSt} : (true = true ∧ 47 < zN0) ∨ 47 < zN S := Or.inl ⟨rfl, Nat.le_of_ble_eq_true rfl⟩
theorem zp_47 {S : zSt} : 47 < zN0 ∨ 47 < zN S := Or.inl (Nat.le_of_ble_eq_true rfl)
theorem zk_47 : zK 47 = 10 := by decide
theorem zo_48 {S : zSt} : (true = true ∧ 48 < zN0) ∨ 48 < zN S := Or.inl ⟨rfl, Nat.le_of_ble_eq_true rfl⟩
theorem zp_48 {S : zSt} : 48 < zN0 ∨ 48 < zN S := Or.inl (Nat.le_of_ble_eq_true rfl)
theorem zk_48 : zK 48 = 50 := by decide
theorem zo_49 {S : zSt} : (true = true ∧ 49 < zN0) ∨ 49 < zN S := Or.inl ⟨rfl, Nat.le_of_ble_eq_true rfl⟩
theorem zp_49 {S : zSt} : 49 < zN0 ∨ 49 < zN S := Or.inl (Nat.le_of_ble_eq_true rfl)
theorem zk_49 : zK 49 = 50 := by decide
theorem zo_50 {S : zSt} : (true = true ∧ 50 < zN0) ∨ 50 < zN S := Or.inl ⟨rfl, Nat.le_of_ble_eq_true rfl⟩
theorem zp_50 {S : zSt} : 50 < zN0 ∨ 50 < zN S := Or.inl (Nat.le_of_ble_eq_true rfl)
theorem zk_50 : zK 50 = 50 := by decide
theorem zo_51 {S : zSt} : (true = true ∧ 51 < zN0) ∨ 51 < zN S := Or.inl ⟨rfl, Nat.le_of_ble_eq_true rfl⟩
theorem zp_51 {S : zSt} : 51 < zN0 ∨ 51 < zN S := Or.inl (Nat.le_of_ble_eq_true rfl)
theorem zk_51 : zK 51 = 50 := by decide
theorem zo_52 {S : zSt} : (true = true ∧ 52 < zN0) ∨ 52 < zN S := Or.inl ⟨rfl, Nat.le_of_ble_eq_true rfl⟩
theorem zp_52 {S : zSt} : 52 < zN0 ∨ 52 < zN S := Or.inl (Nat.le_of_ble_eq_true rfl)
theorem zk_52 : zK 52 = 1 := by decide
theorem zo_53 {S : zSt} : (true = true ∧ 53 < zN0) ∨ 53 < zN S := Or.inl ⟨rfl, Nat.le_of_ble_eq_true rfl⟩
theorem zp_53 {S : zSt} : 53 < zN0 ∨ 53 < zN S := Or.inl (Nat.le_of_ble_eq_true rfl)
theorem zk_53 : zK 53 = 51 := by decide
theorem zo_54 {S : zSt} : (true = true ∧ 54 < zN0) ∨ 54 < zN S := Or.inl ⟨rfl, Nat.le_of_ble_eq_true rfl⟩
theorem zp_54 {S : zSt} : 54 < zN0 ∨ 54 < zN S := Or.inl (Nat.le_of_ble_eq_true rfl)
theorem zk_54 : zK 54 = 50 := by decide
theorem zo_55 {S : zSt} : (true = true ∧ 55 < zN0) ∨ 55 < zN S := Or.inl ⟨rfl, Nat.le_of_ble_eq_true rfl⟩
theorem zp_55 {S : zSt} : 55 < zN0 ∨ 55 < zN S := Or.inl (Nat.le_of_ble_eq_true rfl)
theorem zk_55 : zK 55 = 4 := by decide
theorem zo_56 {S : zSt} : (true = true ∧ 56 < zN0) ∨ 56 < zN S := Or.inl ⟨rfl, Nat.le_of_ble_eq_true rfl⟩
theorem zp_56 {S : zSt} : 56 < zN0 ∨ 56 < zN S := Or.inl (Nat.le_of_ble_eq_true rfl)
theorem zk_56 : zK 56 = 50 := by decide
theorem zo_57 {S : zSt} : (true = true ∧ 57 < zN0) ∨ 57 < zN S := Or.inl ⟨rfl, Nat.le_of_ble_eq_true rfl⟩
theorem zp_57 {S : zSt} : 57 < zN0 ∨ 57 < zN S := Or.inl (Nat.le_of_ble_eq_true rfl)
theorem zk_57 : zK 57 = 50 := by decide
theorem zo_58 {S : zSt} : (true = true ∧ 58 < zN0) ∨ 58 < zN S := Or.inl ⟨rfl, Nat.le_of_ble_eq_true rfl⟩
theorem zp_58 {S : zSt} : 58 < zN0 ∨ 58 < zN S := Or.inl (Nat.le_of_ble_eq_true rfl)
theorem zk_58 : zK 58 = 50 := by decide
theorem zo_59 {S : zSt} : (true = true ∧ 59 < zN0) ∨ 59 < zN S := Or.inl ⟨rfl, Nat.le_of_ble_eq_true rfl⟩
theorem zp_59 {S : zSt} : 59 < zN0 ∨ 59 < zN S := Or.inl (Nat.le_of_ble_eq_true rfl)
theorem zk_59 : zK 59 = 50 := by decide
theorem zo_60 {S : zSt} : (true = true ∧ 60 < zN0) ∨ 60 < zN S := Or.inl ⟨rfl, Nat.le_of_ble_eq_true rfl⟩
theorem zp_60 {S : zSt} : 60 < zN0 ∨ 60 < zN S := Or.inl (Nat.le_of_ble_eq_true rfl)
theorem zk_60 : zK 60 = 7 := by decide
theorem zo_61 {S : zSt} : (true = true ∧ 61 < zN0) ∨ 61 < zN S := Or.inl ⟨rfl, Nat.le_of_ble_eq_true rfl⟩
theorem zp_61 {S : zSt} : 61 < zN0 ∨ 61 < zN S := Or.inl (Nat.le_of_ble_eq_true rfl)
theorem zk_61 : zK 61 = 50 := by decide
theorem zo_62 {S : zSt} : (true = true ∧ 62 < zN0) ∨ 62 < zN S := Or.inl ⟨rfl, Nat.le_of_ble_eq_true rfl⟩
theorem zp_62 {S : zSt} : 62 < zN0 ∨ 62 < zN S := Or.inl (Nat.le_of_ble_eq_true rfl)
theorem zk_62 : zK 62 = 50 := by decide
theorem zo_63 {S : zSt} : (true = true ∧ 63 < zN0) ∨ 63 < zN S := Or.inl ⟨rfl, Nat.le_of_ble_eq_true rfl⟩
theorem zp_63 {S : zSt} : 63 < zN0 ∨ 63 < zN S := Or.inl (Nat.le_of_ble_eq_true rfl)
theorem zk_63 : zK 63 = 50 := by decide
theorem zo_64 {S : zSt} : (true = true ∧ 64 < zN0) ∨ 64 < zN S := Or.inl ⟨rfl, Nat.le_of_ble_eq_true rfl⟩
theorem zp_64 {S : zSt} : 64 < zN0 ∨ 64 < zN S := Or.inl (Nat.le_of_ble_eq_true rfl)
theorem zk_64 : zK 64 = 50 := by decide
theorem zo_65 {S : zSt} : (true = true ∧ 65 < zN0) ∨ 65 < zN S := Or.inl ⟨rfl, Nat.le_of_ble_eq_true rfl⟩
theorem zp_65 {S : zSt} : 65 < zN0 ∨ 65 < zN S := Or.inl (Nat.le_of_ble_eq_true rfl)
theorem zk_65 : zK 65 = 3 := by decide
theorem zo_66 {S : zSt} : (true = true ∧ 66 < zN0) ∨ 66 < zN S := Or.inl ⟨rfl, Nat.le_of_ble_eq_true rfl⟩
theorem zp_66 {S : zSt} : 66 < zN0 ∨ 66 < zN S := Or.inl (Nat.le_of_ble_eq_true rfl)
theorem zk_66 : zK 66 = 50 := by decide
theorem zo_67 {S : zSt} : (true = true ∧ 67 < zN0) ∨ 67 < zN S := Or.inl ⟨rfl, Nat.le_of_ble_eq_true rfl⟩
theorem zp_67 {S : zSt} : 67 < zN0 ∨ 67 < zN S := Or.inl (Nat.le_of_ble_eq_true rfl)
theorem zk_67 : zK 67 = 8 := by decide
theorem zo_68 {S : zSt} : (true = true ∧ 68 < zN0) ∨ 68 < zN S := Or.inl ⟨rfl, Nat.le_of_ble_eq_true rfl⟩
theorem zp_68 {S : zSt} : 68 < zN0 ∨ 68 < zN S := Or.inl (Nat.le_of_ble_eq_true rfl)
theorem zk_68 : zK 68 = 50 := by decide
theorem zo_69 {S : zSt} : (true = true ∧ 69 < zN0) ∨ 69 < zN S := Or.inl ⟨rfl, Nat.le_of_ble_eq_true rfl⟩
theorem zp_69 {S : zSt} : 69 < zN0 ∨ 69 < zN S := Or.inl (Nat.le_of_ble_eq_true rfl)
theorem zk_69 : zK 69 = 50 := by decide
theorem zo_70 {S : zSt} : (true = true ∧ 70 < zN0) ∨ 70 < zN S := Or.inl ⟨rfl, Nat.le_of_ble_eq_true rfl⟩
theorem zp_70 {S : zSt} : 70 < zN0 ∨ 70 < zN S := Or.inl (Nat.le_of_ble_eq_true rfl)
theorem zk_70 : zK 70 = 51 := by decide
theorem zo_71 {S : zSt} : (true = true ∧ 71 < zN0) ∨ 71 < zN S := Or.inl ⟨rfl, Nat.le_of_ble_eq_true rfl⟩
theorem zp_71 {S : zSt} : 71 < zN0 ∨ 71 < zN S := Or.inl (Nat.le_of_ble_eq_true rfl)
theorem zk_71 : zK 71 = 50 := by decide
theorem zo_72 {S : zSt} : (true = true ∧ 72 < zN0) ∨ 72 < zN S := Or.inl ⟨rfl, Nat.le_of_ble_eq_true rfl⟩
theorem zp_72 {S : zSt} : 72 < zN0 ∨ 72 < zN S := Or.inl (Nat.le_of_ble_eq_true rfl)
theorem zk_72 : zK 72 = 11 := by decide
theorem zo_73 {S : zSt} : (true = true ∧ 73 < zN0) ∨ 73 < zN S := Or.inl ⟨rfl, Nat.le_of_ble_eq_true rfl⟩
theorem zp_73 {S : zSt} : 73 < zN0 ∨ 73 < zN S := Or.inl (Nat.le_of_ble_eq_true rfl)
theorem zk_73 : zK 73 = 50 := by decide
theorem zo_74 {S : zSt} : (true = true ∧ 74 < zN0) ∨ 74 < zN S := Or.inl ⟨rfl, Nat.le_of_ble_eq_true rfl⟩
theorem zp_74 {S : zSt} : 74 < zN0 ∨ 74 < zN S := Or.inl (Nat.le_of_ble_eq_true rfl)
theorem zk_74 : zK 74 = 50 := by decide
theorem zo_75 {S : zSt} : (true = true ∧ 75 < zN0) ∨ 75 < zN S := Or.inl ⟨rfl, Nat.le_of_ble_eq_true rfl⟩
theorem zp_75 {S : zSt} : 75 < zN0 ∨ 75 < zN S := Or.inl (Nat.le_of_ble_eq_true rfl)
theorem zk_75 : zK 75 = 50 := by decide
theorem zo_76 {S : zSt} : (true = true ∧ 76 < zN0) ∨ 76 < zN S := Or.inl ⟨rfl, Nat.le_of_ble_eq_true rfl⟩
theorem zp_76 {S : zSt} : 76 < zN0 ∨ 76 < zN S := Or.inl (Nat.le_of_ble_eq_true rfl)
theorem zk_76 : zK 76 = 53 := by decide
theorem zo_77 {S : zSt} : (true = true ∧ 77 < zN0) ∨ 77 < zN S := Or.inl ⟨rfl, Nat.le_of_ble_eq_true rfl⟩
theorem zp_77 {S : zSt} : 77 < zN0 ∨ 77 < zN S := Or.inl (Nat.le_of_ble_eq_true rfl)
theorem zk_77 : zK 77 = 50 := by decide
theorem zo_78 {S : zSt} : (true = true ∧ 78 < zN0) ∨ 78 < zN S := Or.inl ⟨rfl, Nat.le_of_ble_eq_true rfl⟩
theorem zp_78 {S : zSt} : 78 < zN0 ∨ 78 < zN S := Or.inl (Nat.le_of_ble_eq_true rfl)
theorem zk_78 : zK 78 = 52 := by decide
theorem zo_79 {S : zSt} : (true = true ∧ 79 < zN0) ∨ 79 < zN S := Or.inl ⟨rfl, Nat.le_of_ble_eq_true rfl⟩
theorem zp_79 {S : zSt} : 79 < zN0 ∨ 79 < zN S := Or.inl (Nat.le_of_ble_eq_true rfl)
theorem zk_79 : zK 79 = 52 := by decide
theorem zo_80 {S : zSt} : (true = true ∧ 80 < zN0) ∨ 80 < zN S := Or.inl ⟨rfl, Nat.le_of_ble_eq_true rfl⟩
theorem zp_80 {S : zSt} : 80 < zN0 ∨ 80 < zN S := Or.inl (Nat.le_of_ble_eq_true rfl)
theorem zk_80 : zK 80 = 50 := by decide
theorem zo_81 {S : zSt} : (true = true ∧ 81 < zN0) ∨ 81 < zN S := Or.inl ⟨rfl, Nat.le_of_ble_eq_true rfl⟩
theorem zp_81 {S : zSt} : 81 < zN0 ∨ 81 < zN S := Or.inl (Nat.le_of_ble_eq_true rfl)
theorem zk_81 : zK 81 = 50 := by decide
theorem zo_82 {S : zSt} : (true = true ∧ 82 < zN0) ∨ 82 < zN S := Or.inl ⟨rfl, Nat.le_of_ble_eq_true rfl⟩
theorem zp_82 {S : zSt} : 82 < zN0 ∨ 82 < zN S := Or.inl (Nat.le_of_ble_eq_true rfl)
theorem zk_82 : zK 82 = 50 := by decide
theorem zo_83 {S : zSt} : (true = true ∧ 83 < zN0) ∨ 83 < zN S := Or.inl ⟨rfl, Nat.le_of_ble_eq_true rfl⟩
theorem zp_83 {S : zSt} : 83 < zN0 ∨ 83 < zN S := Or.inl (Nat.le_of_ble_eq_true rfl)
theorem zk_83 : zK 83 = 50 := by decide
theorem zo_84 {S : zSt} : (true = true ∧ 84 < zN0) ∨ 84 < zN S := Or.inl ⟨rfl, Nat.le_of_ble_eq_true rfl⟩
theorem zp_84 {S : zSt} : 84 < zN0 ∨ 84 < zN S := Or.inl (Nat.le_of_ble_eq_true rfl)
theorem zk_84 : zK 84 = 50 := by decide
theorem zo_85 {S : zSt} : (true = true ∧ 85 < zN0) ∨ 85 < zN S := Or.inl ⟨rfl, Nat.le_of_ble_eq_true rfl⟩
theorem zp_85 {S : zSt} : 85 < zN0 ∨ 85 < zN S := Or.inl (Nat.le_of_ble_eq_true rfl)
theorem zk_85 : zK 85 = 50 := by decide
theorem zo_86 {S : zSt} : (true = true ∧ 86 < zN0) ∨ 86 < zN S := Or.inl ⟨rfl, Nat.le_of_ble_eq_true rfl⟩
theorem zp_86 {S : zSt} : 86 < zN0 ∨ 86 < zN S := Or.inl (Nat.le_of_ble_eq_true rfl)
theorem zk_86 : zK 86 = 50 := by decide
theorem zo_87 {S : zSt} : (true = true ∧ 87 < zN0) ∨ 87 < zN S := Or.inl ⟨rfl, Nat.le_of_ble_eq_true rfl⟩
theorem zp_87 {S : zSt} : 87 < zN0 ∨ 87 < zN S := Or.inl (Nat.le_of_ble_eq_true rfl)
theorem zk_87 : zK 87 = 50 := by decide
theorem zo_88 {S : zSt} : (true = true ∧ 88 < zN0) ∨ 88 < zN S := Or.inl ⟨rfl, Nat.le_of_ble_eq_true rfl⟩
theorem zp_88 {S : zSt} : 88 < zN0 ∨ 88 < zN S := Or.inl (Nat.le_of_ble_eq_true rfl)
theorem zk_88 : zK 88 = 50 := by decide
theorem zo_89 {S : zSt} : (true = true ∧ 89 < zN0) ∨ 89 < zN S := Or.inl ⟨rfl, Nat.le_of_ble_eq_true rfl⟩
theorem zp_89 {S : zSt} : 89 < zN0 ∨ 89 < zN S := Or.inl (Nat.le_of_ble_eq_true rfl)
theorem zk_89 : zK 89 = 50 := by decide
theorem zo_90 {S : zSt} : (true = true ∧ 90 < zN0) ∨ 90 < zN S := Or.inl ⟨rfl, Nat.le_of_ble_eq_true rfl⟩
theorem zp_90 {S : zSt} : 90 < zN0 ∨ 90 < zN S := Or.inl (Nat.le_of_ble_eq_true rfl)
theorem zk_90 : zK 90 = 50 := by decide
theorem zo_91 {S : zSt} : (true = true ∧ 91 < zN0) ∨ 91 < zN S := Or.inl ⟨rfl, Nat.le_of_ble_eq_true rfl⟩
theorem zp_91 {S : zSt} : 91 < zN0 ∨ 91 < zN S := Or.inl (Nat.le_of_ble_eq_true rfl)
theorem zk_91 : zK 91 = 50 := by decide
theorem zo_92 {S : zSt} : (true = true ∧ 92 < zN0) ∨ 92 < zN S := Or.inl ⟨rfl, Nat.le_of_ble_eq_true rfl⟩
theorem zp_92 {S : zSt} : 92 < zN0 ∨ 92 < zN S := Or.inl (Nat.le_of_ble_eq_true rfl)
theorem zk_92 : zK 92 = 50 := by decide
theorem zo_93 {S : zSt} : (true = true ∧ 93 < zN0) ∨ 93 < zN S := Or.inl ⟨rfl, Nat.le_of_ble_eq_true rfl⟩
theorem zp_93 {S : zSt} : 93 < zN0 ∨ 93 < zN S := Or.inl (Nat.le_of_ble_eq_true rfl)
theorem zk_93 : zK 93 = 50 := by decide
theorem zo_94 {S : zSt} : (true = true ∧ 94 < zN0) ∨ 94 < zN S := Or.inl ⟨rfl, Nat.le_of_ble_eq_true rfl⟩
theorem zp_94 {S : zSt} : 94 < zN0 ∨ 94 < zN S := Or.inl (Nat.le_of_ble_eq_true rfl)
theorem zk_94 : zK 94 = 50 := by decide
theorem zo_95 {S : zSt} : (true = true ∧ 95 < zN0) ∨ 95 < zN S := Or.inl ⟨rfl, Nat.le_of_ble_eq_true rfl⟩
theorem zp_95 {S : zSt} : 95 < zN0 ∨ 95 < zN S := Or.inl (Nat.le_of_ble_eq_true rfl)
theorem zk_95 : zK 95 = 51 := by decide
theorem zo_96 {S : zSt} : (true = true ∧ 96 < zN0) ∨ 96 < zN S := Or.inl ⟨rfl, Nat.le_of_ble_eq_true rfl⟩
theorem zp_96 {S : zSt} : 96 < zN0 ∨ 96 < zN S := Or.inl (Nat.le_of_ble_eq_true rfl)
theorem zk_96 : zK 96 = 51 := by decide
theorem zo_97 {S : zSt} : (true = true ∧ 97 < zN0) ∨ 97 < zN S := Or.inl ⟨rfl, Nat.le_of_ble_eq_true rfl⟩
theorem zp_97 {S : zSt} : 97 < zN0 ∨ 97 < zN S := Or.inl (Nat.le_of_ble_eq_true rfl)
theorem zk_97 : zK 97 = 50 := by decide
theorem za_2 {S : zSt} (hS : zSR S) : zA S 2 = 9 := (z_SR_off hS (i := 1) (c := 5) (k := 1) (o := 1) (n := 9) (Nat.lt_of_lt_of_le (Nat.le_of_ble_eq_true rfl) hS.1) zk_1 (by decide) rfl).2.2 (by decide)
theorem za_3 {S : zSt} (hS : zSR S) : zA S 3 = 36 := (z_SR_off hS (i := 1) (c := 5) (k := 2) (o := 2) (n := 36) (Nat.lt_of_lt_of_le (Nat.le_of_ble_eq_true rfl) hS.1) zk_1 (by decide) rfl).2.2 (by decide)
theorem za_4 {S : zSt} (hS : zSR S) : zA S 4 = 6 := (z_SR_off hS (i := 1) (c := 5) (k := 10) (o := 3) (n := 6) (Nat.lt_of_lt_of_le (Nat.le_of_ble_eq_true rfl) hS.1) zk_1 (by decide) rfl).2.2 (by decide)
theorem za_5 {S : zSt} (hS : zSR S) : zA S 5 = 6 := (z_SR_off hS (i := 1) (c := 5) (k := 11) (o := 4) (n := 6) (Nat.lt_of_lt_of_le (Nat.le_of_ble_eq_true rfl) hS.1) zk_1 (by decide) rfl).2.2 (by decide)
theorem za_6 {S : zSt} (hS : zSR S) : zA S 6 = 6 := (z_SR_off hS (i := 1) (c := 5) (k := 13) (o := 5) (n := 6) (Nat.lt_of_lt_of_le (Nat.le_of_ble_eq_true rfl) hS.1) zk_1 (by decide) rfl).2.2 (by decide)
theorem za_8 {S : zSt} (hS : zSR S) : zA S 8 = 9 := (z_SR_off hS (i := 7) (c := 5) (k := 1) (o := 1) (n := 9) (Nat.lt_of_lt_of_le (Nat.le_of_ble_eq_true rfl) hS.1) zk_7 (by decide) rfl).2.2 (by decide)
theorem za_9 {S : zSt} (hS : zSR S) : zA S 9 = 36 := (z_SR_off hS (i := 7) (c := 5) (k := 2) (o := 2) (n := 36) (Nat.lt_of_lt_of_le (Nat.le_of_ble_eq_true rfl) hS.1) zk_7 (by decide) rfl).2.2 (by decide)
theorem za_10 {S : zSt} (hS : zSR S) : zA S 10 = 6 := (z_SR_off hS (i := 7) (c := 5) (k := 10) (o := 3) (n := 6) (Nat.lt_of_lt_of_le (Nat.le_of_ble_eq_true rfl) hS.1) zk_7 (by decide) rfl).2.2 (by decide)
theorem za_11 {S : zSt} (hS : zSR S) : zA S 11 = 6 := (z_SR_off hS (i := 7) (c := 5) (k := 11) (o := 4) (n := 6) (Nat.lt_of_lt_of_le (Nat.le_of_ble_eq_true rfl) hS.1) zk_7 (by decide) rfl).2.2 (by decide)
theorem za_12 {S : zSt} (hS : zSR S) : zA S 12 = 6 := (z_SR_off hS (i := 7) (c := 5) (k := 13) (o := 5) (n := 6) (Nat.lt_of_lt_of_le (Nat.le_of_ble_eq_true rfl) hS.1) zk_7 (by decide) rfl).2.2 (by decide)
theorem za_14 {S : zSt} (hS : zSR S) : zA S 14 = 9 := (z_SR_off hS (i := 13) (c := 5) (k := 1) (o := 1) (n := 9) (Nat.lt_of_lt_of_le (Nat.le_of_ble_eq_true rfl) hS.1) zk_13 (by decide) rfl).2.2 (by decide)
theorem za_15 {S : zSt} (hS : zSR S) : zA S 15 = 36 := (z_SR_off hS (i := 13) (c := 5) (k := 2) (o := 2) (n := 36) (Nat.lt_of_lt_of_le (Nat.le_of_ble_eq_true rfl) hS.1) zk_13 (by decide) rfl).2.2 (by decide)
theorem za_16 {S : zSt} (hS : zSR S) : zA S 16 = 6 := (z_SR_off hS (i := 13) (c := 5) (k := 10) (o := 3) (n := 6) (Nat.lt_of_lt_of_le (Nat.le_of_ble_eq_true rfl) hS.1) zk_13 (by decide) rfl).2.2 (by decide)
theorem za_17 {S : zSt} (hS : zSR S) : zA S 17 = 6 := (z_SR_off hS (i := 13) (c := 5) (k := 11) (o := 4) (n := 6) (Nat.lt_of_lt_of_le (Nat.le_of_ble_eq_true rfl) hS.1) zk_13 (by decide) rfl).2.2 (by decide)
theorem za_18 {S : zSt} (hS : zSR S) : zA S 18 = 6 := (z_SR_off hS (i := 13) (c := 5) (k := 13) (o := 5) (n := 6) (Nat.lt_of_lt_of_le (Nat.le_of_ble_eq_true rfl) hS.1) zk_13 (by decide) rfl).2.2 (by decide)
theorem za_19 {S : zSt} (hS : zSR S) : zA S 19 = 2 := (z_SR_off hS (i := 0) (c := 0) (k := 3) (o := 19) (n := 2) (Nat.lt_of_lt_of_le (Nat.le_of_ble_eq_true rfl) hS.1) zk_0 (by decide) rfl).2.2 (by decide)
theorem za_21 {S : zSt} (hS : zSR S) : zA S 21 = 9 := (z_SR_off hS (i := 20) (c := 5) (k := 1) (o := 1) (n := 9) (Nat.lt_of_lt_of_le (Nat.le_of_ble_eq_true rfl) hS.1) zk_20 (by decide) rfl).2.2 (by decide)
theorem za_22 {S : zSt} (hS : zSR S) : zA S 22 = 36 := (z_SR_off hS (i := 20) (c := 5) (k := 2) (o := 2) (n := 36) (Nat.lt_of_lt_of_le (Nat.le_of_ble_eq_true rfl) hS.1) zk_20 (by decide) rfl).2.2 (by decide)
theorem za_23 {S : zSt} (hS : zSR S) : zA S 23 = 6 := (z_SR_off hS (i := 20) (c := 5) (k := 10) (o := 3) (n := 6) (Nat.lt_of_lt_of_le (Nat.le_of_ble_eq_true rfl) hS.1) zk_20 (by decide) rfl).2.2 (by decide)
theorem za_24 {S : zSt} (hS : zSR S) : zA S 24 = 6 := (z_SR_off hS (i := 20) (c := 5) (k := 11) (o := 4) (n := 6) (Nat.lt_of_lt_of_le (Nat.le_of_ble_eq_true rfl) hS.1) zk_20 (by decide) rfl).2.2 (by decide)
theorem za_25 {S : zSt} (hS : zSR S) : zA S 25 = 6 := (z_SR_off hS (i := 20) (c := 5) (k := 13) (o := 5) (n := 6) (Nat.lt_of_lt_of_le (Nat.le_of_ble_eq_true rfl) hS.1) zk_20 (by decide) rfl).2.2 (by decide)
theorem za_27 {S : zSt} (hS : zSR S) : zA S 27 = 9 := (z_SR_off hS (i := 26) (c := 5) (k := 1) (o := 1) (n := 9) (Nat.lt_of_lt_of_le (Nat.le_of_ble_eq_true rfl) hS.1) zk_26 (by decide) rfl).2.2 (by decide)
theorem za_28 {S : zSt} (hS : zSR S) : zA S 28 = 36 := (z_SR_off hS (i := 26) (c := 5) (k := 2) (o := 2) (n := 36) (Nat.lt_of_lt_of_le (Nat.le_of_ble_eq_true rfl) hS.1) zk_26 (by decide) rfl).2.2 (by decide)
theorem za_29 {S : zSt} (hS : zSR S) : zA S 29 = 6 := (z_SR_off hS (i := 26) (c := 5) (k := 10) (o := 3) (n := 6) (Nat.lt_of_lt_of_le (Nat.le_of_ble_eq_true rfl) hS.1) zk_26 (by decide) rfl).2.2 (by decide)
theorem za_30 {S : zSt} (hS : zSR S) : zA S 30 = 6 := (z_SR_off hS (i := 26) (c := 5) (k := 11) (o := 4) (n := 6) (Nat.lt_of_lt_of_le (Nat.le_of_ble_eq_true rfl) hS.1) zk_26 (by decide) rfl).2.2 (by decide)
theorem za_31 {S : zSt} (hS : zSR S) : zA S 31 = 6 := (z_SR_off hS (i := 26) (c := 5) (k := 13) (o := 5) (n := 6) (Nat.lt_of_lt_of_le (Nat.le_of_ble_eq_true rfl) hS.1) zk_26 (by decide) rfl).2.2 (by decide)
theorem za_33 {S : zSt} (hS : zSR S) : zA S 33 = 16 := (z_SR_off hS (i := 32) (c := 2) (k := 2) (o := 1) (n := 16) (Nat.lt_of_lt_of_le (Nat.le_of_ble_eq_true rfl) hS.1) zk_32 (by decide) rfl).2.2 (by decide)
theorem za_34 {S : zSt} (hS : zSR S) : zA S 34 = 16 := (z_SR_off hS (i := 32) (c := 2) (k := 3) (o := 2) (n := 16) (Nat.lt_of_lt_of_le (Nat.le_of_ble_eq_true rfl) hS.1) zk_32 (by decide) rfl).2.2 (by decide)
theorem za_35 {S : zSt} (hS : zSR S) : zA S 35 = 16 := (z_SR_off hS (i := 32) (c := 2) (k := 4) (o := 3) (n := 16) (Nat.lt_of_lt_of_le (Nat.le_of_ble_eq_true rfl) hS.1) zk_32 (by decide) rfl).2.2 (by decide)
theorem za_36 {S : zSt} (hS : zSR S) : zA S 36 = 16 := (z_SR_off hS (i := 32) (c := 2) (k := 5) (o := 4) (n := 16) (Nat.lt_of_lt_of_le (Nat.le_of_ble_eq_true rfl) hS.1) zk_32 (by decide) rfl).2.2 (by decide)
theorem za_37 {S : zSt} (hS : zSR S) : zA S 37 = 16 := (z_SR_off hS (i := 32) (c := 2) (k := 6) (o := 5) (n := 16) (Nat.lt_of_lt_of_le (Nat.le_of_ble_eq_true rfl) hS.1) zk_32 (by decide) rfl).2.2 (by decide)
theorem za_39 {S : zSt} (hS : zSR S) : zA S 39 = 16 := (z_SR_off hS (i := 38) (c := 2) (k := 2) (o := 1) (n := 16) (Nat.lt_of_lt_of_le (Nat.le_of_ble_eq_true rfl) hS.1) zk_38 (by decide) rfl).2.2 (by decide)
theorem za_40 {S : zSt} (hS : zSR S) : zA S 40 = 16 := (z_SR_off hS (i := 38) (c := 2) (k := 3) (o := 2) (n := 16) (Nat.lt_of_lt_of_le (Nat.le_of_ble_eq_true rfl) hS.1) zk_38 (by decide) rfl).2.2 (by decide)
theorem za_41 {S : zSt} (hS : zSR S) : zA S 41 = 16 := (z_SR_off hS (i := 38) (c := 2) (k := 4) (o := 3) (n := 16) (Nat.lt_of_lt_of_le (Nat.le_of_ble_eq_true rfl) hS.1) zk_38 (by decide) rfl).2.2 (by decide)
theorem za_42 {S : zSt} (hS : zSR S) : zA S 42 = 16 := (z_SR_off hS (i := 38) (c := 2) (k := 5) (o := 4) (n := 16) (Nat.lt_of_lt_of_le (Nat.le_of_ble_eq_true rfl) hS.1) zk_38 (by decide) rfl).2.2 (by decide)
theorem za_43 {S : zSt} (hS : zSR S) : zA S 43 = 16 := (z_SR_off hS (i := 38) (c := 2) (k := 6) (o := 5) (n := 16) (Nat.lt_of_lt_of_le (Nat.le_of_ble_eq_true rfl) hS.1) zk_38 (by decide) rfl).2.2 (by decide)
theorem za_45 {S : zSt} (hS : zSR S) : zA S 45 = 400 := (z_SR_off hS (i := 44) (c := 9) (k := 0) (o := 1) (n := 400) (Nat.lt_of_lt_of_le (Nat.le_of_ble_eq_true rfl) hS.1) zk_44 (by decide) rfl).2.2 (by decide)
theorem za_48 {S : zSt} (hS : zSR S) : zA S 48 = 12 := (z_SR_off hS (i := 47) (c := 10) (k := 4) (o := 1) (n := 12) (Nat.lt_of_lt_of_le (Nat.le_of_ble_eq_true rfl) hS.1) zk_47 (by decide) rfl).2.2 (by decide)
theorem za_49 {S : zSt} (hS : zSR S) : zA S 49 = 12 := (z_SR_off hS (i := 47) (c := 10) (k := 5) (o := 2) (n := 12) (Nat.lt_of_lt_of_le (Nat.le_of_ble_eq_true rfl) hS.1) zk_47 (by decide) rfl).2.2 (by decide)
theorem za_50 {S : zSt} (hS : zSR S) : zA S 50 = 36 := (z_SR_off hS (i := 47) (c := 10) (k := 6) (o := 3) (n := 36) (Nat.lt_of_lt_of_le (Nat.le_of_ble_eq_true rfl) hS.1) zk_47 (by decide) rfl).2.2 (by decide)
theorem za_53 {S : zSt} (hS : zSR S) : zA S 53 = 50 := (z_SR_off hS (i := 52) (c := 1) (k := 0) (o := 1) (n := 50) (Nat.lt_of_lt_of_le (Nat.le_of_ble_eq_true rfl) hS.1) zk_52 (by decide) rfl).2.2 (by decide)
theorem za_54 {S : zSt} (hS : zSR S) : zA S 54 = 7 := (z_SR_off hS (i := 52) (c := 1) (k := 1) (o := 2) (n := 7) (Nat.lt_of_lt_of_le (Nat.le_of_ble_eq_true rfl) hS.1) zk_52 (by decide) rfl).2.2 (by decide)
theorem za_56 {S : zSt} (hS : zSR S) : zA S 56 = 81 := (z_SR_off hS (i := 55) (c := 4) (k := 1) (o := 1) (n := 81) (Nat.lt_of_lt_of_le (Nat.le_of_ble_eq_true rfl) hS.1) zk_55 (by decide) rfl).2.2 (by decide)
theorem za_57 {S : zSt} (hS : zSR S) : zA S 57 = 81 := (z_SR_off hS (i := 55) (c := 4) (k := 2) (o := 2) (n := 81) (Nat.lt_of_lt_of_le (Nat.le_of_ble_eq_true rfl) hS.1) zk_55 (by decide) rfl).2.2 (by decide)
theorem za_58 {S : zSt} (hS : zSR S) : zA S 58 = 81 := (z_SR_off hS (i := 55) (c := 4) (k := 3) (o := 3) (n := 81) (Nat.lt_of_lt_of_le (Nat.le_of_ble_eq_true rfl) hS.1) zk_55 (by decide) rfl).2.2 (by decide)
theorem za_59 {S : zSt} (hS : zSR S) : zA S 59 = 81 := (z_SR_off hS (i := 55) (c := 4) (k := 4) (o := 4) (n := 81) (Nat.lt_of_lt_of_le (Nat.le_of_ble_eq_true rfl) hS.1) zk_55 (by decide) rfl).2.2 (by decide)
theorem za_61 {S : zSt} (hS : zSR S) : zA S 61 = 8 := (z_SR_off hS (i := 60) (c := 7) (k := 0) (o := 1) (n := 8) (Nat.lt_of_lt_of_le (Nat.le_of_ble_eq_true rfl) hS.1) zk_60 (by decide) rfl).2.2 (by decide)
theorem za_62 {S : zSt} (hS : zSR S) : zA S 62 = 8 := (z_SR_off hS (i := 60) (c := 7) (k := 2) (o := 2) (n := 8) (Nat.lt_of_lt_of_le (Nat.le_of_ble_eq_true rfl) hS.1) zk_60 (by decide) rfl).2.2 (by decide)
theorem za_63 {S : zSt} (hS : zSR S) : zA S 63 = 64 := (z_SR_off hS (i := 60) (c := 7) (k := 3) (o := 3) (n := 64) (Nat.lt_of_lt_of_le (Nat.le_of_ble_eq_true rfl) hS.1) zk_60 (by decide) rfl).2.2 (by decide)
theorem za_64 {S : zSt} (hS : zSR S) : zA S 64 = 2048 := (z_SR_off hS (i := 60) (c := 7) (k := 4) (o := 4) (n := 2048) (Nat.lt_of_lt_of_le (Nat.le_of_ble_eq_true rfl) hS.1) zk_60 (by decide) rfl).2.2 (by decide)
theorem za_66 {S : zSt} (hS : zSR S) : zA S 66 = 90 := (z_SR_off hS (i := 65) (c := 3) (k := 0) (o := 1) (n := 90) (Nat.lt_of_lt_of_le (Nat.le_of_ble_eq_true rfl) hS.1) zk_65 (by decide) rfl).2.2 (by decide)
theorem za_68 {S : zSt} (hS : zSR S) : zA S 68 = 9 := (z_SR_off hS (i := 67) (c := 8) (k := 0) (o := 1) (n := 9) (Nat.lt_of_lt_of_le (Nat.le_of_ble_eq_true rfl) hS.1) zk_67 (by decide) rfl).2.2 (by decide)
theorem za_69 {S : zSt} (hS : zSR S) : zA S 69 = 23 := (z_SR_off hS (i := 0) (c := 0) (k := 13) (o := 69) (n := 23) (Nat.lt_of_lt_of_le (Nat.le_of_ble_eq_true rfl) hS.1) zk_0 (by decide) rfl).2.2 (by decide)
theorem za_70 {S : zSt} (hS : zSR S) : zA S 70 = 20 := (z_SR_off hS (i := 0) (c := 0) (k := 14) (o := 70) (n := 20) (Nat.lt_of_lt_of_le (Nat.le_of_ble_eq_true rfl) hS.1) zk_0 (by decide) rfl).2.2 (by decide)
theorem za_71 {S : zSt} (hS : zSR S) : zA S 71 = 6 := (z_SR_off hS (i := 0) (c := 0) (k := 15) (o := 71) (n := 6) (Nat.lt_of_lt_of_le (Nat.le_of_ble_eq_true rfl) hS.1) zk_0 (by decide) rfl).2.2 (by decide)
theorem za_73 {S : zSt} (hS : zSR S) : zA S 73 = 7 := (z_SR_off hS (i := 72) (c := 11) (k := 1) (o := 1) (n := 7) (Nat.lt_of_lt_of_le (Nat.le_of_ble_eq_true rfl) hS.1) zk_72 (by decide) rfl).2.2 (by decide)
theorem za_74 {S : zSt} (hS : zSR S) : zA S 74 = 5807 := (z_SR_off hS (i := 72) (c := 11) (k := 2) (o := 2) (n := 5807) (Nat.lt_of_lt_of_le (Nat.le_of_ble_eq_true rfl) hS.1) zk_72 (by decide) rfl).2.2 (by decide)
theorem za_75 {S : zSt} (hS : zSR S) : zA S 75 = 11614 := (z_SR_off hS (i := 72) (c := 11) (k := 3) (o := 3) (n := 11614) (Nat.lt_of_lt_of_le (Nat.le_of_ble_eq_true rfl) hS.1) zk_72 (by decide) rfl).2.2 (by decide)
theorem za_76 {S : zSt} (hS : zSR S) : zA S 76 = 2 := (z_SR_off hS (i := 72) (c := 11) (k := 4) (o := 4) (n := 2) (Nat.lt_of_lt_of_le (Nat.le_of_ble_eq_true rfl) hS.1) zk_72 (by decide) rfl).2.2 (by decide)
theorem za_77 {S : zSt} (hS : zSR S) : zA S 77 = 184 := (z_SR_off hS (i := 72) (c := 11) (k := 5) (o := 5) (n := 184) (Nat.lt_of_lt_of_le (Nat.le_of_ble_eq_true rfl) hS.1) zk_72 (by decide) rfl).2.2 (by decide)
theorem za_78 {S : zSt} (hS : zSR S) : zA S 78 = 121 := (z_SR_off hS (i := 72) (c := 11) (k := 7) (o := 6) (n := 121) (Nat.lt_of_lt_of_le (Nat.le_of_ble_eq_true rfl) hS.1) zk_72 (by decide) rfl).2.2 (by decide)
theorem za_79 {S : zSt} (hS : zSR S) : zA S 79 = 400 := (z_SR_off hS (i := 72) (c := 11) (k := 11) (o := 7) (n := 400) (Nat.lt_of_lt_of_le (Nat.le_of_ble_eq_true rfl) hS.1) zk_72 (by decide) rfl).2.2 (by decide)
theorem za_80 {S : zSt} (hS : zSR S) : zA S 80 = 5 := (z_SR_off hS (i := 72) (c := 11) (k := 12) (o := 8) (n := 5) (Nat.lt_of_lt_of_le (Nat.le_of_ble_eq_true rfl) hS.1) zk_72 (by decide) rfl).2.2 (by decide)
theorem za_81 {S : zSt} (hS : zSR S) : zA S 81 = 401 := (z_SR_off hS (i := 72) (c := 11) (k := 15) (o := 9) (n := 401) (Nat.lt_of_lt_of_le (Nat.le_of_ble_eq_true rfl) hS.1) zk_72 (by decide) rfl).2.2 (by decide)
theorem za_82 {S : zSt} (hS : zSR S) : zA S 82 = 401 := (z_SR_off hS (i := 72) (c := 11) (k := 16) (o := 10) (n := 401) (Nat.lt_of_lt_of_le (Nat.le_of_ble_eq_true rfl) hS.1) zk_72 (by decide) rfl).2.2 (by decide)
theorem za_83 {S : zSt} (hS : zSR S) : zA S 83 = 401 := (z_SR_off hS (i := 72) (c := 11) (k := 17) (o := 11) (n := 401) (Nat.lt_of_lt_of_le (Nat.le_of_ble_eq_true rfl) hS.1) zk_72 (by decide) rfl).2.2 (by decide)
theorem za_84 {S : zSt} (hS : zSR S) : zA S 84 = 7 := (z_SR_off hS (i := 72) (c := 11) (k := 26) (o := 12) (n := 7) (Nat.lt_of_lt_of_le (Nat.le_of_ble_eq_true rfl) hS.1) zk_72 (by decide) rfl).2.2 (by decide)
theorem za_85 {S : zSt} (hS : zSR S) : zA S 85 = 9 := (z_SR_off hS (i := 72) (c := 11) (k := 29) (o := 13) (n := 9) (Nat.lt_of_lt_of_le (Nat.le_of_ble_eq_true rfl) hS.1) zk_72 (by decide) rfl).2.2 (by decide)
theorem za_86 {S : zSt} (hS : zSR S) : zA S 86 = 1488 := (z_SR_off hS (i := 72) (c := 11) (k := 30) (o := 14) (n := 1488) (Nat.lt_of_lt_of_le (Nat.le_of_ble_eq_true rfl) hS.1) zk_72 (by decide) rfl).2.2 (by decide)
theorem za_87 {S : zSt} (hS : zSR S) : zA S 87 = 1488 := (z_SR_off hS (i := 72) (c := 11) (k := 31) (o := 15) (n := 1488) (Nat.lt_of_lt_of_le (Nat.le_of_ble_eq_true rfl) hS.1) zk_72 (by decide) rfl).2.2 (by decide)
theorem za_88 {S : zSt} (hS : zSR S) : zA S 88 = 9 := (z_SR_off hS (i := 72) (c := 11) (k := 33) (o := 16) (n := 9) (Nat.lt_of_lt_of_le (Nat.le_of_ble_eq_true rfl) hS.1) zk_72 (by decide) rfl).2.2 (by decide)
theorem za_89 {S : zSt} (hS : zSR S) : zA S 89 = 81 := (z_SR_off hS (i := 72) (c := 11) (k := 34) (o := 17) (n := 81) (Nat.lt_of_lt_of_le (Nat.le_of_ble_eq_true rfl) hS.1) zk_72 (by decide) rfl).2.2 (by decide)
theorem za_90 {S : zSt} (hS : zSR S) : zA S 90 = 81 := (z_SR_off hS (i := 72) (c := 11) (k := 35) (o := 18) (n := 81) (Nat.lt_of_lt_of_le (Nat.le_of_ble_eq_true rfl) hS.1) zk_72 (by decide) rfl).2.2 (by decide)
theorem za_91 {S : zSt} (hS : zSR S) : zA S 91 = 4608 := (z_SR_off hS (i := 72) (c := 11) (k := 36) (o := 19) (n := 4608) (Nat.lt_of_lt_of_le (Nat.le_of_ble_eq_true rfl) hS.1) zk_72 (by decide) rfl).2.2 (by decide)
theorem za_92 {S : zSt} (hS : zSR S) : zA S 92 = 81 := (z_SR_off hS (i := 72) (c := 11) (k := 37) (o := 20) (n := 81) (Nat.lt_of_lt_of_le (Nat.le_of_ble_eq_true rfl) hS.1) zk_72 (by decide) rfl).2.2 (by decide)
theorem za_93 {S : zSt} (hS : zSR S) : zA S 93 = 81 := (z_SR_off hS (i := 72) (c := 11) (k := 38) (o := 21) (n := 81) (Nat.lt_of_lt_of_le (Nat.le_of_ble_eq_true rfl) hS.1) zk_72 (by decide) rfl).2.2 (by decide)
theorem za_94 {S : zSt} (hS : zSR S) : zA S 94 = 90 := (z_SR_off hS (i := 72) (c := 11) (k := 39) (o := 22) (n := 90) (Nat.lt_of_lt_of_le (Nat.le_of_ble_eq_true rfl) hS.1) zk_72 (by decide) rfl).2.2 (by decide)
theorem za_95 {S : zSt} (hS : zSR S) : zA S 95 = 21 := (z_SR_off hS (i := 72) (c := 11) (k := 40) (o := 23) (n := 21) (Nat.lt_of_lt_of_le (Nat.le_of_ble_eq_true rfl) hS.1) zk_72 (by decide) rfl).2.2 (by decide)
theorem za_96 {S : zSt} (hS : zSR S) : zA S 96 = 2 := (z_SR_off hS (i := 72) (c := 11) (k := 47) (o := 24) (n := 2) (Nat.lt_of_lt_of_le (Nat.le_of_ble_eq_true rfl) hS.1) zk_72 (by decide) rfl).2.2 (by decide)
theorem za_97 {S : zSt} (hS : zSR S) : zA S 97 = 92 := (z_SR_off hS (i := 72) (c := 11) (k := 48) (o := 25) (n := 92) (Nat.lt_of_lt_of_le (Nat.le_of_ble_eq_true rfl) hS.1) zk_72 (by decide) rfl).2.2 (by decide)
theorem zko_5_1 {p : Nat} (h : zK p = 5) (g : p < zN0) : p + 1 < zN0 ∧ zK (p + 1) = 50 := (show ∀ p, p < zN0 → zK p = 5 → p + 1 < zN0 ∧ zK (p + 1) = 50 by decide +kernel) p g h
theorem zsa_5_1 {S : zSt} {p : Nat} (hS : zSR S) (h : zK p = 5) (g : p < zN0) : zA S (p + 1) = 9 := (z_SR_off hS (i := p) (c := 5) (k := 1) (o := 1) (n := 9) (Nat.lt_of_lt_of_le g hS.1) h (by decide) rfl).2.2 (by decide)
theorem zko_5_2 {p : Nat} (h : zK p = 5) (g : p < zN0) : p + 2 < zN0 ∧ zK (p + 2) = 50 := (show ∀ p, p < zN0 → zK p = 5 → p + 2 < zN0 ∧ zK (p + 2) = 50 by decide +kernel) p g h
theorem zsa_5_2 {S : zSt} {p : Nat} (hS : zSR S) (h : zK p = 5) (g : p < zN0) : zA S (p + 2) = 36 := (z_SR_off hS (i := p) (c := 5) (k := 2) (o := 2) (n := 36) (Nat.lt_of_lt_of_le g hS.1) h (by decide) rfl).2.2 (by decide)
theorem zko_5_3 {p : Nat} (h : zK p = 5) (g : p < zN0) : p + 3 < zN0 ∧ zK (p + 3) = 50 := (show ∀ p, p < zN0 → zK p = 5 → p + 3 < zN0 ∧ zK (p + 3) = 50 by decide +kernel) p g h
theorem zsa_5_3 {S : zSt} {p : Nat} (hS : zSR S) (h : zK p = 5) (g : p < zN0) : zA S (p + 3) = 6 := (z_SR_off hS (i := p) (c := 5) (k := 10) (o := 3) (n := 6) (Nat.lt_of_lt_of_le g hS.1) h (by decide) rfl).2.2 (by decide)
theorem zko_5_4 {p : Nat} (h : zK p = 5) (g : p < zN0) : p + 4 < zN0 ∧ zK (p + 4) = 50 := (show ∀ p, p < zN0 → zK p = 5 → p + 4 < zN0 ∧ zK (p + 4) = 50 by decide +kernel) p g h
theorem zsa_5_4 {S : zSt} {p : Nat} (hS : zSR S) (h : zK p = 5) (g : p < zN0) : zA S (p + 4) = 6 := (z_SR_off hS (i := p) (c := 5) (k := 11) (o := 4) (n := 6) (Nat.lt_of_lt_of_le g hS.1) h (by decide) rfl).2.2 (by decide)
theorem zko_5_5 {p : Nat} (h : zK p = 5) (g : p < zN0) : p + 5 < zN0 ∧ zK (p + 5) = 55 := (show ∀ p, p < zN0 → zK p = 5 → p + 5 < zN0 ∧ zK (p + 5) = 55 by decide +kernel) p g h
theorem zsa_5_5 {S : zSt} {p : Nat} (hS : zSR S) (h : zK p = 5) (g : p < zN0) : zA S (p + 5) = 6 := (z_SR_off hS (i := p) (c := 5) (k := 13) (o := 5) (n := 6) (Nat.lt_of_lt_of_le g hS.1) h (by decide) rfl).2.2 (by decide)
theorem zko_2_1 {p : Nat} (h : zK p = 2) (g : p < zN0) : p + 1 < zN0 ∧ zK (p + 1) = 50 := (show ∀ p, p < zN0 → zK p = 2 → p + 1 < zN0 ∧ zK (p + 1) = 50 by decide +kernel) p g h
theorem zsa_2_1 {S : zSt} {p : Nat} (hS : zSR S) (h : zK p = 2) (g : p < zN0) : zA S (p + 1) = 16 := (z_SR_off hS (i := p) (c := 2) (k := 2) (o := 1) (n := 16) (Nat.lt_of_lt_of_le g hS.1) h (by decide) rfl).2.2 (by decide)
theorem zko_2_2 {p : Nat} (h : zK p = 2) (g : p < zN0) : p + 2 < zN0 ∧ zK (p + 2) = 50 := (show ∀ p, p < zN0 → zK p = 2 → p + 2 < zN0 ∧ zK (p + 2) = 50 by decide +kernel) p g h
theorem zsa_2_2 {S : zSt} {p : Nat} (hS : zSR S) (h : zK p = 2) (g : p < zN0) : zA S (p + 2) = 16 := (z_SR_off hS (i := p) (c := 2) (k := 3) (o := 2) (n := 16) (Nat.lt_of_lt_of_le g hS.1) h (by decide) rfl).2.2 (by decide)
theorem zko_2_3 {p : Nat} (h : zK p = 2) (g : p < zN0) : p + 3 < zN0 ∧ zK (p + 3) = 50 := (show ∀ p, p < zN0 → zK p = 2 → p + 3 < zN0 ∧ zK (p + 3) = 50 by decide +kernel) p g h
theorem zsa_2_3 {S : zSt} {p : Nat} (hS : zSR S) (h : zK p = 2) (g : p < zN0) : zA S (p + 3) = 16 := (z_SR_off hS (i := p) (c := 2) (k := 4) (o := 3) (n := 16) (Nat.lt_of_lt_of_le g hS.1) h (by decide) rfl).2.2 (by decide)
theorem zko_2_4 {p : Nat} (h : zK p = 2) (g : p < zN0) : p + 4 < zN0 ∧ zK (p + 4) = 51 := (show ∀ p, p < zN0 → zK p = 2 → p + 4 < zN0 ∧ zK (p + 4) = 51 by decide +kernel) p g h
theorem zsa_2_4 {S : zSt} {p : Nat} (hS : zSR S) (h : zK p = 2) (g : p < zN0) : zA S (p + 4) = 16 := (z_SR_off hS (i := p) (c := 2) (k := 5) (o := 4) (n := 16) (Nat.lt_of_lt_of_le g hS.1) h (by decide) rfl).2.2 (by decide)
theorem zko_2_5 {p : Nat} (h : zK p = 2) (g : p < zN0) : p + 5 < zN0 ∧ zK (p + 5) = 51 := (show ∀ p, p < zN0 → zK p = 2 → p + 5 < zN0 ∧ zK (p + 5) = 51 by decide +kernel) p g h
theorem zsa_2_5 {S : zSt} {p : Nat} (hS : zSR S) (h : zK p = 2) (g : p < zN0) : zA S (p + 5) = 16 := (z_SR_off hS (i := p) (c := 2) (k := 6) (o := 5) (n := 16) (Nat.lt_of_lt_of_le g hS.1) h (by decide) rfl).2.2 (by decide)
theorem ztk_1 {p : Nat} (h : zK p = 10) : zK (p + 1) = 50 := by
  unfold zK at h ⊢
  split at h
  · rename_i g
    exact (show ∀ p, p < 98 → zKt.getD p 0 = 10 → (if p + 1 < 98 then zKt.getD (p + 1) 0 else if (p + 1 - 98) % 5 = 0 then 10 else 50) = 50 by decide +kernel) p g h
  · rename_i g
    rw [if_neg (by omega)]
    split at h
    · rw [if_neg (by omega)]
    · cases h
theorem ztx_1 {S : zSt} {p : Nat} (hS : zSR S) (h : zK p = 10) (g : p < zN S) : p + 1 < zN S ∧ zA S (p + 1) = 12 := by
  obtain ⟨-, h2, h3⟩ := z_SR_off hS (i := p) (c := 10) (k := 4) (o := 1) (n := 12) g h (by decide) rfl
  exact ⟨h2, h3 (by decide)⟩
theorem ztk_2 {p : Nat} (h : zK p = 10) : zK (p + 2) = 50 := by
  unfold zK at h ⊢
  split at h
  · rename_i g
    exact (show ∀ p, p < 98 → zKt.getD p 0 = 10 → (if p + 2 < 98 then zKt.getD (p + 2) 0 else if (p + 2 - 98) % 5 = 0 then 10 else 50) = 50 by decide +kernel) p g h
  · rename_i g
    rw [if_neg (by omega)]
    split at h
    · rw [if_neg (by omega)]
    · cases h
theorem ztx_2 {S : zSt} {p : Nat} (hS : zSR S) (h : zK p = 10) (g : p < zN S) : p + 2 < zN S ∧ zA S (p + 2) = 12 := by
  obtain ⟨-, h2, h3⟩ := z_SR_off hS (i := p) (c := 10) (k := 5) (o := 2) (n := 12) g h (by decide) rfl
  exact ⟨h2, h3 (by decide)⟩
theorem ztk_3 {p : Nat} (h : zK p = 10) : zK (p + 3) = 50 := by
  unfold zK at h ⊢
  split at h
  · rename_i g
    exact (show ∀ p, p < 98 → zKt.getD p 0 = 10 → (if p + 3 < 98 then zKt.getD (p + 3) 0 else if (p + 3 - 98) % 5 = 0 then 10 else 50) = 50 by decide +kernel) p g h
  · rename_i g
    rw [if_neg (by omega)]
    split at h
    · rw [if_neg (by omega)]
    · cases h
theorem ztx_3 {S : zSt} {p : Nat} (hS : zSR S) (h : zK p = 10) (g : p < zN S) : p + 3 < zN S ∧ zA S (p + 3) = 36 := by
  obtain ⟨-, h2, h3⟩ := z_SR_off hS (i := p) (c := 10) (k := 6) (o := 3) (n := 36) g h (by decide) rfl
  exact ⟨h2, h3 (by decide)⟩
theorem ztk_4 {p : Nat} (h : zK p = 10) : zK (p + 4) = 50 := by
  unfold zK at h ⊢
  split at h
  · rename_i g
    exact (show ∀ p, p < 98 → zKt.getD p 0 = 10 → (if p + 4 < 98 then zKt.getD (p + 4) 0 else if (p + 4 - 98) % 5 = 0 then 10 else 50) = 50 by decide +kernel) p g h
  · rename_i g
    rw [if_neg (by omega)]
    split at h
    · rw [if_neg (by omega)]
    · cases h
theorem ztx_4 {S : zSt} {p : Nat} (hS : zSR S) (h : zK p = 10) (g : p < zN S) : p + 4 < zN S ∧ True := by
  obtain ⟨-, h2, h3⟩ := z_SR_off hS (i := p) (c := 10) (k := 0) (o := 4) (n := 0) g h (by decide) rfl
  exact ⟨h2, trivial⟩
theorem zite {α : Type} {c : Prop} [Decidable c] {A B : Option α} {y : α} (h : (if c then A else B) = some y) : (c ∧ A = some y) ∨ (¬ c ∧ B = some y) := by
  by_cases hc : c
  · rw [if_pos hc] at h; exact Or.inl ⟨hc, h⟩
  · rw [if_neg hc] at h; exact Or.inr ⟨hc, h⟩
def zgd {α : Type} (c : Prop) [Decidable c] (A : Option α) : Option α := if c then A else none
theorem zgd_some {α : Type} {c : Prop} [Decidable c] {A : Option α} {y : α} (h : zgd c A = some y) : c ∧ A = some y := by
  unfold zgd at h
  by_cases hc : c
  · rw [if_pos hc] at h; exact ⟨hc, h⟩
  · rw [if_neg hc] at h; cases h
def zb1 {α β : Type} (x : Option α) (k : α → Option β) : Option β := match x with
  | some a => k a
  | none => none
theorem zb1_some {α β : Type} {x : Option α} {k : α → Option β} {y : β} (h : zb1 x k = some y) : ∃ a, x = some a ∧ k a = some y := by
  cases x with
  | none => cases h
  | some a => exact ⟨a, rfl, h⟩
def zb2 {α β : Type} (x : Option (α × zSt)) (k : α → zSt → Option β) : Option β := match x with
  | some (a, S) => k a S
  | none => none
theorem zb2_some {α β : Type} {x : Option (α × zSt)} {k : α → zSt → Option β} {y : β} (h : zb2 x k = some y) : ∃ a S, x = some (a, S) ∧ k a S = some y := by
  rcases x with _ | ⟨a, S⟩
  · cases h
  · exact ⟨a, S, rfl, h⟩
def zop {α : Type} (o : Option Nat) (A : Option α) (B : Nat → Option α) : Option α := match o with
  | none => A
  | some q => B q
theorem zop_some {α : Type} {o : Option Nat} {A : Option α} {B : Nat → Option α} {y : α} (h : zop o A B = some y) : (o = none ∧ A = some y) ∨ ∃ q, o = some q ∧ B q = some y := by
  cases o with
  | none => exact Or.inl ⟨rfl, h⟩
  | some q => exact Or.inr ⟨q, rfl, h⟩
section ZW
variable {p : Program} {l : Launch} {e : Env} {R : Room} {s : State} {m : MethodId} {args : Array Value} {below : List Frame} {meth : Method} {c : Code} {G : zG} {nL cells slots : Nat} {Q : State → Prop} {S : zSt} {cc : ByteArray} {own : String} {pc : Nat} {ls : List (Nat × zV)} {st : List zV}
theorem z_fact (k : zSR S → zJ p l e R s m args below meth c G true nL cells slots Q S pc ls st) : zJ p l e R s m args below meth c G true nL cells slots Q S pc ls st := fun H locs la hW hq hl => k (hW.2.2.2.2 rfl) H locs la hW hq hl
theorem zq_lsub (is : List Nat) (ls1 : List (Nat × zV)) (h : is.filterMap (fun i => ls[i]?) = ls1) (k : zJ p l e R s m args below meth c G true nL cells slots Q S pc ls1 st) : zJ p l e R s m args below meth c G true nL cells slots Q S pc ls st := by
  intro H locs la hW hq hl
  refine k H locs la hW hq (lv_sub hl is ?_)
  subst h
  unfold lv_pick zls
  rw [List.map_filterMap]
  congr 1
  funext i
  rw [List.getElem?_map]
theorem z_ialoadS (C : zC p s m args meth c G cc nL own) {i n : Nat} {x : Int32} (hi : (true = true ∧ i < zN0) ∨ i < zN S) (hK : zK i = 50) (hA : zA S i = n) (hx : 0 ≤ x ∧ x.toNatClampNeg < n) (d : decode cc pc = .ok (.iaload, 1)) (kk : zJ p l e R s m args below meth c G true nL cells slots Q S (pc + 1) ls (zi (zI S i x.toNatClampNeg) :: st)) : zJ p l e R s m args below meth c G true nL cells slots Q S pc ls (zi x :: zr (some i) :: st) := z_iaload C hi hK (by rw [hA]; exact hx) d kk
theorem z_laloadS (C : zC p s m args meth c G cc nL own) {i n : Nat} {x : Int32} (hi : (true = true ∧ i < zN0) ∨ i < zN S) (hK : zK i = 51) (hA : zA S i = n) (hx : 0 ≤ x ∧ x.toNatClampNeg < n) (d : decode cc pc = .ok (.laload, 1)) (kk : zJ p l e R s m args below meth c G true nL cells slots Q S (pc + 1) ls (zl (zL S i x.toNatClampNeg) :: st)) : zJ p l e R s m args below meth c G true nL cells slots Q S pc ls (zi x :: zr (some i) :: st) := z_laload C hi hK (by rw [hA]; exact hx) d kk
theorem z_baloadS (C : zC p s m args meth c G cc nL own) {i n : Nat} {x : Int32} (hi : (true = true ∧ i < zN0) ∨ i < zN S) (hK : zK i = 52) (hA : zA S i = n) (hx : 0 ≤ x ∧ x.toNatClampNeg < n) (d : decode cc pc = .ok (.baload, 1)) (kk : zJ p l e R s m args below meth c G true nL cells slots Q S (pc + 1) ls (zi (zI S i x.toNatClampNeg) :: st)) : zJ p l e R s m args below meth c G true nL cells slots Q S pc ls (zi x :: zr (some i) :: st) := z_baload C hi hK (by rw [hA]; exact hx) d kk
theorem z_zaloadS (C : zC p s m args meth c G cc nL own) {i n : Nat} {x : Int32} (hi : (true = true ∧ i < zN0) ∨ i < zN S) (hK : zK i = 53) (hA : zA S i = n) (hx : 0 ≤ x ∧ x.toNatClampNeg < n) (d : decode cc pc = .ok (.baload, 1)) (kk : zJ p l e R s m args below meth c G true nL cells slots Q S (pc + 1) ls (zi (zI S i x.toNatClampNeg) :: st)) : zJ p l e R s m args below meth c G true nL cells slots Q S pc ls (zi x :: zr (some i) :: st) := z_zaload C hi hK (by rw [hA]; exact hx) d kk
theorem z_paloadS (C : zC p s m args meth c G cc nL own) {i n : Nat} {x : Int32} (hi : (true = true ∧ i < zN0) ∨ i < zN S) (hK : zK i = 54) (hA : zA S i = n) (hx : 0 ≤ x ∧ x.toNatClampNeg < n) (d : decode cc pc = .ok (.aaload, 1)) (kk : zJ p l e R s m args below meth c G true nL cells slots Q S (pc + 1) ls (zr (zR S i x.toNatClampNeg) :: st)) : zJ p l e R s m args below meth c G true nL cells slots Q S pc ls (zi x :: zr (some i) :: st) := z_paload C hi hK (by rw [hA]; exact hx) d kk
theorem z_taloadS (C : zC p s m args meth c G cc nL own) {i n : Nat} {x : Int32} (hi : (true = true ∧ i < zN0) ∨ i < zN S) (hK : zK i = 55) (hA : zA S i = n) (hx : 0 ≤ x ∧ x.toNatClampNeg < n) (d : decode cc pc = .ok (.aaload, 1)) (kk : zJ p l e R s m args below meth c G true nL cells slots Q S (pc + 1) ls (zr (zR S i x.toNatClampNeg) :: st)) : zJ p l e R s m args below meth c G true nL cells slots Q S pc ls (zi x :: zr (some i) :: st) := z_taload C hi hK (by rw [hA]; exact hx) d kk
theorem z_iastoreS (C : zC p s m args meth c G cc nL own) {i n : Nat} {x : Int32} {v : Int32} (hi : (true = true ∧ i < zN0) ∨ i < zN S) (hK : zK i = 50) (hA : zA S i = n) (hx : 0 ≤ x ∧ x.toNatClampNeg < n) (d : decode cc pc = .ok (.iastore, 1)) (kk : zJ p l e R s m args below meth c G true nL cells slots Q (zwI S i x.toNatClampNeg v) (pc + 1) ls st) : zJ p l e R s m args below meth c G true nL cells slots Q S pc ls (zi v :: zi x :: zr (some i) :: st) := z_iastore C hi hK (by rw [hA]; exact hx) d kk
theorem z_lastoreS (C : zC p s m args meth c G cc nL own) {i n : Nat} {x : Int32} {v : Int64} (hi : (true = true ∧ i < zN0) ∨ i < zN S) (hK : zK i = 51) (hA : zA S i = n) (hx : 0 ≤ x ∧ x.toNatClampNeg < n) (d : decode cc pc = .ok (.lastore, 1)) (kk : zJ p l e R s m args below meth c G true nL cells slots Q (zwL S i x.toNatClampNeg v) (pc + 1) ls st) : zJ p l e R s m args below meth c G true nL cells slots Q S pc ls (zl v :: zi x :: zr (some i) :: st) := z_lastore C hi hK (by rw [hA]; exact hx) d kk
theorem z_bastoreS (C : zC p s m args meth c G cc nL own) {i n : Nat} {x : Int32} {v : Int32} (hi : (true = true ∧ i < zN0) ∨ i < zN S) (hK : zK i = 52) (hA : zA S i = n) (hx : 0 ≤ x ∧ x.toNatClampNeg < n) (d : decode cc pc = .ok (.bastore, 1)) (kk : zJ p l e R s m args below meth c G true nL cells slots Q (zwI S i x.toNatClampNeg v.toInt8.toInt32) (pc + 1) ls st) : zJ p l e R s m args below meth c G true nL cells slots Q S pc ls (zi v :: zi x :: zr (some i) :: st) := z_bastore C hi hK (by rw [hA]; exact hx) d kk
theorem z_zastoreS (C : zC p s m args meth c G cc nL own) {i n : Nat} {x : Int32} {v : Int32} (hi : (true = true ∧ i < zN0) ∨ i < zN S) (hK : zK i = 53) (hA : zA S i = n) (hx : 0 ≤ x ∧ x.toNatClampNeg < n) (d : decode cc pc = .ok (.bastore, 1)) (kk : zJ p l e R s m args below meth c G true nL cells slots Q (zwI S i x.toNatClampNeg (v &&& 1)) (pc + 1) ls st) : zJ p l e R s m args below meth c G true nL cells slots Q S pc ls (zi v :: zi x :: zr (some i) :: st) := z_zastore C hi hK (by rw [hA]; exact hx) d kk
theorem z_tastoreS (C : zC p s m args meth c G cc nL own) {i n : Nat} {x : Int32} {v : Option Nat} (hi : (true = true ∧ i < zN0) ∨ i < zN S) (hK : zK i = 55) (hA : zA S i = n) (hx : 0 ≤ x ∧ x.toNatClampNeg < n) (hv : ∀ j, v = some j → zK j = 10 ∧ j < zN S) (d : decode cc pc = .ok (.aastore, 1)) (kk : zJ p l e R s m args below meth c G true nL cells slots Q (zwR S i x.toNatClampNeg v) (pc + 1) ls st) : zJ p l e R s m args below meth c G true nL cells slots Q S pc ls (zr v :: zi x :: zr (some i) :: st) := z_tastore C hi hK (by rw [hA]; exact hx) hv d kk
theorem z_getF2 (C : zC p s m args meth c G cc nL own) {i idx : Nat} (t : Nat) (ht : t < 12) (k : Nat) (hk : k < zFN t) (hf : zft t k = 2) (o n : Nat) (ho : zoff t k = some (o, n)) (j : Nat) (hj : i + o = j) (hi : i < zN0 ∨ i < zN S) (hK : zK i = t) (hl : Cond.fieldLink own idx (zNm t) (zT t k).2.1 (zT t k).2.2.1 ∈ zGW) (d : decode cc pc = .ok (.getfield idx, 3)) (kk : zJ p l e R s m args below meth c G true nL cells slots Q S (pc + 3) ls (zr (some j) :: st)) : zJ p l e R s m args below meth c G true nL cells slots Q S pc ls (zr (some i) :: st) := by
  subst hj
  exact z_getF C t ht k hk hf o n ho hi hK hl d kk
theorem z_getFN2 (C : zC p s m args meth c G cc nL own) {i idx : Nat} {host : String} (t : Nat) (ht : t < 12) (k : Nat) (hk : k < zFN t) (hf : zft t k = 2) (o n : Nat) (ho : zoff t k = some (o, n)) (j : Nat) (hj : i + o = j) (hi : i < zN0 ∨ i < zN S) (hK : zK i = t) (hl : va_Nw (.fieldLinkNest own idx (zNm t) (zT t k).2.1 (zT t k).2.2.1 host) s) (d : decode cc pc = .ok (.getfield idx, 3)) (kk : zJ p l e R s m args below meth c G true nL cells slots Q S (pc + 3) ls (zr (some j) :: st)) : zJ p l e R s m args below meth c G true nL cells slots Q S pc ls (zr (some i) :: st) := by
  subst hj
  exact z_getFN C t ht k hk hf o n ho hi hK hl d kk
theorem z_alen50S (C : zC p s m args meth c G cc nL own) {i n : Nat} (v : Int32) (hv : n.toInt32 = v) (hi : (true = true ∧ i < zN0) ∨ i < zN S) (hK : zK i = 50) (hA : zA S i = n) (d : decode cc pc = .ok (.arraylength, 1)) (kk : zJ p l e R s m args below meth c G true nL cells slots Q S (pc + 1) ls (zi v :: st)) : zJ p l e R s m args below meth c G true nL cells slots Q S pc ls (zr (some i) :: st) := z_alen50 C hi hK d (by rw [hA, hv]; exact kk)
theorem z_alen51S (C : zC p s m args meth c G cc nL own) {i n : Nat} (v : Int32) (hv : n.toInt32 = v) (hi : (true = true ∧ i < zN0) ∨ i < zN S) (hK : zK i = 51) (hA : zA S i = n) (d : decode cc pc = .ok (.arraylength, 1)) (kk : zJ p l e R s m args below meth c G true nL cells slots Q S (pc + 1) ls (zi v :: st)) : zJ p l e R s m args below meth c G true nL cells slots Q S pc ls (zr (some i) :: st) := z_alen51 C hi hK d (by rw [hA, hv]; exact kk)
theorem z_alen52S (C : zC p s m args meth c G cc nL own) {i n : Nat} (v : Int32) (hv : n.toInt32 = v) (hi : (true = true ∧ i < zN0) ∨ i < zN S) (hK : zK i = 52) (hA : zA S i = n) (d : decode cc pc = .ok (.arraylength, 1)) (kk : zJ p l e R s m args below meth c G true nL cells slots Q S (pc + 1) ls (zi v :: st)) : zJ p l e R s m args below meth c G true nL cells slots Q S pc ls (zr (some i) :: st) := z_alen52 C hi hK d (by rw [hA, hv]; exact kk)
theorem z_alen55S (C : zC p s m args meth c G cc nL own) {i n : Nat} (v : Int32) (hv : n.toInt32 = v) (hi : (true = true ∧ i < zN0) ∨ i < zN S) (hK : zK i = 55) (hA : zA S i = n) (d : decode cc pc = .ok (.arraylength, 1)) (kk : zJ p l e R s m args below meth c G true nL cells slots Q S (pc + 1) ls (zi v :: st)) : zJ p l e R s m args below meth c G true nL cells slots Q S pc ls (zr (some i) :: st) := z_alen55 C hi hK d (by rw [hA, hv]; exact kk)
theorem z_cV {y : MethodName} {bytes : ByteArray} {maxL : Nat} {ret : Option FieldType} {rm : Room} {As : List zV} {S1 : zSt} {v : Option zV} {i idx n : Nat} (C : zC p s m args meth c G cc nL own) (t : Nat) (ht : t < 12) (hM : zPM l y bytes maxL ret rm true true (zr (some i) :: As) S v S1) (hF : zMF y bytes maxL ret n) (hlk : Cond.methodLink own idx y ∈ zGW) (hin : Cond.instanceMethod y ∈ zGW) (hse : Cond.selects y.cls y y ∈ zGW) (hyt : y.cls = zNm t) (hi : (true = true ∧ i < zN0) ∨ i < zN S) (hK : zK i = t) (hz : rm.cells = 0 ∧ rm.slots = 0) (hR : rm.frames + 1 ≤ R.frames ∧ 8 + (maxL + 11) + rm.locals ≤ R.locals) (hcs : cells ≤ R.cells ∧ slots ≤ R.slots) (hn : As.length = n) (stk rest : List zV) (hstk : stk = As.reverse ++ zr (some i) :: rest) (hst : (rest.map zcat).sum ≤ 8) (d : decode cc pc = .ok (.invokevirtual idx, 3)) (kk : zJ p l e R s m args below meth c G true nL cells slots Q S1 (pc + 3) ls (zres v rest)) : zJ p l e R s m args below meth c G true nL cells slots Q S pc ls stk := by
  refine z_callV C t ht hM hF hlk hin (Or.inl hse) hyt hi hK ⟨hR.1, hR.2, by rw [hz.1]; exact hcs.1, by rw [hz.2]; exact hcs.2⟩ hn stk rest hstk hst d ?_
  rw [hz.1, hz.2]
  exact kk
theorem z_cS {y : MethodName} {bytes : ByteArray} {maxL : Nat} {ret : Option FieldType} {rm : Room} {As : List zV} {S1 : zSt} {v : Option zV} {idx n : Nat} (C : zC p s m args meth c G cc nL own) (hM : zPM l y bytes maxL ret rm true true As S v S1) (hF : zMF y bytes maxL ret n) (hlk : Cond.methodLink own idx y ∈ zGW) (hin : Cond.static y ∈ zGW) (hz : rm.cells = 0 ∧ rm.slots = 0) (hR : rm.frames + 1 ≤ R.frames ∧ 8 + (maxL + 11) + rm.locals ≤ R.locals) (hcs : cells ≤ R.cells ∧ slots ≤ R.slots) (hn : As.length = n) (stk rest : List zV) (hstk : stk = As.reverse ++ rest) (hst : (rest.map zcat).sum ≤ 8) (d : decode cc pc = .ok (.invokestatic idx, 3)) (kk : zJ p l e R s m args below meth c G true nL cells slots Q S1 (pc + 3) ls (zres v rest)) : zJ p l e R s m args below meth c G true nL cells slots Q S pc ls stk := by
  refine z_callS C hM hF hlk hin ⟨hR.1, hR.2, by rw [hz.1]; exact hcs.1, by rw [hz.2]; exact hcs.2⟩ hn stk rest hstk hst d ?_
  rw [hz.1, hz.2]
  exact kk
theorem z_tab (C : zC p s m args meth c G cc nL own) {dflt lo hi : Int} {offs : Array Int} {len : Nat} {x : Int32} (q : Int32) (off : Int) (tgt : Nat) (hx : x = q) (h1 : ¬ q.toInt < lo) (h2 : ¬ hi < q.toInt) (ho : offs[(q.toInt - lo).toNat]? = some off) (ht : (pc : Int) + off = (tgt : Int)) (d : decode cc pc = .ok (.tableswitch dflt lo hi offs, len)) (kk : zJ p l e R s m args below meth c G true nL cells slots Q S tgt ls st) : zJ p l e R s m args below meth c G true nL cells slots Q S pc ls (zi x :: st) := by
  subst hx
  exact z_tableIn C tgt off h1 h2 d ho ht kk
theorem z_tabO (C : zC p s m args meth c G cc nL own) {dflt hi : Int} {offs : Array Int} {len : Nat} {x : Int32} (lo : Int) (n : Nat) (hn : lo + n = hi + 1) (h : ∀ j : Nat, j < n → ¬ x = Int32.ofInt (lo + j)) (tgt : Nat) (ht : (pc : Int) + dflt = (tgt : Int)) (d : decode cc pc = .ok (.tableswitch dflt lo hi offs, len)) (kk : zJ p l e R s m args below meth c G true nL cells slots Q S tgt ls st) : zJ p l e R s m args below meth c G true nL cells slots Q S pc ls (zi x :: st) := by
  refine z_tableOut C tgt ?_ d ht kk
  by_cases h1 : x.toInt < lo
  · exact Or.inl h1
  · refine Or.inr (Int.lt_of_not_ge fun h2 => ?_)
    refine h (x.toInt - lo).toNat (by omega) ?_
    rw [show lo + ((x.toInt - lo).toNat : Int) = x.toInt by omega, Int32.ofInt_toInt]
end ZW

/-! small numbers as Int32; loops; the class's code run -/
theorem n_le {a b : Nat} (ha : a < 2 ^ 31) (hb : b < 2 ^ 31) : nI a ≤ nI b ↔ a ≤ b := by rw [q_le, q_nI ha, q_nI hb]; omega
theorem n_lt {a b : Nat} (ha : a < 2 ^ 31) (hb : b < 2 ^ 31) : nI a < nI b ↔ a < b := by rw [q_lt, q_nI ha, q_nI hb]; omega
theorem n_eq {a b : Nat} (ha : a < 2 ^ 31) (hb : b < 2 ^ 31) : nI a = nI b ↔ a = b := by rw [q_eq, q_nI ha, q_nI hb]; omega
theorem n_add (a b : Nat) : nI a + nI b = nI (a + b) := (Int32.ofNat_add a b).symm
theorem n_1 (a : Nat) : nI a + 1 = nI (a + 1) := n_add a 1
theorem n_mul (a b : Nat) : nI a * nI b = nI (a * b) := (Int32.ofNat_mul a b).symm
theorem n_sub {a b : Nat} (h : b ≤ a) : nI a - nI b = nI (a - b) := by
  have h2 : nI a = nI (a - b) + nI b := by rw [n_add, Nat.sub_add_cancel h]
  rw [h2, Int32.add_sub_cancel]
theorem n_0 {a : Nat} (ha : a < 2 ^ 31) : 0 ≤ nI a := by rw [q_le, q_nI ha]; exact Int.natCast_nonneg a
theorem n_neg {a : Nat} (ha : a < 2 ^ 31) : ¬ nI a < 0 := by rw [q_lt, q_nI ha]; exact fun h => absurd h (by have : (0 : Int32).toInt = 0 := rfl; omega)
theorem q_0 : (0 : Int32).toInt = 0 := rfl
theorem n_gd {α : Type} {a m : Nat} {A : Option α} (ha : a < 2 ^ 31) (h : a < m) : zgd (0 ≤ nI a ∧ (nI a).toNatClampNeg < m) A = A := qgd ⟨n_0 ha, by rw [q_cl ha]; exact h⟩
/-- a loop that counts up to N -/
theorem up_loop {σ β : Type} (N : Nat) (F : Nat → Nat → σ → β) (P : Nat → σ → Prop) (Q : β → Prop)
    (hend : ∀ n s, P N s → Q (F (n + 1) N s))
    (hstep : ∀ n i s, i < N → P i s → (∃ s', P (i + 1) s' ∧ F (n + 1) i s = F n (i + 1) s') ∨ Q (F (n + 1) i s)) :
    ∀ n i s, i ≤ N → N < n + i → P i s → Q (F n i s) := by
  intro n
  induction n with
  | zero => intro i s h1 h2; omega
  | succ n ih =>
    intro i s h1 h2 hp
    by_cases h : i = N
    · rw [h] at hp ⊢; exact hend n s hp
    · rcases hstep n i s (by omega) hp with ⟨s', h3, h4⟩ | h3
      · rw [h4]; exact ih (i + 1) s' (by omega) (by omega) h3
      · exact h3
/-- the same for a loop that surely comes to its end -/
theorem up_all {σ β : Type} (N : Nat) (F : Nat → Nat → σ → β) (K : σ → β) (P : Nat → σ → Prop)
    (hend : ∀ n s, P N s → F (n + 1) N s = K s)
    (hstep : ∀ n i s, i < N → P i s → ∃ s', P (i + 1) s' ∧ F (n + 1) i s = F n (i + 1) s') {n i : Nat} {s : σ} (h1 : i ≤ N) (h2 : N < n + i) (h3 : P i s) :
    ∃ s', P N s' ∧ F n i s = K s' :=
  up_loop N F P (fun r => ∃ s', P N s' ∧ r = K s') (fun n s h => ⟨s, h, hend n s h⟩) (fun n i s h1 h2 => Or.inl (hstep n i s h1 h2)) n i s h1 h2 h3
def SK (f : Nat → Int64) : List Int → Prop
  | [] => True
  | v :: r => f r.length = Int64.ofInt v ∧ SK f r
theorem SK_up {f g : Nat → Int64} : ∀ {st : List Int}, SK f st → (∀ k, k < st.length → g k = f k) → SK g st
  | [], _, _ => trivial
  | v :: r, h, hk => ⟨by rw [hk r.length (by simp)]; exact h.1, SK_up h.2 (fun k hkk => hk k (by simp; omega))⟩
/-- the class's code: none: broken -/
def xrun (c : Nat → Int32) (len W : Nat) (E : Nat → Int32) : Nat → Nat → List Int → Option Int
  | 0, _, _ => none
  | n + 1, a, st => if len ≤ a then none
    else if 1 < c a &&& 15 then (match st with
      | [] => none
      | v :: r => if c a &&& 15 = 13 then some v
        else if c a &&& 15 = 4 then xrun c len W E n (a + 1) ((1 - v) :: r)
        else if 3 < c a &&& 15 then (match r with
          | [] => none
          | x :: r' => match xop (c a &&& 15) x v with
            | none => none
            | some z => xrun c len W E n (a + 1) (z :: r'))
        else if v = (if c a &&& 15 = 3 then 1 else 0) then xrun c len W E n (if a + 1 < (c a >>> ((4 : Int32) &&& 31)).toNatClampNeg then (c a >>> ((4 : Int32) &&& 31)).toNatClampNeg else a + 1) (v :: r)
        else xrun c len W E n (a + 1) r)
    else if 50 ≤ st.length then none
    else if c a &&& 15 = 1 then (if 0 ≤ (c a >>> ((4 : Int32) &&& 31)).toInt ∧ (c a >>> ((4 : Int32) &&& 31)).toInt < (W : Int) then xrun c len W E n (a + 1) ((E (c a >>> ((4 : Int32) &&& 31)).toNatClampNeg).toInt :: st) else none)
    else xrun c len W E n (a + 1) ((c a >>> ((4 : Int32) &&& 31)).toInt :: st)
theorem xrun_s (c : Nat → Int32) (len W : Nat) (E : Nat → Int32) (n a : Nat) (st : List Int) : xrun c len W E (n + 1) a st = (if len ≤ a then none
    else if 1 < c a &&& 15 then (match st with
      | [] => none
      | v :: r => if c a &&& 15 = 13 then some v
        else if c a &&& 15 = 4 then xrun c len W E n (a + 1) ((1 - v) :: r)
        else if 3 < c a &&& 15 then (match r with
          | [] => none
          | x :: r' => match xop (c a &&& 15) x v with
            | none => none
            | some z => xrun c len W E n (a + 1) (z :: r'))
        else if v = (if c a &&& 15 = 3 then 1 else 0) then xrun c len W E n (if a + 1 < (c a >>> ((4 : Int32) &&& 31)).toNatClampNeg then (c a >>> ((4 : Int32) &&& 31)).toNatClampNeg else a + 1) (v :: r)
        else xrun c len W E n (a + 1) r)
    else if 50 ≤ st.length then none
    else if c a &&& 15 = 1 then (if 0 ≤ (c a >>> ((4 : Int32) &&& 31)).toInt ∧ (c a >>> ((4 : Int32) &&& 31)).toInt < (W : Int) then xrun c len W E n (a + 1) ((E (c a >>> ((4 : Int32) &&& 31)).toNatClampNeg).toInt :: st) else none)
    else xrun c len W E n (a + 1) ((c a >>> ((4 : Int32) &&& 31)).toInt :: st)) := rfl
theorem xop_rg {w : Int32} {x y z : Int} (h : xop w x y = some z) : -2147483648 ≤ z ∧ z ≤ 2147483648 := by
  have hb : ∀ z', lbd z' = some z → -2147483648 ≤ z ∧ z ≤ 2147483648 := by
    intro z' h
    unfold lbd at h
    split at h
    · cases h
    · injection h with h; omega
  unfold xop at h
  split at h
  · injection h with h; split at h <;> omega
  · split at h
    · injection h with h; split at h <;> omega
    · split at h
      · injection h with h; split at h <;> omega
      · unfold lop at h
        split at h
        · exact hb _ h
        · exact hb _ h
        · exact hb _ h
        · split at h
          · cases h
          · exact hb _ h
        · split at h
          · cases h
          · exact hb _ h
theorem w13 : ∀ k, k < 16 → k ≤ 13 → ¬ (1 : Int32) < nI k ∨ k = 2 ∨ k = 3 ∨ k = 4 ∨ k = 13 ∨ (nI k = 5 ∨ nI k = 6 ∨ nI k = 7 ∨ nI k = 8 ∨ nI k = 9 ∨ nI k = 10 ∨ nI k = 11 ∨ nI k = 12) := by decide

/-! bound: what channels weigh -/
def wgP (P : zP) (a b : Nat) : Int32 := if a ≠ b ∧ pFar P a b ≠ 0 ∧ pSh P a b = false then pTl P (pLaw P) 1 a b else 0
theorem wg_rg {P : zP} (a b : Nat) : ∃ v : Nat, v ≤ 99 ∧ wgP P a b = nI v := by
  unfold wgP
  by_cases h : a ≠ b ∧ pFar P a b ≠ 0 ∧ pSh P a b = false
  · rw [if_pos h]
    unfold pTl
    cases lTell 1 (eC P a b) (pLaw P) with
    | some v => exact ⟨clN (kLo 1) (kHi 1) v, Nat.le_trans (clN_rg (by decide) v).2 (by decide), rfl⟩
    | none => exact ⟨1, by omega, rfl⟩
  · rw [if_neg h]; exact ⟨0, by omega, rfl⟩
def wgC (S : zSt) (P : zP) (a b : Nat) : Prop := zI S 55 0 = nI (pN P) ∧ ∀ x y, x < pN P → y < pN P → (x < a ∨ (x = a ∧ y < b)) → zI S 59 (9 * x + y) = wgP P x y
def wgM (S : zSt) (P : zP) (a b : Nat) : Prop := ∀ x y, x < pN P → y < pN P → (x < a ∨ (x = a ∧ y < b)) → zI S 92 (9 * x + y) = wgP P x y
theorem wg_w {S : zSt} {P : zP} (h9 : pN P ≤ 9) {r a b : Nat} (h : ∀ x y, x < pN P → y < pN P → (x < a ∨ (x = a ∧ y < b)) → zI S r (9 * x + y) = wgP P x y) (ha : a < pN P) (hb : b < pN P) : ∀ x y, x < pN P → y < pN P → (x < a ∨ (x = a ∧ y < b + 1)) → zI (zwI S r (9 * a + b) (wgP P a b)) r (9 * x + y) = wgP P x y := by
  intro x y hx hy hxy
  rw [qII]
  by_cases e : 9 * x + y = 9 * a + b
  · rw [if_pos ⟨rfl, e⟩, show x = a by omega, show y = b by omega]
  · rw [if_neg (fun h => e h.2)]
    exact h x y hx hy (by omega)

/-! the class's parser: one more operator with what it joins -/
/-- a piece's function does what the spec says, for every beginning with so many brackets -/
def pOk (B : Nat → Int32) (T : Nat) (ord : Int32) (W b : Nat) (f : zSt → Option (Int32 × zSt)) (p : Nat → Nat → lR) : Prop := ∀ (S : zSt) (i q l : Nat), zPS S B T ord i q b l → l ≤ i + 30 → q ≤ 50 → ∃ r S', f S = some (r, S') ∧ zOut S B T ord W i q b l (p i q) r S'
def pOkT (B : Nat → Int32) (T : Nat) (ord : Int32) (W b : Nat) (f : zSt → Option (Int32 × zSt)) (p : Nat → Nat → lRT) : Prop := ∀ (S : zSt) (i q l : Nat), zPS S B T ord i q b l → l ≤ i + 30 → q ≤ 50 → ∃ r S', f S = some (r, S') ∧ zOutT S B T ord W i q b l (p i q) r S'
theorem noSoon_op {d1 d2 : lD} (o : Nat) (h1 : noSoon d1) (h2 : noSoon d2) : noSoon (lopD o d1 d2) := by
  intro E E' hE
  unfold lopD
  rw [h1 E E' hE, h2 E E' hE]
theorem codeOk_t {c : Nat → Int32} {l l' l'' : Nat} (h1 : codeOk c l l') (h2 : codeOk c l' l'') : codeOk c l l'' := fun k a b => by
  by_cases h : k < l'
  · exact h1 k a h
  · exact h2 k (by omega) b
theorem codeOk_e {c c' : Nat → Int32} {l l' : Nat} (h : codeOk c l l') (he : ∀ k, k < l' → c' k = c k) : codeOk c' l l' := fun k a b => by rw [he k b]; exact h k a b
theorem xop_lop {w : Nat} (hw : 5 ≤ w ∧ w ≤ 9) (x y : Int) : xop (nI w) x y = lop w x y := by
  have h : ¬ nI w = 10 ∧ ¬ nI w = 11 ∧ ¬ nI w = 12 := (by decide : ∀ w, w < 10 → 5 ≤ w → (¬ nI w = 10 ∧ ¬ nI w = 11 ∧ ¬ nI w = 12)) w (by omega) hw.1
  unfold xop
  rw [if_neg h.1, if_neg h.2.1, if_neg h.2.2, q_cl (by omega)]

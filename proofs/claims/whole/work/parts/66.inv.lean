/-! what holds between class and reference ahead of each call -/
/-- what hands move: where the eel is, the day, mud, what is shut -/
abbrev zMv : Type := Nat × Nat × (Nat → Int32) × (Nat → Nat → Bool)
def pMv (P : zP) : zMv := (pAt P, pDay P, pMud P, pSh P)
def pSet (P : zP) (m : zMv) : zP := (pN P, pLv P, pFar P, m.2.2.1, m.2.2.2, (m.1, m.2.1, pSlips P, pMood P), pHd P, pLw P, pFc P)
theorem pSet_self (P : zP) : pSet P (pMv P) = P := rfl
/-- what is kept of what hands moved, the newest first: in the class's ring, in the reference's row -/
def jRel (S : zSt) (P : zP) (es : List (Nat × zMv)) : Prop := es.length ≤ 16 ∧ zI S 32 0 = nI es.length ∧ zI S 72 32 = nI es.length ∧ ∃ nx : Nat, nx ≤ 16 ∧ zI S 32 1 = nI nx ∧ ∀ (i : Nat) (e : Nat × zMv), es[i]? = some e → e.1 ≤ 3 ∧ pOK (pSet P e.2) ∧
  (zI S 33 ((nx + 31 - i) % 16) = nI e.1 ∧ zI S 34 ((nx + 31 - i) % 16) = nI e.2.1 ∧ zI S 35 ((nx + 31 - i) % 16) = nI e.2.2.1 ∧ (∀ a b, a < 9 → b < 9 → a ≠ b → bL (zL S 36 ((nx + 31 - i) % 16)) (pq a b) = e.2.2.2.2 a b) ∧ (∀ p, 36 ≤ p → bL (zL S 36 ((nx + 31 - i) % 16)) p = false) ∧ ∀ s, s < pN P → nib (zL S 37 ((nx + 31 - i) % 16)) s = e.2.2.2.1 s) ∧
  (zI S 86 (93 * (es.length - 1 - i)) = nI e.2.1 ∧ (∀ s, s < pN P → zI S 86 (93 * (es.length - 1 - i) + (1 + s)) = e.2.2.2.1 s) ∧ (∀ a b, a < 9 → b < 9 → a ≠ b → zI S 86 (93 * (es.length - 1 - i) + (10 + (9 * a + b))) = b2 (e.2.2.2.2 a b)) ∧ zI S 86 (93 * (es.length - 1 - i) + 91) = nI e.2.2.1 ∧ zI S 86 (93 * (es.length - 1 - i) + 92) = nI e.1)
/-- the images -/
def iIm (S : zSt) : Prop := ∀ k, k < 2 → (zI S (20 + 6 * k) 15 = 0 ∧ zI S 76 k = 0) ∨ (zI S (20 + 6 * k) 15 = 1 ∧ zI S 76 k = 1 ∧ ∃ P, pOK P ∧ cRep S (20 + 6 * k) P ∧ mRep S 75 (5807 * k) P)
def iTp (S : zSt) : Prop := ∃ T : Nat, T ≤ 400 ∧ zI S 44 1 = nI T ∧ zI S 72 13 = nI T ∧ ∀ k, k < T → zI S 45 k = zI S 79 k ∧ -128 ≤ (zI S 45 k).toInt ∧ (zI S 45 k).toInt ≤ 127
def iMs (S : zSt) : Prop := zI S 0 19 = zI S 72 0 ∧ zI S 0 16 = zI S 72 6 ∧ zI S 0 17 = zI S 72 14 ∧ zI S 0 18 = zI S 72 41 ∧ zI S 71 0 = zI S 73 1 ∧ zI S 71 1 = zI S 73 2 ∧ zI S 71 2 = zI S 73 3 ∧ zI S 71 4 = zI S 73 5 ∧ zI S 71 5 = zI S 73 6
def iDr (S : zSt) : Prop := ∃ n : Nat, n ≤ 9 ∧ zI S 13 0 = nI n ∧ ((n = 0 ∧ zI S 72 49 = -1) ∨ (0 < n ∧ zI S 72 49 = nI n)) ∧ (∀ s, s < n → nib (zL S 13 3) s = zI S 97 (1 + s)) ∧ (0 < n → zI S 13 5 = zI S 97 0)
/-- the texts by fives; all laws' cells hold texts, or nothing -/
def iNm (S : zSt) : Prop := (zN S - 98) % 5 = 0 ∧ ∀ o, (o = 1 ∨ o = 7 ∨ o = 13 ∨ o = 20 ∨ o = 26) → ∀ t q, t < 6 → zR S (o + 5) t = some q → zK q = 10 ∧ q < zN S
theorem iNm_e {S S' : zSt} (h : iNm S) (he : S'.2.2 = S.2.2) : iNm S' := by
  unfold iNm
  rw [show zN S' = zN S by unfold zN; rw [he], show zR S' = zR S by unfold zR; rw [he]]
  exact h
def iSt (S : zSt) : Prop := zT7 S ∧ zW8 S ∧ zSR S ∧ zA S 51 = 436 ∧ (∀ k, 23 ≤ k → zI S 69 k = 0) ∧ zR S 19 0 = some 20 ∧ zR S 19 1 = some 26 ∧ iNm S
def Inv (S : zSt) : Prop := ∃ (P : zP) (es : List (Nat × zMv)), pOK P ∧ cRep S 1 P ∧ mRep S 74 0 P ∧ jRel S P es ∧ iIm S ∧ iTp S ∧ iMs S ∧ iDr S ∧ iSt S
theorem zCo_72 {S S' : zSt} (h : zCo S S') {k : Nat} (hk : k = 0 ∨ k = 6 ∨ k = 13 ∨ k = 14 ∨ k = 32 ∨ k = 41 ∨ k = 49) : zI S' 72 k = zI S 72 k := h.2.1 72 k (by unfold scI; omega)
theorem jRel_co {S S' : zSt} {P : zP} {es : List (Nat × zMv)} (h : jRel S P es) (hc : zCo S S') : jRel S' P es := by
  unfold jRel
  rw [zCo_I hc (j := 32) (by omega), zCo_72 hc (k := 32) (by omega), zCo_I hc (j := 33) (by omega), zCo_I hc (j := 34) (by omega), zCo_I hc (j := 35) (by omega), zCo_L hc (j := 36) (by omega), zCo_L hc (j := 37) (by omega), zCo_I hc (j := 86) (by omega)]
  exact h
theorem iIm_co {S S' : zSt} (h : iIm S) (hc : zCo S S') : iIm S' := by
  intro k hk
  rw [zCo_I hc (j := 20 + 6 * k) (by omega), zCo_I hc (j := 76) (by omega)]
  rcases h k hk with h | ⟨h1, h2, P, h3, h4, h5⟩
  · exact Or.inl h
  · exact Or.inr ⟨h1, h2, P, h3, cRep_co h4 hc (by omega), mRep_co h5 hc (Or.inr rfl) h3⟩
theorem iTp_co {S S' : zSt} (h : iTp S) (hc : zCo S S') : iTp S' := by
  obtain ⟨T, h1, h2, h3, h4⟩ := h
  refine ⟨T, h1, ?_, ?_, fun k hk => ?_⟩
  · rw [hc.2.1 44 1 (by unfold scI; omega)]; exact h2
  · rw [zCo_72 hc (by omega)]; exact h3
  · rw [zCo_I hc (j := 45) (by omega), zCo_I hc (j := 79) (by omega)]; exact h4 k hk
theorem iMs_co {S S' : zSt} (h : iMs S) (hc : zCo S S') : iMs S' := by
  unfold iMs
  rw [zCo_I hc (j := 0) (by omega), zCo_72 hc (k := 0) (by omega), zCo_72 hc (k := 6) (by omega), zCo_72 hc (k := 14) (by omega), zCo_72 hc (k := 41) (by omega), zCo_I hc (j := 71) (by omega), zCo_I hc (j := 73) (by omega)]
  exact h
theorem iDr_co {S S' : zSt} (h : iDr S) (hc : zCo S S') : iDr S' := by
  unfold iDr
  rw [zCo_I hc (j := 13) (by omega), zCo_72 hc (k := 49) (by omega), zCo_L hc (j := 13) (by omega), zCo_I hc (j := 97) (by omega)]
  exact h
theorem zSR_e {S S' : zSt} (h : zSR S) (he : S'.2.2 = S.2.2) : zSR S' := by
  unfold zSR
  rw [show zN S' = zN S by unfold zN; rw [he], show zR S' = zR S by unfold zR; rw [he], show zA S' = zA S by unfold zA; rw [he]]
  exact h
theorem iSt_co {S S' : zSt} (h : iSt S) (hc : zCo S S') : iSt S' := by
  obtain ⟨h1, h2, h3, h4, h5, h6, h7, h8⟩ := h
  refine ⟨zT7_co h1 hc, ?_, zSR_e h3 hc.1, by rw [zCo_A hc]; exact h4, fun k hk => ?_, by rw [zCo_R hc]; exact h6, by rw [zCo_R hc]; exact h7, iNm_e h8 hc.1⟩
  · unfold zW8
    rw [zCo_I hc (j := 78) (by omega)]
    exact h2
  · rw [hc.2.1 69 k (by unfold scI; omega)]; exact h5 k hk
theorem Inv_co {S S' : zSt} (h : Inv S) (hc : zCo S S') : Inv S' := by
  obtain ⟨P, es, h1, h2, h3, h4, h5, h6, h7, h8, h9⟩ := h
  exact ⟨P, es, h1, cRep_co h2 hc (by omega), mRep_co h3 hc (Or.inl rfl) h1, jRel_co h4 hc, iIm_co h5 hc, iTp_co h6 hc, iMs_co h7 hc, iDr_co h8 hc, iSt_co h9 hc⟩
/-- a call of both: alike answers, and all holds behind it -/
def cOk {α : Type} (fE fM : zSt → Option (α × zSt)) (S : zSt) : Prop := ∃ v S1 S2, fE S = some (v, S1) ∧ fM S1 = some (v, S2) ∧ Inv S2 ∧ zN S ≤ zN S2 ∧ zN S2 ≤ zN S + 5
theorem cOk_q {α : Type} {fE fM : zSt → Option (α × zSt)} {S : zSt} (h : Inv S) {v : α} {S1 S2 : zSt} (h1 : fE S = some (v, S1)) (c1 : zCo S S1) (h2 : fM S1 = some (v, S2)) (c2 : zCo S1 S2) : cOk fE fM S := by
  have c := zCo_t c1 c2
  exact ⟨v, S1, S2, h1, h2, Inv_co h c, by rw [zCo_N c]; exact Nat.le_refl _, by rw [zCo_N c]; omega⟩
/-- the same for calls that write nothing at all -/
theorem cOk_0 {α : Type} {fE fM : zSt → Option (α × zSt)} {S : zSt} (h : Inv S) {v : α} (h1 : fE S = some (v, S)) (h2 : fM S = some (v, S)) : cOk fE fM S := cOk_q h h1 (zCo_r S) h2 (zCo_r S)
theorem inv_zA {S : zSt} (h : iSt S) : zA S 54 = 7 ∧ zA S 51 = 436 := ⟨h.1.1, h.2.2.2.1⟩

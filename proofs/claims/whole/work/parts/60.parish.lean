/-! a parish as it is: springs, levels, how far, mud, what is shut, terms, what was heard, laws, which is in force -/
abbrev zP : Type := Nat × (Nat → Int32) × (Nat → Nat → Int32) × (Nat → Int32) × (Nat → Nat → Bool) × (Nat × Nat × Nat × Nat) × List (Nat × Nat) × List (List lC) × Option Nat
abbrev pN (P : zP) : Nat := P.1
abbrev pLv (P : zP) : Nat → Int32 := P.2.1
abbrev pFar (P : zP) : Nat → Nat → Int32 := P.2.2.1
abbrev pMud (P : zP) : Nat → Int32 := P.2.2.2.1
abbrev pSh (P : zP) : Nat → Nat → Bool := P.2.2.2.2.1
abbrev pAt (P : zP) : Nat := P.2.2.2.2.2.1.1
abbrev pDay (P : zP) : Nat := P.2.2.2.2.2.1.2.1
abbrev pSlips (P : zP) : Nat := P.2.2.2.2.2.1.2.2.1
abbrev pMood (P : zP) : Nat := P.2.2.2.2.2.1.2.2.2
abbrev pHd (P : zP) : List (Nat × Nat) := P.2.2.2.2.2.2.1
abbrev pLw (P : zP) : List (List lC) := P.2.2.2.2.2.2.2.1
abbrev pFc (P : zP) : Option Nat := P.2.2.2.2.2.2.2.2
def fcI (o : Option Nat) : Int32 := match o with
  | none => -1
  | some f => nI f
def pOK (P : zP) : Prop := pN P ≤ 9 ∧ (∀ s, s < pN P → ∃ v : Nat, v ≤ 9 ∧ pLv P s = nI v) ∧ (∀ s, s < pN P → ∃ v : Nat, v ≤ 9 ∧ pMud P s = nI v) ∧
  (∀ a b, a < 9 → b < 9 → ∃ v : Nat, v ≤ 50 ∧ pFar P a b = nI v) ∧ (∀ a b, pFar P a b = pFar P b a) ∧ (∀ a b, pSh P a b = pSh P b a) ∧ (∀ a b, a < 9 → b < 9 → a ≠ b → pSh P a b = true → pFar P a b ≠ 0) ∧
  (∀ a b, pN P ≤ a → pFar P a b = 0 ∧ pSh P a b = false) ∧ (pAt P < pN P ∨ (pN P = 0 ∧ pAt P = 0)) ∧ pDay P ≤ 999 ∧ pSlips P ≤ 10 ∧ pMood P ≤ 9 ∧
  (pHd P).length ≤ 6 ∧ (∀ (i : Nat) x, (pHd P)[i]? = some x → x.1 < pN P ∧ x.2 ≤ 999) ∧ (pLw P).length ≤ 6 ∧ (∀ f, pFc P = some f → f < (pLw P).length)
/-- the place of a pair of springs in the class's rows -/
def pq (a b : Nat) : Nat := if b ≤ a then a * (a - 1) / 2 + b else b * (b - 1) / 2 + a
theorem pq_c : ∀ a, a < 9 → ∀ b, b < 9 → a ≠ b → pq a b < 36 := by decide
theorem pq_s (a b : Nat) (h : a ≠ b) : pq a b = pq b a := by
  unfold pq
  by_cases h1 : b ≤ a
  · rw [if_pos h1, if_neg (by omega)]
  · rw [if_neg h1, if_pos (by omega)]
def pqH : List Nat := [1, 2, 2, 3, 3, 3, 4, 4, 4, 4, 5, 5, 5, 5, 5, 6, 6, 6, 6, 6, 6, 7, 7, 7, 7, 7, 7, 7, 8, 8, 8, 8, 8, 8, 8, 8]
def pqB : List Nat := [0, 0, 1, 0, 1, 2, 0, 1, 2, 3, 0, 1, 2, 3, 4, 0, 1, 2, 3, 4, 5, 0, 1, 2, 3, 4, 5, 6, 0, 1, 2, 3, 4, 5, 6, 7]
theorem pq_of : ∀ a, a < 9 → ∀ b, b < 9 → a ≠ b → pqH.getD (pq a b) 0 = (if b ≤ a then a else b) ∧ pqB.getD (pq a b) 0 = (if b ≤ a then b else a) := by decide
theorem pq_inj (a : Nat) (ha : a < 9) (b : Nat) (hb : b < 9) (c : Nat) (hc : c < 9) (d : Nat) (hd : d < 9) (hab : a ≠ b) (hcd : c ≠ d) (h : pq a b = pq c d) : (a = c ∧ b = d) ∨ (a = d ∧ b = c) := by
  have h1 := pq_of a ha b hb hab
  have h2 := pq_of c hc d hd hcd
  rw [h] at h1
  obtain ⟨g1, g2⟩ := h1
  obtain ⟨g3, g4⟩ := h2
  rw [g1] at g3
  rw [g2] at g4
  by_cases x : b ≤ a
  · rw [if_pos x] at g3 g4
    by_cases y : d ≤ c
    · rw [if_pos y] at g3 g4; omega
    · rw [if_neg y] at g3 g4; omega
  · rw [if_neg x] at g3 g4
    by_cases y : d ≤ c
    · rw [if_pos y] at g3 g4; omega
    · rw [if_neg y] at g3 g4; omega
/-- the class's parish o is P -/
def cRep (S : zSt) (o : Nat) (P : zP) : Prop := zI S o 0 = nI (pN P) ∧ (∀ s, s < pN P → zI S (o + 1) s = pLv P s) ∧ (∀ a b, a < 9 → b < 9 → a ≠ b → zI S (o + 2) (pq a b) = pFar P a b) ∧ (∀ s, s < pN P → nib (zL S o 3) s = pMud P s) ∧
  (∀ a b, a < 9 → b < 9 → a ≠ b → bL (zL S o 4) (pq a b) = pSh P a b) ∧ (∀ p, 36 ≤ p → bL (zL S o 4) p = false) ∧ zI S o 5 = nI (pAt P) ∧ zI S o 6 = nI (pDay P) ∧ zI S o 7 = nI (pSlips P) ∧ zI S o 8 = nI (pMood P) ∧
  zI S o 9 = nI (pHd P).length ∧ (∀ (i : Nat) x, (pHd P)[i]? = some x → zI S (o + 3) i = nI x.1 ∧ zI S (o + 4) i = nI x.2) ∧
  zI S o 12 = nI (pLw P).length ∧ (∀ (t : Nat) cls, (pLw P)[t]? = some cls → ∃ q, zR S (o + 5) t = some q ∧ zK q = 10 ∧ 98 ≤ q ∧ q + 4 < zN S ∧ zTx S q 7 (cls.map xcO)) ∧ zI S o 14 = fcI (pFc P)
/-- the reference's row r from b on is P -/
def mRep (S : zSt) (r b : Nat) (P : zP) : Prop := zI S r (b + 196) = nI (pN P) ∧ (∀ s, s < pN P → zI S r (b + (92 + s)) = pLv P s) ∧ (∀ a c, a < 9 → c < 9 → a ≠ c → zI S r (b + (101 + (9 * a + c))) = pFar P a c) ∧ (∀ s, s < pN P → zI S r (b + (1 + s)) = pMud P s) ∧
  (∀ a c, a < 9 → c < 9 → a ≠ c → zI S r (b + (10 + (9 * a + c))) = b2 (pSh P a c)) ∧ zI S r b = nI (pAt P) ∧ zI S r (b + 91) = nI (pDay P) ∧ zI S r (b + 194) = nI (pSlips P) ∧ zI S r (b + 195) = nI (pMood P) ∧
  zI S r (b + 197) = nI (pHd P).length ∧ (∀ (i : Nat) x, (pHd P)[i]? = some x → zI S r (b + (182 + 2 * i)) = nI x.1 ∧ zI S r (b + (182 + 2 * i + 1)) = nI x.2) ∧
  zI S r (b + 198) = nI (pLw P).length ∧ (∀ (t : Nat) cls, (pLw P)[t]? = some cls → ∃ (C V : Nat → Int32) (N n : Nat), N ≤ 400 ∧ 401 ≤ n ∧ zI S r (b + (200 + t)) = nI N ∧ (∀ k, k < N → zI S r (b + (207 + (400 * t + k))) = C k ∧ vR (zI S r (b + (3007 + (400 * t + k)))) (V k)) ∧ (∀ k, N ≤ k → C k = 0) ∧ (∀ k, 0 ≤ (V k).toInt) ∧ ltx false C V n N 12 0 0 [] = .inr cls) ∧ zI S r (b + 199) = fcI (pFc P)
/-! scratch -/
def scI (j k : Nat) : Prop := (j = 44 ∧ 2 ≤ k) ∨ (j = 54 ∧ k < 7) ∨ (55 ≤ j ∧ j ≤ 68) ∨ (j = 69 ∧ k < 23) ∨ (j = 72 ∧ ((8 ≤ k ∧ k ≤ 10) ∨ (18 ≤ k ∧ k ≤ 26))) ∨ (80 ≤ j ∧ j ≤ 85) ∨ (88 ≤ j ∧ j ≤ 94)
def scL (j : Nat) : Prop := j = 53 ∨ j = 70 ∨ j = 95
/-- the same but for scratch -/
def zCo (S S' : zSt) : Prop := S'.2.2 = S.2.2 ∧ (∀ j k, ¬ scI j k → zI S' j k = zI S j k) ∧ (∀ j k, ¬ scL j → zL S' j k = zL S j k)
theorem zCo_r (S : zSt) : zCo S S := ⟨rfl, fun _ _ _ => rfl, fun _ _ _ => rfl⟩
theorem zCo_t {S S' S'' : zSt} (h : zCo S S') (h2 : zCo S' S'') : zCo S S'' := ⟨h2.1.trans h.1, fun j k a => (h2.2.1 j k a).trans (h.2.1 j k a), fun j k a => (h2.2.2 j k a).trans (h.2.2 j k a)⟩
theorem zCo_w (S : zSt) {j k : Nat} (v : Int32) (h : scI j k) : zCo S (zwI S j k v) := ⟨rfl, fun j' k' a => qIIo _ _ (fun e => a (by rw [e.1, e.2]; exact h)), fun _ _ _ => rfl⟩
theorem zCo_wL (S : zSt) {j k : Nat} (v : Int64) (h : scL j) : zCo S (zwL S j k v) := ⟨rfl, fun _ _ _ => rfl, fun j' k' a => by rw [qLL, if_neg (fun e => a (by rw [e.1]; exact h))]⟩
theorem zCo_53 (S : zSt) {g : Nat → Nat → Int64} (h : zS53 S g) : zCo S (S.1, g, S.2.2) := ⟨rfl, fun _ _ _ => rfl, fun j k a => congrFun (h j (fun e => a (Or.inl e))) k⟩
theorem zCo_R {S S' : zSt} (h : zCo S S') : zR S' = zR S := by unfold zR; rw [h.1]
theorem zCo_N {S S' : zSt} (h : zCo S S') : zN S' = zN S := by unfold zN; rw [h.1]
theorem zCo_A {S S' : zSt} (h : zCo S S') : zA S' = zA S := by unfold zA; rw [h.1]
theorem zCo_I {S S' : zSt} (h : zCo S S') {j : Nat} (hj : j < 44 ∨ j = 45 ∨ j = 71 ∨ (73 ≤ j ∧ j ≤ 76) ∨ j = 78 ∨ j = 79 ∨ j = 86 ∨ 95 ≤ j) : zI S' j = zI S j := by
  funext k
  exact h.2.1 j k (by unfold scI; omega)
theorem zCo_L {S S' : zSt} (h : zCo S S') {j : Nat} (hj : j < 53) : zL S' j = zL S j := by
  funext k
  exact h.2.2 j k (by unfold scL; omega)
/-- texts live on -/
theorem zTx_f {S S' : zSt} {t W : Nat} {cls : List xC} (h : zTx S t W cls) (hI : ∀ j, t ≤ j → j ≤ t + 4 → zI S' j = zI S j) (hA : zA S' (t + 4) = zA S (t + 4)) : zTx S' t W cls := by
  unfold zTx
  rw [hI t (by omega) (by omega), hI (t + 1) (by omega) (by omega), hI (t + 2) (by omega) (by omega), hI (t + 3) (by omega) (by omega), hI (t + 4) (by omega) (by omega), hA]
  exact h
theorem cRep_f {S S' : zSt} {o : Nat} {P : zP} (h : cRep S o P) (hI : ∀ j, o ≤ j → j ≤ o + 4 → zI S' j = zI S j) (hL : zL S' o = zL S o) (hR : zR S' (o + 5) = zR S (o + 5)) (hN : zN S ≤ zN S') (hT : ∀ j, 98 ≤ j → j < zN S → zI S' j = zI S j ∧ zA S' j = zA S j) : cRep S' o P := by
  unfold cRep
  rw [hI o (by omega) (by omega), hI (o + 1) (by omega) (by omega), hI (o + 2) (by omega) (by omega), hI (o + 3) (by omega) (by omega), hI (o + 4) (by omega) (by omega), hL, hR]
  obtain ⟨h1, h2, h3, h4, h5, h6, h7, h8, h9, h10, h11, h12, h13, h14, h15⟩ := h
  refine ⟨h1, h2, h3, h4, h5, h6, h7, h8, h9, h10, h11, h12, h13, fun t cls ht => ?_, h15⟩
  obtain ⟨q, g1, g2, g3, g4, g5⟩ := h14 t cls ht
  exact ⟨q, g1, g2, g3, by omega, zTx_f g5 (fun j a b => (hT j (by omega) (by omega)).1) (hT _ (by omega) g4).2⟩
theorem mRep_f {S S' : zSt} {r r' b b' : Nat} {P : zP} (h : mRep S r b P) (hI : ∀ k, k < 5807 → zI S' r' (b' + k) = zI S r (b + k)) (hP : pOK P) : mRep S' r' b' P := by
  obtain ⟨h1, h2, h3, h4, h5, h6, h7, h8, h9, h10, h11, h12, h13, h14⟩ := h
  obtain ⟨p1, p2, p3, p4, p5, p6, p7, p8, p9, p10, p11, p12, p13, p14, p15, p16⟩ := hP
  refine ⟨?_, fun s hs => ?_, fun a c ha hc hac => ?_, fun s hs => ?_, fun a c ha hc hac => ?_, ?_, ?_, ?_, ?_, ?_, fun i x hx => ?_, ?_, fun t cls ht => ?_, ?_⟩
  · rw [hI 196 (by omega)]; exact h1
  · rw [hI (92 + s) (by omega)]; exact h2 s hs
  · rw [hI (101 + (9 * a + c)) (by omega)]; exact h3 a c ha hc hac
  · rw [hI (1 + s) (by omega)]; exact h4 s hs
  · rw [hI (10 + (9 * a + c)) (by omega)]; exact h5 a c ha hc hac
  · have := hI 0 (by omega); rw [Nat.add_zero, Nat.add_zero] at this; rw [this]; exact h6
  · rw [hI 91 (by omega)]; exact h7
  · rw [hI 194 (by omega)]; exact h8
  · rw [hI 195 (by omega)]; exact h9
  · rw [hI 197 (by omega)]; exact h10
  · have hi := (List.getElem?_eq_some_iff.mp hx).1
    rw [hI (182 + 2 * i) (by omega), hI (182 + 2 * i + 1) (by omega)]; exact h11 i x hx
  · rw [hI 198 (by omega)]; exact h12
  · have ht6 := (List.getElem?_eq_some_iff.mp ht).1
    obtain ⟨C, V, N, n, g1, g2, g3, g4, g5, g6, g7⟩ := h13 t cls ht
    refine ⟨C, V, N, n, g1, g2, ?_, fun k hk => ?_, g5, g6, g7⟩
    · rw [hI (200 + t) (by omega)]; exact g3
    · rw [hI (207 + (400 * t + k)) (by omega), hI (3007 + (400 * t + k)) (by omega)]; exact g4 k hk
  · rw [hI 199 (by omega)]; exact h14
theorem cRep_co {S S' : zSt} {o : Nat} {P : zP} (h : cRep S o P) (hc : zCo S S') (ho : o < 39) : cRep S' o P := by
  have hN := zCo_N hc
  refine cRep_f h (fun j a b => zCo_I hc (by omega)) (zCo_L hc (by omega)) (by rw [zCo_R hc]) (by omega) (fun j a b => ⟨zCo_I hc (by omega), by rw [zCo_A hc]⟩)
theorem mRep_co {S S' : zSt} {r b : Nat} {P : zP} (h : mRep S r b P) (hc : zCo S S') (hr : r = 74 ∨ r = 75) (hP : pOK P) : mRep S' r b P := mRep_f h (fun k _ => by rw [zCo_I hc (by omega)]) hP
/-! what is asked of a law -/
def eC (P : zP) (a b : Nat) : lE := fun k => if k = 0 then (a : Int) else if k = 1 then (b : Int) else if k = 2 then (pFar P a b).toInt else if k = 3 then (pLv P a).toInt - (pLv P b).toInt else if k = 4 then (pMud P b).toInt else if k = 5 then (pDay P : Int) else if k = 6 then (pMood P : Int) else 0
def eS (P : zP) (s : Nat) : lE := fun k => if k = 0 then (s : Int) else if k = 1 then -1 else if k = 2 then -1 else if k = 3 then 0 else if k = 4 then (pMud P s).toInt else if k = 5 then (pDay P : Int) else if k = 6 then (pMood P : Int) else 0
def pLawO (P : zP) (f : Option Nat) : List lC := match f with
  | none => []
  | some t => (pLw P).getD t []
def pLaw (P : zP) : List lC := pLawO P (pFc P)
/-- what a law tells of a channel: takes (0), weighs (1), bars (3) -/
def pTl (P : zP) (law : List lC) (k a b : Nat) : Int32 := t32 (kLo k) (kHi k) (if k = 0 then pFar P a b else if k = 1 then 1 else 0) (lTell k (eC P a b) law)
/-- to what mud settles -/
def pSt (P : zP) (law : List lC) (s : Nat) : Int32 := t32 0 9 (pMud P s) (lTell 2 (eS P s) law)

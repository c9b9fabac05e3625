/-! the class's parish is moved: swim, gate, stir, a day passes -/
/-- but for scratch, only where the eel is, the day, mud and what is shut may change -/
def pW (o : Nat) (S X : zSt) : Prop := X.2.2 = S.2.2 ∧ (∀ j k, ¬ scI j k → ¬ (j = o ∧ (k = 5 ∨ k = 6)) → zI X j k = zI S j k) ∧ ∀ j k, ¬ scL j → ¬ (j = o ∧ (k = 3 ∨ k = 4)) → zL X j k = zL S j k
theorem pW_co {o : Nat} {S X : zSt} (h : zCo S X) : pW o S X := ⟨h.1, fun j k a _ => h.2.1 j k a, fun j k a _ => h.2.2 j k a⟩
theorem pW_t {o : Nat} {S X Y : zSt} (h : pW o S X) (h2 : pW o X Y) : pW o S Y := ⟨h2.1.trans h.1, fun j k a b => (h2.2.1 j k a b).trans (h.2.1 j k a b), fun j k a b => (h2.2.2 j k a b).trans (h.2.2 j k a b)⟩
theorem pW_w {o k : Nat} (S : zSt) (v : Int32) (h : k = 5 ∨ k = 6) : pW o S (zwI S o k v) := ⟨rfl, fun j k' _ b => qIIo _ _ (fun e => b ⟨e.1, by rw [e.2]; exact h⟩), fun _ _ _ _ => rfl⟩
theorem pW_wL {o k : Nat} (S : zSt) (v : Int64) (h : k = 3 ∨ k = 4) : pW o S (zwL S o k v) := ⟨rfl, fun _ _ _ _ => rfl, fun j k' _ b => by rw [qLL, if_neg (fun e => b ⟨e.1, by rw [e.2]; exact h⟩)]⟩
theorem cRep_pw {o : Nat} {S X : zSt} {P : zP} (h : cRep S o P) (ho : o < 39) (hW : pW o S X) (m : zMv) (h5 : zI X o 5 = nI m.1) (h6 : zI X o 6 = nI m.2.1) (hd : ∀ s, s < pN P → nib (zL X o 3) s = m.2.2.1 s) (hs : ∀ a b, a < 9 → b < 9 → a ≠ b → bL (zL X o 4) (pq a b) = m.2.2.2 a b) (h36 : ∀ p, 36 ≤ p → bL (zL X o 4) p = false) : cRep X o (pSet P m) := by
  obtain ⟨w1, w2, w3⟩ := hW
  have I : ∀ k, k ≠ 5 → k ≠ 6 → zI X o k = zI S o k := fun k a b => w2 o k (by unfold scI; omega) (by omega)
  have J : ∀ j, o < j → j ≤ o + 4 → zI X j = zI S j := fun j a b => by funext k; exact w2 j k (by unfold scI; omega) (by omega)
  have T : ∀ j, 98 ≤ j → zI X j = zI S j := fun j a => by funext k; exact w2 j k (by unfold scI; omega) (by omega)
  obtain ⟨g1, g2, g3, g4, g5, g6, g7, g8, g9, g10, g11, g12, g13, g14, g15⟩ := h
  refine ⟨?_, fun s hss => ?_, fun a b ha hb hab => ?_, hd, hs, h36, h5, h6, ?_, ?_, ?_, fun i x hx => ?_, ?_, fun t cls ht => ?_, ?_⟩
  · rw [I 0 (by omega) (by omega)]; exact g1
  · rw [J (o + 1) (by omega) (by omega)]; exact g2 s hss
  · rw [J (o + 2) (by omega) (by omega)]; exact g3 a b ha hb hab
  · rw [I 7 (by omega) (by omega)]; exact g9
  · rw [I 8 (by omega) (by omega)]; exact g10
  · rw [I 9 (by omega) (by omega)]; exact g11
  · rw [J (o + 3) (by omega) (by omega), J (o + 4) (by omega) (by omega)]; exact g12 i x hx
  · rw [I 12 (by omega) (by omega)]; exact g13
  · obtain ⟨q, q1, q2, q3, q4, q5⟩ := g14 t cls ht
    exact ⟨q, by unfold zR; rw [w1]; exact q1, q2, q3, by unfold zN; rw [w1]; exact q4, zTx_f q5 (fun j a b => T j (by omega)) (by unfold zA; rw [w1])⟩
  · rw [I 14 (by omega) (by omega)]; exact g15
def mvSwim (P : zP) (s : Nat) : zMv := (s, pDay P, pMud P, pSh P)
def mvGate (P : zP) (a b : Nat) : zMv := (pAt P, pDay P, pMud P, fun x y => if (x = a ∧ y = b) ∨ (x = b ∧ y = a) then !pSh P x y else pSh P x y)
def mvStir (P : zP) (s : Nat) (v : Int32) : zMv := (pAt P, pDay P, fun t => if t = s then v else pMud P t, pSh P)
def mvPass (P : zP) : zMv := (pAt P, pDay P + 1, fun s => pSt P (pLaw P) s, pSh P)
theorem ok_swim {P : zP} (hP : pOK P) {s : Nat} (hs : s < pN P) : pOK (pSet P (mvSwim P s)) := by
  obtain ⟨p1, p2, p3, p4, p5, p6, p7, p8, p9, p10, p11, p12, p13, p14, p15, p16⟩ := hP
  exact ⟨p1, p2, p3, p4, p5, p6, p7, p8, Or.inl hs, p10, p11, p12, p13, p14, p15, p16⟩
theorem ok_gate {P : zP} (hP : pOK P) {a b : Nat} (ha : a < pN P) (hb : b < pN P) (hf : pFar P a b ≠ 0) : pOK (pSet P (mvGate P a b)) := by
  obtain ⟨p1, p2, p3, p4, p5, p6, p7, p8, p9, p10, p11, p12, p13, p14, p15, p16⟩ := hP
  refine ⟨p1, p2, p3, p4, p5, fun x y => ?_, fun x y hx hy hxy hs => ?_, fun x y hx => ?_, p9, p10, p11, p12, p13, p14, p15, p16⟩
  · show (if (x = a ∧ y = b) ∨ (x = b ∧ y = a) then !pSh P x y else pSh P x y) = (if (y = a ∧ x = b) ∨ (y = b ∧ x = a) then !pSh P y x else pSh P y x)
    by_cases e : (x = a ∧ y = b) ∨ (x = b ∧ y = a)
    · rw [if_pos e, if_pos (by omega), p6 x y]
    · rw [if_neg e, if_neg (by omega)]; exact p6 x y
  · have hs' : (if (x = a ∧ y = b) ∨ (x = b ∧ y = a) then !pSh P x y else pSh P x y) = true := hs
    by_cases e : (x = a ∧ y = b) ∨ (x = b ∧ y = a)
    · rcases e with ⟨rfl, rfl⟩ | ⟨rfl, rfl⟩
      · exact hf
      · show pFar P x y ≠ 0
        rw [p5]; exact hf
    · rw [if_neg e] at hs'; exact p7 x y hx hy hxy hs'
  · have hx' : pN P ≤ x := hx
    show pFar P x y = 0 ∧ (if (x = a ∧ y = b) ∨ (x = b ∧ y = a) then !pSh P x y else pSh P x y) = false
    rw [if_neg (by omega)]; exact p8 x y hx'
theorem ok_stir {P : zP} (hP : pOK P) {s v : Nat} (hv : v ≤ 9) : pOK (pSet P (mvStir P s (nI v))) := by
  obtain ⟨p1, p2, p3, p4, p5, p6, p7, p8, p9, p10, p11, p12, p13, p14, p15, p16⟩ := hP
  refine ⟨p1, p2, fun t ht => ?_, p4, p5, p6, p7, p8, p9, p10, p11, p12, p13, p14, p15, p16⟩
  show ∃ w : Nat, w ≤ 9 ∧ (if t = s then nI v else pMud P t) = nI w
  by_cases e : t = s
  · rw [if_pos e]; exact ⟨v, hv, rfl⟩
  · rw [if_neg e]; exact p3 t ht
theorem st_rg {P : zP} (hP : pOK P) (law : List lC) {s : Nat} (hs : s < pN P) : ∃ v : Nat, v ≤ 9 ∧ pSt P law s = nI v := by
  unfold pSt
  cases lTell 2 (eS P s) law with
  | some v => exact ⟨clN 0 9 v, (clN_rg (by omega) v).2, rfl⟩
  | none => exact hP.2.2.1 s hs
theorem ok_pass {P : zP} (hP : pOK P) (hd : pDay P < 999) : pOK (pSet P (mvPass P)) := by
  have hst := fun s hs => st_rg hP (pLaw P) (s := s) hs
  obtain ⟨p1, p2, p3, p4, p5, p6, p7, p8, p9, p10, p11, p12, p13, p14, p15, p16⟩ := hP
  exact ⟨p1, p2, fun t ht => hst t ht, p4, p5, p6, p7, p8, p9, hd, p11, p12, p13, p14, p15, p16⟩
section MVC
variable {S : zSt} {o : Nat} {P : zP}
theorem goTo_no {a : Int32} (fu : Nat) (h : cRep S o P) (hP : pOK P) (ha : ∀ s, s < pN P → a ≠ nI s) : f_Ps_goTo fu o a S = some (-2, S) := by
  unfold f_Ps_goTo
  rw [qb1 (has_no h hP ha), if_pos rfl]
theorem goTo_ok (fu : Nat) (hfu : 1000 ≤ fu) (h : cRep S o P) (hP : pOK P) (hG : lawG (pLaw P)) (ho : o < 39) (hT : zT7 S) {s : Nat} (hs : s < pN P) :
    ∃ S1, zCo S S1 ∧ f_Ps_goTo fu o (nI s) S = some (if pPs P (pLaw P) (pAt P) s = true then (pTl P (pLaw P) 0 (pAt P) s, zwI S1 o 5 (nI s)) else (-3, S1)) := by
  have h9 := hP.1
  have hat : pAt P < pN P := by
    rcases hP.2.2.2.2.2.2.2.2.1 with h | h <;> omega
  have e5 : zI S o 5 = nI (pAt P) := h.2.2.2.2.2.2.1
  obtain ⟨x, l1, l2, l3⟩ := law_force h hP
  unfold f_Ps_goTo
  rw [qb1 (has_yes h hP hs), if_neg (by decide), qb1 l1, e5]
  unfold pPs
  by_cases hab : pAt P = s
  · refine ⟨S, zCo_r S, ?_⟩
    rw [hab, qb1 (pair_eq _), qb1 (far_no S o), if_pos rfl, if_neg]
    simp
  rw [qb1 (pair_yes h hP hat hs hab), qb1 (far_yes h (by omega) (by omega) hab)]
  by_cases hf : pFar P (pAt P) s = 0
  · refine ⟨S, zCo_r S, ?_⟩
    rw [if_pos hf, if_neg]
    simp [hf]
  rw [if_neg hf, qb1 (shut_yes h (by omega) (by omega) hab)]
  cases hsh : pSh P (pAt P) s with
  | true =>
    refine ⟨S, zCo_r S, ?_⟩
    rw [if_neg (show ¬ b2 true = 0 by decide), if_neg]
    simp
  | false =>
    obtain ⟨S1, e1, c1, -⟩ := told_ch fu hfu h hP ho hT l2 l3 (k := 3) (by omega) (by omega) hat hs hab
    have h1 := cRep_co h c1 ho
    obtain ⟨S2, e2, c2, -⟩ := told_ch fu hfu h1 hP ho (zT7_co hT c1) (zLw_co l2 l3 c1) l3 (k := 0) (by omega) (by omega) hat hs hab
    have e1' : f_As_told fu o x 3 (nI (pAt P)) (nI s) S = some (b2 (pBar P (pLaw P) (pAt P) s), S1) := by rw [← pTl_bar hG]; exact e1
    have e55 : zI S1 o 5 = nI (pAt P) := h1.2.2.2.2.2.2.1
    rw [if_pos (show b2 false = 0 from rfl), qb2 e1']
    cases hb : pBar P (pLaw P) (pAt P) s with
    | true =>
      refine ⟨S1, c1, ?_⟩
      rw [if_pos (show b2 true = 1 from rfl), if_neg]
      simp
    | false =>
      refine ⟨S2, zCo_t c1 c2, ?_⟩
      have e2' : f_As_told fu o x 0 (nI (pAt P)) (nI s) S1 = some (pTl P (pLaw P) 0 (pAt P) s, S2) := e2
      rw [if_neg (show ¬ b2 false = 1 by decide), e55, qb2 e2', if_pos]
      simp [hab, hf]
theorem bL_flip (x : Int64) {p : Nat} (hp : p < 64) {i : Nat} (hi : i < 64) : bL (x ^^^ ((1 : Int64) <<< ((nI p).toInt64 &&& 63))) i = (bL x i ^^ decide (i = p)) := by
  rw [bL_xor, bL_shl _ hp hi, bL_1]
  congr 1
  by_cases e : i = p
  · rw [e]; simp
  · rcases Nat.lt_or_ge i p with h2 | h2
    · simp [e, Nat.not_le.mpr h2]
    · have : ¬ i - p = 0 := by omega
      simp [e, this]
theorem gate_eq (a : Int32) : f_Ps_turnGate o a a S = some (-1, S) := by unfold f_Ps_turnGate; rw [if_pos rfl]
theorem gate_no {a b : Int32} (h : cRep S o P) (hP : pOK P) (hab : a ≠ b) (hn : (∀ s, s < pN P → a ≠ nI s) ∨ (∀ s, s < pN P → b ≠ nI s) ∨ a = b) : f_Ps_turnGate o a b S = some (-2, S) := by
  unfold f_Ps_turnGate
  rw [if_neg hab]
  rcases spr_or P a with ⟨x, hx, rfl⟩ | ha
  · rw [qb1 (has_yes h hP hx), if_neg (by decide)]
    have hb : ∀ s, s < pN P → b ≠ nI s := by
      rcases hn with h1 | h1 | h1
      · exact absurd rfl (h1 x hx)
      · exact h1
      · exact absurd h1 hab
    rw [qb1 (has_no h hP hb), if_pos rfl]
  · rw [qb1 (has_no h hP ha), if_pos rfl]
theorem gate_ok (h : cRep S o P) (hP : pOK P) {a b : Nat} (ha : a < pN P) (hb : b < pN P) (hab : a ≠ b) : f_Ps_turnGate o (nI a) (nI b) S = some (if pFar P a b = 0 then (-3, S) else (b2 (!pSh P a b), zwL S o 4 ((zL S o 4) ^^^ ((1 : Int64) <<< ((nI (pq a b)).toInt64 &&& 63))))) := by
  have h9 := hP.1
  have hp := pq_c a (by omega) b (by omega) hab
  unfold f_Ps_turnGate
  rw [if_neg (fun h => hab ((n_eq (by omega) (by omega)).mp h)), qb1 (has_yes h hP ha), if_neg (by decide), qb1 (has_yes h hP hb), if_neg (by decide), qb1 (pair_yes h hP ha hb hab), qb1 (far_yes h (by omega) (by omega) hab)]
  by_cases hf : pFar P a b = 0
  · rw [if_pos hf, if_pos hf]
  · rw [if_neg hf, if_neg hf, qb1 (shut_p _ o (by omega))]
    have e : bL (zL (zwL S o 4 ((zL S o 4) ^^^ ((1 : Int64) <<< ((nI (pq a b)).toInt64 &&& 63)))) o 4) (pq a b) = !pSh P a b := by
      rw [qLL, if_pos ⟨rfl, rfl⟩, bL_flip _ (by omega) (by omega), h.2.2.2.2.1 a b (by omega) (by omega) hab]
      simp
    rw [e]
    cases pSh P a b with
    | true => rw [if_pos (show b2 (!true) = 0 from rfl)]; rfl
    | false => rw [if_neg (show ¬ b2 (!false) = 0 by decide)]; rfl
theorem cRep_gate (h : cRep S o P) (ho : o < 39) {a b : Nat} (ha : a < 9) (hb : b < 9) (hab : a ≠ b) : cRep (zwL S o 4 ((zL S o 4) ^^^ ((1 : Int64) <<< ((nI (pq a b)).toInt64 &&& 63)))) o (pSet P (mvGate P a b)) := by
  have hp := pq_c a ha b hb hab
  refine cRep_pw h ho (pW_wL S _ (Or.inr rfl)) _ h.2.2.2.2.2.2.1 h.2.2.2.2.2.2.2.1 (fun s hs => ?_) (fun x y hx hy hxy => ?_) (fun p hp2 => ?_)
  · rw [qLL, if_neg (by omega)]; exact h.2.2.2.1 s hs
  · rw [qLL, if_pos ⟨rfl, rfl⟩]
    have hpx := pq_c x hx y hy hxy
    rw [bL_flip _ (by omega) (by omega), h.2.2.2.2.1 x y hx hy hxy]
    show _ = if (x = a ∧ y = b) ∨ (x = b ∧ y = a) then !pSh P x y else pSh P x y
    by_cases e : (x = a ∧ y = b) ∨ (x = b ∧ y = a)
    · have : pq x y = pq a b := by
        rcases e with ⟨rfl, rfl⟩ | ⟨rfl, rfl⟩
        · rfl
        · exact pq_s _ _ hxy
      rw [if_pos e, this]; simp
    · have : ¬ pq x y = pq a b := fun h => e (pq_inj x hx y hy a ha b hb hxy hab h)
      rw [if_neg e, decide_eq_false this]; simp
  · rw [qLL, if_pos ⟨rfl, rfl⟩]
    rcases Nat.lt_or_ge p 64 with h64 | h64
    · rw [bL_flip _ (by omega) h64, h.2.2.2.2.2.1 p hp2, decide_eq_false (by omega)]; rfl
    · exact bL_big h64
theorem cRep_swim (h : cRep S o P) (ho : o < 39) {S1 : zSt} (c : zCo S S1) (s : Nat) : cRep (zwI S1 o 5 (nI s)) o (pSet P (mvSwim P s)) := by
  have h1 := cRep_co h c ho
  exact cRep_pw h1 ho (pW_w S1 _ (Or.inl rfl)) _ (qIIs _ _ _ _) (by rw [qIIo _ _ (by omega)]; exact h1.2.2.2.2.2.2.2.1) (fun s hs => h1.2.2.2.1 s hs) (fun x y hx hy hxy => h1.2.2.2.2.1 x y hx hy hxy) (fun p hp => h1.2.2.2.2.2.1 p hp)
theorem muddy_out {a d : Int32} (hd : ∀ v, 0 ≤ v → v ≤ 9 → d ≠ nI v) : f_Ps_muddy o a d S = some (-1, S) := by
  unfold f_Ps_muddy
  rcases rng_no (hi := 9) (by omega) hd with h1 | h1
  · rw [if_pos h1]
  · by_cases h2 : d < 0
    · rw [if_pos h2]
    · rw [if_neg h2, if_neg (show ¬ d ≤ 9 from h1)]
theorem muddy_no (h : cRep S o P) (hP : pOK P) {a : Int32} {v : Nat} (hv : v ≤ 9) (ha : ∀ s, s < pN P → a ≠ nI s) : f_Ps_muddy o a (nI v) S = some (-2, S) := by
  unfold f_Ps_muddy
  rw [if_neg (n_neg (by omega)), if_pos (show nI v ≤ 9 from (n_le (b := 9) (by omega) (by omega)).mpr hv), qb1 (has_no h hP ha), if_pos rfl]
theorem muddy_ok (h : cRep S o P) (hP : pOK P) {s v : Nat} (hv : v ≤ 9) (hs : s < pN P) : f_Ps_muddy o (nI s) (nI v) S = some (if pMud P s = nI v then (-3, S) else (pMud P s, zwL S o 3 (nibS (zL S o 3) s (nI v)))) := by
  unfold f_Ps_muddy
  rw [if_neg (n_neg (by omega)), if_pos (show nI v ≤ 9 from (n_le (b := 9) (by omega) (by omega)).mpr hv), qb1 (has_yes h hP hs), if_neg (by decide), qb1 (mud_yes h hP hs)]
  by_cases e : pMud P s = nI v
  · rw [if_pos e, if_pos e]
  · rw [if_neg e, if_neg e]; rfl
theorem cRep_stir (h : cRep S o P) (hP : pOK P) (ho : o < 39) {s v : Nat} (hv : v ≤ 9) (hs : s < pN P) : cRep (zwL S o 3 (nibS (zL S o 3) s (nI v))) o (pSet P (mvStir P s (nI v))) := by
  have h9 := hP.1
  have m0 : 0 ≤ (nI v).toInt := by rw [q_nI (by omega)]; omega
  have m9 : (nI v).toInt < 16 := by rw [q_nI (by omega)]; omega
  refine cRep_pw h ho (pW_wL S _ (Or.inl rfl)) _ h.2.2.2.2.2.2.1 h.2.2.2.2.2.2.2.1 (fun t ht => ?_) (fun x y hx hy hxy => ?_) (fun p hp => ?_)
  · show nib _ t = if t = s then nI v else pMud P t
    rw [qLL, if_pos ⟨rfl, rfl⟩]
    by_cases e : t = s
    · rw [if_pos e, e, nib_same _ (by omega) m0 m9]
    · rw [if_neg e, nib_other _ (by omega) (by omega) (fun h => e h.symm) m0 m9]; exact h.2.2.2.1 t ht
  · rw [qLL, if_neg (by omega)]; exact h.2.2.2.2.1 x y hx hy hxy
  · rw [qLL, if_neg (by omega)]; exact h.2.2.2.2.2.1 p hp
/-- how many springs' mud changes -/
def chN (P : zP) : Nat → Nat
  | 0 => 0
  | s + 1 => chN P s + (if pSt P (pLaw P) s = pMud P s then 0 else 1)
theorem chN_le (P : zP) : ∀ s, chN P s ≤ s := by
  intro s
  induction s with
  | zero => exact Nat.le_refl _
  | succ s ih =>
    unfold chN
    split <;> omega
theorem day_26 (fu : Nat) (hfu : 1000 ≤ fu) (hP : pOK P) (ho : o < 39) {x : Option Nat} (l3 : ∀ t, x = some t → 98 ≤ t) : ∀ (m s n : Nat) (acc : Int64) (S : zSt), s + m = pN P → m + 1 ≤ n → cRep S o P → zT7 S → zLw S x (pLaw P) → (∀ t, t < s → nib acc t = pSt P (pLaw P) t) → (∀ j, 4 * s ≤ j → bL acc j = false) →
    ∃ S1 acc', f_Ps_nextDay_26 fu o n x acc (nI (chN P s)) (nI s) S = f_Ps_nextDay_78 fu o acc' (nI (chN P (pN P))) S1 ∧ zCo S S1 ∧ ∀ t, t < pN P → nib acc' t = pSt P (pLaw P) t := by
  intro m
  have h9 := hP.1
  induction m with
  | zero =>
    intro s n acc S h1 h2 h hT l2 hn hz
    obtain ⟨n', rfl⟩ : ∃ n', n = n' + 1 := ⟨n - 1, by omega⟩
    have hs : s = pN P := by omega
    refine ⟨S, acc, ?_, zCo_r S, fun t ht => hn t (by omega)⟩
    unfold f_Ps_nextDay_26
    rw [h.1, if_pos ((n_le (by omega) (by omega)).mpr (by omega)), hs]
  | succ m ih =>
    intro s n acc S h1 h2 h hT l2 hn hz
    obtain ⟨n', rfl⟩ : ∃ n', n = n' + 1 := ⟨n - 1, by omega⟩
    have hs : s < pN P := by omega
    obtain ⟨v, hv, ev⟩ := st_rg hP (pLaw P) hs
    have m0 : 0 ≤ (nI v).toInt := by rw [q_nI (by omega)]; omega
    have m9 : (nI v).toInt < 16 := by rw [q_nI (by omega)]; omega
    obtain ⟨S1, e1, c1, -⟩ := told_sp fu hfu h hP ho hT l2 l3 hs (-1)
    have hc1 := cRep_co h c1 ho
    obtain ⟨acc1, eacc⟩ : ∃ acc1, acc1 = acc ||| ((nI v).toInt64 <<< (((4 : Int32) * nI s).toInt64 &&& 63)) := ⟨_, rfl⟩
    have hO : ∀ j, j < 36 → bL acc1 j = if 4 * s ≤ j ∧ j < 4 * s + 4 then bt (nI v) (j - 4 * s) else bL acc j := fun j hj => by
      rw [eacc]; exact bL_nibO acc (by omega) hj m0 m9 hz
    have hO2 : ∀ j, j < 36 → bL acc1 j = bL (nibS acc s (nI v)) j := fun j hj => by
      rw [hO j hj, bL_nibS acc (by omega) hj m0 m9]
    have hn1 : ∀ t, t < s + 1 → nib acc1 t = pSt P (pLaw P) t := fun t ht => by
      have e : nib acc1 t = nib (nibS acc s (nI v)) t := nib_ext (by omega) (by omega) (fun i hi => hO2 _ (by omega))
      rw [e]
      by_cases c : t = s
      · rw [c, nib_same _ (by omega) m0 m9, ev]
      · rw [nib_other _ (by omega) (by omega) (fun h => c h.symm) m0 m9]; exact hn t (by omega)
    have hz1 : ∀ j, 4 * (s + 1) ≤ j → bL acc1 j = false := fun j hj => by
      rcases Nat.lt_or_ge j 64 with h64 | h64
      · rw [eacc, bL_or, n4, bL_shl _ (by omega) h64, hz j (by omega), bL_small m0 m9 (by omega), decide_eq_false (show ¬ j - 4 * s < 4 by omega)]
        simp
      · exact bL_big h64
    obtain ⟨S2, acc', g1, g2, g3⟩ := ih (s + 1) n' acc1 S1 (by omega) (by omega) hc1 (zT7_co hT c1) (zLw_co l2 l3 c1) hn1 hz1
    refine ⟨S2, acc', ?_, zCo_t c1 g2, g3⟩
    rw [← g1]
    obtain ⟨K, eK⟩ : ∃ K, K = f_Ps_nextDay_26 fu o n' := ⟨_, rfl⟩
    rw [← eK]
    unfold f_Ps_nextDay_26
    rw [h.1, if_neg (fun h => absurd ((n_le (by omega) (by omega)).mp h) (by omega)), qb2 e1, qb1 (mud_yes hc1 hP hs), ← eK, n_1, show chN P (s + 1) = chN P s + (if pSt P (pLaw P) s = pMud P s then 0 else 1) from rfl]
    by_cases c : pSt P (pLaw P) s = pMud P s
    · rw [if_pos c, if_pos c, ev, ← eacc]
      rfl
    · rw [if_neg c, if_neg c, ev, ← eacc, n_1]
theorem day_ok (fu : Nat) (hfu : 1000 ≤ fu) (h : cRep S o P) (hP : pOK P) (ho : o < 39) (hT : zT7 S) : (999 ≤ pDay P → f_Ps_nextDay fu o S = some (-3, S)) ∧ (pDay P < 999 → ∃ S1 acc, zCo S S1 ∧ f_Ps_nextDay fu o S = some (nI (chN P (pN P)), zwI (zwL S1 o 3 acc) o 6 (nI (pDay P + 1))) ∧ cRep (zwI (zwL S1 o 3 acc) o 6 (nI (pDay P + 1))) o (pSet P (mvPass P))) := by
  have p10 := hP.2.2.2.2.2.2.2.2.2.1
  have e6 : zI S o 6 = nI (pDay P) := h.2.2.2.2.2.2.2.1
  unfold f_Ps_nextDay
  rw [e6]
  constructor
  · intro hd
    rw [if_neg (show ¬ nI (pDay P) < 999 from fun h => absurd ((n_lt (b := 999) (by omega) (by omega)).mp h) (by omega))]
  · intro hd
    obtain ⟨x, l1, l2, l3⟩ := law_force h hP
    have z0 : ∀ j, 4 * 0 ≤ j → bL 0 j = false := fun j _ => bL_0 j
    obtain ⟨S1, acc, g1, g2, g3⟩ := day_26 fu hfu hP ho l3 (pN P) 0 fu 0 S (by omega) (by have := hP.1; omega) h hT l2 (fun t ht => absurd ht (by omega)) z0
    have h1 := cRep_co h g2 ho
    refine ⟨S1, acc, g2, ?_, ?_⟩
    · rw [if_pos (show nI (pDay P) < 999 from (n_lt (b := 999) (by omega) (by omega)).mpr hd), qb1 l1]
      refine Eq.trans g1 ?_
      unfold f_Ps_nextDay_78
      have : zI (zwL S1 o 3 acc) o 6 = nI (pDay P) := h1.2.2.2.2.2.2.2.1
      rw [this, n_1]
    · refine cRep_pw h1 ho (pW_t (pW_wL S1 _ (Or.inl rfl)) (pW_w _ _ (Or.inr rfl))) _ ?_ (qIIs _ _ _ _) (fun s hs => ?_) (fun a b ha hb hab => ?_) (fun p hp => ?_)
      · rw [qIIo _ _ (by omega)]; exact h1.2.2.2.2.2.2.1
      · show nib (zL (zwL S1 o 3 acc) o 3) s = _
        rw [qLL, if_pos ⟨rfl, rfl⟩]; exact g3 s hs
      · show bL (zL (zwL S1 o 3 acc) o 4) (pq a b) = _
        rw [qLL, if_neg (by omega)]; exact h1.2.2.2.2.1 a b ha hb hab
      · show bL (zL (zwL S1 o 3 acc) o 4) p = _
        rw [qLL, if_neg (by omega)]; exact h1.2.2.2.2.2.1 p hp
end MVC

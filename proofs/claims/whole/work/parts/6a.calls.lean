/-! of, between, force, heard, forget, spring -/
theorem call_of (fu : Nat) (hfu : 1000 ≤ fu) {S : zSt} (h : Inv S) (a w : Int32) : cOk (f_E_of fu a w) (f_M_of fu a w) S := by
  obtain ⟨P, es, hP, hc, hm, hj, hi, ht, hms, hd, hs⟩ := id h
  have h9 := hP.1
  rcases spr_or P a with ⟨s, hss, rfl⟩ | ha
  · by_cases h0 : w = 0
    · refine cOk_0 h (v := pLv P s) ?_ ?_
      · unfold f_E_of
        rw [qb1 (has_yes hc hP hss), if_neg (by decide), if_pos h0, qb1 (level_yes hc hP hss)]
      · have := hm.2.1 s hss
        rw [Nat.zero_add] at this
        unfold f_M_of
        rw [qb1 (m_spr_yes hm hP hss), if_neg (by decide), if_pos h0, show (92 : Int32) + nI s = nI (92 + s) from n_add 92 s, n_gd (by omega) (by omega), q_cl (by omega), this]
    by_cases h1 : w = 1
    · refine cOk_0 h (v := pMud P s) ?_ ?_
      · unfold f_E_of
        rw [qb1 (has_yes hc hP hss), if_neg (by decide), if_neg h0, if_pos h1, qb1 (mud_yes hc hP hss)]
      · have := hm.2.2.2.1 s hss
        rw [Nat.zero_add] at this
        unfold f_M_of
        rw [qb1 (m_spr_yes hm hP hss), if_neg (by decide), if_neg h0, if_pos h1, show (1 : Int32) + nI s = nI (1 + s) from n_add 1 s, n_gd (by omega) (by omega), q_cl (by omega), this]
    by_cases h2 : w = 2
    · obtain ⟨x, l1, l2, l3⟩ := law_force hc hP
      obtain ⟨S1, e1, c1, -⟩ := told_sp fu hfu hc hP (by omega) hs.1 l2 l3 hss (-1)
      obtain ⟨S2, e2, c2, -⟩ := m_settles fu (by omega) (mRep_co hm c1 (Or.inl rfl) hP) hP hss
      refine cOk_q h (v := pSt P (pLaw P) s) (S1 := S1) (S2 := S2) ?_ c1 ?_ c2
      · unfold f_E_of
        rw [qb1 (has_yes hc hP hss), if_neg (by decide), if_neg h0, if_neg h1, if_pos h2, qb1 l1]
        exact qb2 e1
      · unfold f_M_of
        rw [qb1 (m_spr_yes (mRep_co hm c1 (Or.inl rfl) hP) hP hss), if_neg (by decide), if_neg h0, if_neg h1, if_pos h2]
        exact qb2 e2
    · refine cOk_0 h (v := -1) ?_ ?_
      · unfold f_E_of
        rw [qb1 (has_yes hc hP hss), if_neg (by decide), if_neg h0, if_neg h1, if_neg h2]
      · unfold f_M_of
        rw [qb1 (m_spr_yes hm hP hss), if_neg (by decide), if_neg h0, if_neg h1, if_neg h2]
  · refine cOk_0 h (v := -1) ?_ ?_
    · unfold f_E_of
      rw [qb1 (has_no hc hP ha), if_pos rfl]
    · unfold f_M_of
      rw [qb1 (m_spr_no hm hP ha), if_pos rfl]
/-- two springs, or not -/
theorem two_or (P : zP) (a b : Int32) : (∃ x y, x < pN P ∧ y < pN P ∧ x ≠ y ∧ a = nI x ∧ b = nI y) ∨ ((∀ s, s < pN P → a ≠ nI s) ∨ (∀ s, s < pN P → b ≠ nI s) ∨ a = b) := by
  rcases spr_or P a with ⟨x, hx, rfl⟩ | ha
  · rcases spr_or P b with ⟨y, hy, rfl⟩ | hb
    · by_cases e : x = y
      · exact Or.inr (Or.inr (Or.inr (by rw [e])))
      · exact Or.inl ⟨x, y, hx, hy, e, rfl, rfl⟩
    · exact Or.inr (Or.inr (Or.inl hb))
  · exact Or.inr (Or.inl ha)
theorem pair_no {S : zSt} {o : Nat} {P : zP} (h : cRep S o P) (hP : pOK P) {a b : Int32} (hab : (∀ s, s < pN P → a ≠ nI s) ∨ (∀ s, s < pN P → b ≠ nI s) ∨ a = b) : f_Ps_pairOf o a b S = some (-1) := by
  rcases hab with h1 | h1 | h1
  · exact pair_no1 h hP h1
  · exact pair_no2 h hP h1
  · rw [h1]; exact pair_eq b
theorem nI_m1 {v : Nat} (h : v < 1000000) : ¬ nI v = (-1 : Int32) := fun h2 => by
  have := congrArg Int32.toInt h2
  rw [q_nI (by omega), show (-1 : Int32).toInt = -1 from rfl] at this
  omega
theorem call_between (fu : Nat) (hfu : 1000 ≤ fu) {S : zSt} (h : Inv S) (a b w : Int32) : cOk (f_E_between fu a b w) (f_M_between fu a b w) S := by
  obtain ⟨P, es, hP, hc, hm, hj, hi, ht, hms, hd, hs⟩ := id h
  have h9 := hP.1
  rcases two_or P a b with ⟨x, y, hx, hy, hxy, rfl, rfl⟩ | hab
  · have hpq := pq_c x (by omega) y (by omega) hxy
    have eP := pair_yes hc hP hx hy hxy
    have eF := far_yes hc (by omega : x < 9) (by omega : y < 9) hxy
    have mF := m_far hm (by omega : x < 9) (by omega : y < 9) hxy
    have n1 : ¬ nI (pq x y) = (-1 : Int32) := nI_m1 (by omega)
    have e0 : (0 : Int32).toInt = 0 := rfl
    have e4 : (4 : Int32).toInt = 4 := rfl
    by_cases h0 : w = 0
    · refine cOk_0 h (v := pFar P x y) ?_ ?_
      · unfold f_E_between
        rw [qb1 eP, if_neg n1, h0, if_neg (by decide), if_pos (by decide), if_pos rfl, qb1 eF]
      · unfold f_M_between
        rw [qb1 (m_two_yes hm hP hx hy hxy), if_neg (by decide), if_pos h0, qb1 mF]
    by_cases h1 : w = 1
    · refine cOk_0 h (v := b2 (pSh P x y)) ?_ ?_
      · unfold f_E_between
        rw [qb1 eP, if_neg n1, h1, if_neg (by decide), if_pos (by decide), if_neg (by decide), if_pos rfl, qb1 (shut_yes hc (by omega) (by omega) hxy)]
        cases pSh P x y <;> rfl
      · have := hm.2.2.2.2.1 x y (by omega) (by omega) hxy
        rw [Nat.zero_add] at this
        unfold f_M_between
        rw [qb1 (m_two_yes hm hP hx hy hxy), if_neg (by decide), if_neg h0, if_pos h1, qb1 (m_pair (by omega) (by omega)), show (10 : Int32) + nI (9 * x + y) = nI (10 + (9 * x + y)) from n_add 10 _, n_gd (by omega) (by omega), q_cl (by omega), this]
    have M0 : ∀ S, mRep S 74 0 P → f_M_between fu (nI x) (nI y) w S = (if pFar P x y = 0 then some ((-1 : Int32), S) else if w = (2 : Int32) then zb2 (f_M_takesFor fu (nI x) (nI y) S) (fun r11 S12 => some (r11, S12)) else if w = (3 : Int32) then zb2 (f_M_weighsFor fu (nI x) (nI y) S) (fun r15 S16 => some (r15, S16)) else if w = (4 : Int32) then zb2 (f_M_isBarred fu (nI x) (nI y) S) (fun r19 S20 => if r19 = 0 then some ((0 : Int32), S20) else some ((1 : Int32), S20)) else some ((-1 : Int32), S)) := by
      intro S hm
      unfold f_M_between
      rw [qb1 (m_two_yes hm hP hx hy hxy), if_neg (by decide), if_neg h0, if_neg h1, qb1 (m_far hm (by omega : x < 9) (by omega : y < 9) hxy)]
    by_cases hw : w < 0 ∨ ¬ w ≤ 4
    · refine cOk_0 h (v := -1) ?_ ?_
      · unfold f_E_between
        rw [qb1 eP, if_neg n1]
        by_cases h2 : w < 0
        · rw [if_pos h2]
        · rw [if_neg h2]
          rcases hw with hw | hw
          · exact absurd hw h2
          · rw [if_neg hw]
      · have n2 : ¬ w = 2 := fun h => by rw [h] at hw; revert hw; decide
        have n3 : ¬ w = 3 := fun h => by rw [h] at hw; revert hw; decide
        have n4 : ¬ w = 4 := fun h => by rw [h] at hw; revert hw; decide
        rw [M0 S hm, if_neg n2, if_neg n3, if_neg n4, ite_self]
    · have hw1 : ¬ w < 0 := fun h => hw (Or.inl h)
      have hw2 : w ≤ 4 := Classical.byContradiction fun h => hw (Or.inr h)
      obtain ⟨k, hk, hk2, hkk⟩ : ∃ k : Nat, (k = 0 ∨ k = 1 ∨ k = 3) ∧ ((k = 0 ∧ w = 2) ∨ (k = 1 ∧ w = 3) ∨ (k = 3 ∧ w = 4)) ∧ f_E_kindTold w = some (nI k) := by
        rw [q_lt, e0] at hw1
        rw [q_le, e4] at hw2
        rw [q_eq, e0] at h0
        rw [q_eq, show (1 : Int32).toInt = 1 from rfl] at h1
        rcases (by omega : w.toInt = 2 ∨ w.toInt = 3 ∨ w.toInt = 4) with h | h | h
        · have : w = 2 := q_eq.mpr h
          exact ⟨0, by omega, Or.inl ⟨rfl, this⟩, by rw [this]; rfl⟩
        · have : w = 3 := q_eq.mpr h
          exact ⟨1, by omega, Or.inr (Or.inl ⟨rfl, this⟩), by rw [this]; rfl⟩
        · have : w = 4 := q_eq.mpr h
          exact ⟨3, by omega, Or.inr (Or.inr ⟨rfl, this⟩), by rw [this]; rfl⟩
      have E0 : f_E_between fu (nI x) (nI y) w S = (if pFar P x y = 0 then some ((-1 : Int32), S) else zb1 (f_Ps_lawInForce 1 S) (fun r12 => zb1 (f_E_kindTold w) (fun r14 => zb2 (f_As_told fu 1 r12 r14 (nI x) (nI y) S) (fun r16 S17 => some (r16, S17))))) := by
        unfold f_E_between
        rw [qb1 eP, if_neg n1, if_neg hw1, if_pos hw2, if_neg h0, if_neg h1, qb1 eF]
      by_cases hf : pFar P x y = 0
      · exact cOk_0 h (v := -1) (by rw [E0, if_pos hf]) (by rw [M0 S hm, if_pos hf])
      · obtain ⟨l, l1, l2, l3⟩ := law_force hc hP
        obtain ⟨S1, e1, c1, -⟩ := told_ch fu hfu hc hP (by omega) hs.1 l2 l3 (k := k) (by omega) (by omega) hx hy hxy
        have hm1 := mRep_co hm c1 (Or.inl rfl) hP
        have eE : f_E_between fu (nI x) (nI y) w S = some (pTl P (pLaw P) k x y, S1) := by
          rw [E0, if_neg hf, qb1 l1, qb1 hkk]
          exact qb2 e1
        rcases hk2 with ⟨rfl, hw3⟩ | ⟨rfl, hw3⟩ | ⟨rfl, hw3⟩
        · obtain ⟨S2, e2, c2, -⟩ := m_takes_for fu (by omega) hm1 hP hx hy hxy
          exact cOk_q h eE c1 (by rw [M0 S1 hm1, if_neg hf, if_pos hw3]; exact qb2 e2) c2
        · obtain ⟨S2, e2, c2, -⟩ := m_weighs_for fu (by omega) hm1 hP hx hy hxy
          exact cOk_q h eE c1 (by rw [M0 S1 hm1, if_neg hf, if_neg (show ¬ w = 2 by rw [hw3]; decide), if_pos hw3]; exact qb2 e2) c2
        · obtain ⟨S2, e2, c2, -⟩ := m_barred fu (by omega) hm1 hP hx hy hxy
          have hG : lawG (pLaw P) := m_lawG hm _ hP.2.2.2.2.2.2.2.2.2.2.2.2.2.2.2
          rw [pTl_bar hG] at eE
          refine cOk_q h eE c1 (S2 := S2) ?_ c2
          rw [M0 S1 hm1, if_neg hf, if_neg (show ¬ w = 2 by rw [hw3]; decide), if_neg (show ¬ w = 3 by rw [hw3]; decide), if_pos hw3, qb2 e2]
          cases pBar P (pLaw P) x y <;> rfl
  · refine cOk_0 h (v := -1) ?_ ?_
    · unfold f_E_between
      rw [qb1 (pair_no hc hP hab), if_pos rfl]
    · unfold f_M_between
      rw [qb1 (m_two_no hm hP hab), if_pos rfl]
/-! which law -/
theorem law_or (P : zP) (a : Int32) : (∃ f : Option Nat, a = fcI f ∧ ∀ t, f = some t → t < (pLw P).length) ∨ (a ≠ -1 ∧ ∀ t, t < (pLw P).length → a ≠ nI t) := by
  by_cases h1 : a = -1
  · exact Or.inl ⟨none, h1, fun t h => by cases h⟩
  · by_cases h : ∃ t, t < (pLw P).length ∧ a = nI t
    · obtain ⟨t, h2, h3⟩ := h
      exact Or.inl ⟨some t, h3, fun t' h => by injection h with h; omega⟩
    · exact Or.inr ⟨h1, fun t ht he => h ⟨t, ht, he⟩⟩
theorem hasLaw_is {P : zP} {S : zSt} (h : cRep S 1 P) (hP : pOK P) (a : Int32) : (∀ t, t < (pLw P).length → a = nI t → f_Ps_hasLaw 1 a S = some 1) ∧ ((∀ t, t < (pLw P).length → a ≠ nI t) → f_Ps_hasLaw 1 a S = some 0) := by
  have h6 := hP.2.2.2.2.2.2.2.2.2.2.2.2.2.2.1
  have e := h.2.2.2.2.2.2.2.2.2.2.2.2.1
  unfold f_Ps_hasLaw
  rw [e]
  constructor
  · rintro t ht rfl
    rw [if_neg (n_neg (by omega)), if_neg (fun h => absurd ((n_le (by omega) (by omega)).mp h) (by omega))]
  · intro hn
    by_cases h0 : a < 0
    · rw [if_pos h0]
    · rw [q_lt, q_0] at h0
      obtain ⟨m, rfl, hm, hb⟩ := q_ex (a := a) (by omega)
      have : (pLw P).length ≤ m := Nat.le_of_not_lt (fun h => hn m h rfl)
      rw [if_neg (n_neg hb), if_pos ((n_le (by omega) (by omega)).mpr this)]
theorem isLaw_is {P : zP} {S : zSt} (h : mRep S 74 0 P) (hP : pOK P) (a : Int32) : (∀ f : Option Nat, (∀ t, f = some t → t < (pLw P).length) → a = fcI f → f_M_isLaw a S = some 1) ∧ ((a ≠ -1 ∧ ∀ t, t < (pLw P).length → a ≠ nI t) → f_M_isLaw a S = some 0) := by
  have h6 := hP.2.2.2.2.2.2.2.2.2.2.2.2.2.2.1
  have e := h.2.2.2.2.2.2.2.2.2.2.2.1
  rw [Nat.zero_add] at e
  have hl : (zI S 74 198 - 1).toInt = ((pLw P).length : Int) - 1 := by
    rw [e, q_sub]
    · rw [q_nI (by omega)]; rfl
    · rw [q_nI (by omega), show (1 : Int32).toInt = 1 from rfl]; omega
  unfold f_M_isLaw
  rw [m_lies]
  show (∀ f : Option Nat, _ → _ → zb1 (some (if (-1) ≤ a ∧ a ≤ zI S 74 198 - 1 then 1 else 0)) _ = _) ∧ (_ → zb1 (some (if (-1) ≤ a ∧ a ≤ zI S 74 198 - 1 then 1 else 0)) _ = _)
  constructor
  · intro f hf ha
    rw [if_pos, qb1s, qgd (by decide)]
    rw [q_le, q_le, hl, ha, show (-1 : Int32).toInt = -1 from rfl]
    cases f with
    | none => exact ⟨by decide, by show (-1 : Int32).toInt ≤ _; rw [show (-1 : Int32).toInt = -1 from rfl]; omega⟩
    | some t =>
      have := hf t rfl
      show -1 ≤ (nI t).toInt ∧ (nI t).toInt ≤ _
      rw [q_nI (by omega)]
      omega
  · rintro ⟨h1, h2⟩
    rw [if_neg, qb1s, qgd (by decide)]
    rintro ⟨h3, h4⟩
    rw [q_le, show (-1 : Int32).toInt = -1 from rfl] at h3
    rw [q_le, hl] at h4
    have h5 : a.toInt ≠ -1 := fun h => h1 (q_eq.mpr h)
    obtain ⟨m, rfl, hm, hb⟩ := q_ex (a := a) (by omega)
    exact h2 m (by omega) rfl
def pForce (P : zP) (f : Option Nat) : zP := (P.1, P.2.1, P.2.2.1, P.2.2.2.1, P.2.2.2.2.1, P.2.2.2.2.2.1, P.2.2.2.2.2.2.1, P.2.2.2.2.2.2.2.1, f)
theorem pOK_force {P : zP} (hP : pOK P) {f : Option Nat} (hf : ∀ t, f = some t → t < (pLw P).length) : pOK (pForce P f) := by
  obtain ⟨p1, p2, p3, p4, p5, p6, p7, p8, p9, p10, p11, p12, p13, p14, p15, p16⟩ := hP
  exact ⟨p1, p2, p3, p4, p5, p6, p7, p8, p9, p10, p11, p12, p13, p14, p15, hf⟩
theorem cRep_force {S : zSt} {P : zP} (h : cRep S 1 P) (f : Option Nat) : cRep (zwI S 1 14 (fcI f)) 1 (pForce P f) := by
  have I : ∀ k, k ≠ 14 → zI (zwI S 1 14 (fcI f)) 1 k = zI S 1 k := fun k hk => qIIo _ _ (by omega)
  have J : ∀ j, j ≠ 1 → zI (zwI S 1 14 (fcI f)) j = zI S j := fun j hj => by funext k; exact qIIo _ _ (by omega)
  obtain ⟨h1, h2, h3, h4, h5, h6, h7, h8, h9, h10, h11, h12, h13, h14, h15⟩ := h
  refine ⟨?_, ?_, ?_, h4, h5, h6, ?_, ?_, ?_, ?_, ?_, ?_, ?_, fun t cls ht => ?_, qIIs _ _ _ _⟩
  · rw [I 0 (by omega)]; exact h1
  · rw [J (1 + 1) (by omega)]; exact h2
  · rw [J (1 + 2) (by omega)]; exact h3
  · rw [I 5 (by omega)]; exact h7
  · rw [I 6 (by omega)]; exact h8
  · rw [I 7 (by omega)]; exact h9
  · rw [I 8 (by omega)]; exact h10
  · rw [I 9 (by omega)]; exact h11
  · rw [J (1 + 3) (by omega), J (1 + 4) (by omega)]; exact h12
  · rw [I 12 (by omega)]; exact h13
  · obtain ⟨q, g1, g2, g3, g4, g5⟩ := h14 t cls ht
    exact ⟨q, g1, g2, g3, g4, zTx_f g5 (fun j a b => J j (by omega)) rfl⟩
theorem mRep_force {S : zSt} {P : zP} (h : mRep S 74 0 P) (hP : pOK P) (f : Option Nat) : mRep (zwI S 74 199 (fcI f)) 74 0 (pForce P f) := by
  have I : ∀ k, k ≠ 199 → zI (zwI S 74 199 (fcI f)) 74 k = zI S 74 k := fun k hk => qIIo _ _ (by omega)
  have p9 := hP.1
  have p13 := hP.2.2.2.2.2.2.2.2.2.2.2.2.1
  have p15 := hP.2.2.2.2.2.2.2.2.2.2.2.2.2.2.1
  obtain ⟨h1, h2, h3, h4, h5, h6, h7, h8, h9, h10, h11, h12, h13, h14⟩ := h
  refine ⟨?_, fun s hs => ?_, fun a c ha hc hac => ?_, fun s hs => ?_, fun a c ha hc hac => ?_, ?_, ?_, ?_, ?_, ?_, fun i x hx => ?_, ?_, fun t cls ht => ?_, qIIs _ _ _ _⟩
  · rw [I _ (by omega)]; exact h1
  · have hs' : s < pN P := hs
    rw [I _ (by omega)]; exact h2 s hs
  · rw [I _ (by omega)]; exact h3 a c ha hc hac
  · have hs' : s < pN P := hs
    rw [I _ (by omega)]; exact h4 s hs
  · rw [I _ (by omega)]; exact h5 a c ha hc hac
  · rw [I _ (by omega)]; exact h6
  · rw [I _ (by omega)]; exact h7
  · rw [I _ (by omega)]; exact h8
  · rw [I _ (by omega)]; exact h9
  · rw [I _ (by omega)]; exact h10
  · have hi : i < (pHd P).length := (List.getElem?_eq_some_iff.mp hx).1
    rw [I _ (by omega), I _ (by omega)]; exact h11 i x hx
  · rw [I _ (by omega)]; exact h12
  · have ht6 : t < (pLw P).length := (List.getElem?_eq_some_iff.mp ht).1
    obtain ⟨C, V, N, n, g1, g2, g3, g4, g5, g6, g7⟩ := h13 t cls ht
    refine ⟨C, V, N, n, g1, g2, ?_, fun k hk => ?_, g5, g6, g7⟩
    · rw [I _ (by omega)]; exact g3
    · rw [I _ (by omega), I _ (by omega)]; exact g4 k hk
/-- the status of both, one granted, behind the class's and the reference's writes -/
theorem call_force {S : zSt} (h : Inv S) (a : Int32) : cOk (f_E_force a) (f_M_force a) S := by
  obtain ⟨P, es, hP, hc, hm, hj, hi, ht, hms, hd, hs⟩ := id h
  rcases law_or P a with ⟨f, rfl, hf⟩ | ⟨hn1, hn⟩
  · have eE : f_E_force (fcI f) S = some (fcI (pFc P), zwI (zwI S 1 14 (fcI f)) 0 19 0) := by
      have h14 := hc.2.2.2.2.2.2.2.2.2.2.2.2.2.2
      unfold f_E_force
      cases f with
      | none => rw [if_pos (show fcI none = -1 from rfl), h14]; rfl
      | some t =>
        have := hf t rfl
        have h6 := hP.2.2.2.2.2.2.2.2.2.2.2.2.2.2.1
        have n1 : ¬ fcI (some t) = -1 := nI_m1 (by omega)
        have hl : f_Ps_hasLaw 1 (fcI (some t)) S = some 1 := (hasLaw_is hc hP _).1 t this rfl
        rw [if_neg n1, qb1 hl, if_neg (by decide), h14]; rfl
    have up1 : zUp S (zwI (zwI S 1 14 (fcI f)) 0 19 0) := zUp_t (zUp_w S _ (by omega)) (zUp_w _ _ (by omega))
    have hm1 : mRep (zwI (zwI S 1 14 (fcI f)) 0 19 0) 74 0 P := mRep_f hm (fun k _ => by rw [qIIo _ _ (by omega), qIIo _ _ (by omega)]) hP
    have eM : f_M_force (fcI f) (zwI (zwI S 1 14 (fcI f)) 0 19 0) = some (fcI (pFc P), zwI (zwI (zwI (zwI S 1 14 (fcI f)) 0 19 0) 74 199 (fcI f)) 72 0 0) := by
      have h14 := hm1.2.2.2.2.2.2.2.2.2.2.2.2.2
      rw [Nat.zero_add] at h14
      unfold f_M_force
      rw [qb1 ((isLaw_is hm1 hP _).1 f hf rfl), if_neg (by decide)]
      show some (zI _ 74 199, _) = _
      rw [h14]
      rfl
    have up : zUp S (zwI (zwI (zwI (zwI S 1 14 (fcI f)) 0 19 0) 74 199 (fcI f)) 72 0 0) := zUp_t up1 (zUp_t (zUp_w _ _ (by omega)) (zUp_w _ _ (by omega)))
    refine ⟨_, _, _, eE, eM, ?_, by rw [zUp_N up]; exact Nat.le_refl _, by rw [zUp_N up]; omega⟩
    refine Inv_up (P := pForce P f) (es := es) hi ht hd hs up (pOK_force hP hf) ?_ ?_ ?_ ?_
    · exact cRep_f (cRep_force hc f) (fun j _ _ => by funext k; rw [qIIo _ _ (by omega), qIIo _ _ (by omega), qIIo _ _ (by omega)]) rfl rfl (Nat.le_refl _) (fun j _ _ => ⟨by funext k; rw [qIIo _ _ (by omega), qIIo _ _ (by omega), qIIo _ _ (by omega)], rfl⟩)
    · exact mRep_f (mRep_force hm1 hP f) (fun k _ => by rw [qIIo _ _ (by omega)]) (pOK_force hP hf)
    · obtain ⟨j1, j2, j3, nx, j4, j5, j6⟩ := hj
      have hjf : jRel S (pForce P f) es := ⟨j1, j2, j3, nx, j4, j5, fun i e hie => by
        obtain ⟨g1, g2, g3, g4⟩ := j6 i e hie
        exact ⟨g1, pOK_force g2 hf, g3, g4⟩⟩
      refine jRel_f hjf (fun j a => ?_) ?_ (fun _ _ => rfl)
      · funext k
        rw [qIIo _ _ (by omega), qIIo _ _ (by omega), qIIo _ _ (by omega), qIIo _ _ (by omega)]
      · rw [qIIo _ _ (by omega), qIIo _ _ (by omega), qIIo _ _ (by omega), qIIo _ _ (by omega)]
    · refine gr_ms hms (fun k _ _ => ?_) ?_ ?_ (qIIs _ _ _ _) (fun k _ => ?_) ?_
      · rw [qIIo _ _ (by omega), qIIo _ _ (by omega), qIIo _ _ (by omega), qIIo _ _ (by omega)]
      · rw [qIIo _ _ (by omega), qIIo _ _ (by omega), qIIs]
      · funext k
        rw [qIIo _ _ (by omega), qIIo _ _ (by omega), qIIo _ _ (by omega), qIIo _ _ (by omega)]
      · rw [qIIo _ _ (by omega), qIIo _ _ (by omega), qIIo _ _ (by omega), qIIo _ _ (by omega)]
      · funext k
        rw [qIIo _ _ (by omega), qIIo _ _ (by omega), qIIo _ _ (by omega), qIIo _ _ (by omega)]
  · refine cOk_ref h rf2 ?_ ?_
    · unfold f_E_force
      rw [if_neg hn1, qb1 ((hasLaw_is hc hP a).2 hn), if_pos rfl, zb2_eta]
    · unfold f_M_force
      rw [qb1 ((isLaw_is (rS1_m hm hP _ _) hP a).2 ⟨hn1, hn⟩), if_pos rfl, zb2_eta]

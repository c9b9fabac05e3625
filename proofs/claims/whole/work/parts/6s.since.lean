/-! since, canBe -/
def stA (P : zP) (a : Nat) : Option Nat := stP (pD P (pLaw P)) a (pHd P) none
theorem c_start (fu : Nat) (hfu : 100 ≤ fu) {S : zSt} {P : zP} (hc : cRep S 1 P) (hP : pOK P) (hp : zPp S P (pLaw P)) {a : Nat} (ha : a < pN P) : f_Ru_startBy fu 1 (nI a) S = some (ocI (stA P a)) := by
  have h6 := hP.2.2.2.2.2.2.2.2.2.2.2.2.1
  have := c_start_5 fu hc hP hp ha (pHd P).length 0 fu none (by omega) (by omega) (fun u hu => by cases hu)
  rw [List.drop_zero] at this
  exact this
theorem m_start (fu : Nat) (hfu : 100 ≤ fu) {S : zSt} {P : zP} (hm : mRep S 74 0 P) (hP : pOK P) (hp : mPp S P) {a : Nat} (ha : a < pN P) : f_M_beginsAt fu (nI a) S = some (ocI (stA P a)) := by
  have h6 := hP.2.2.2.2.2.2.2.2.2.2.2.2.1
  have := m_start_4 fu hm hP hp ha (pHd P).length 0 fu none (by omega) (by omega) (fun u hu => by cases hu) ⟨fun _ => rfl, fun _ => rfl⟩
  rw [List.drop_zero] at this
  exact this
theorem stP_le {D : zD} {a : Nat} : ∀ (l : List (Nat × Nat)) (p : Option Nat), (∀ x ∈ l, x.2 ≤ 999) → (∀ u, p = some u → u ≤ 999) → ∀ v, stP D a l p = some v → v ≤ 999 := by
  intro l
  induction l with
  | nil =>
    intro p _ hp v h
    cases p with
    | none => injection h with h; rw [← h]; exact Nat.zero_le _
    | some u => injection h with h; rw [← h]; exact hp u rfl
  | cons x r ih =>
    intro p hl hp v h
    by_cases c : D a x.1 ≤ x.2 ∧ prOk p (x.2 - D a x.1) = true
    · have e : stP D a (x :: r) p = stP D a r (some (x.2 - D a x.1)) := if_pos c
      rw [e] at h
      have hx := hl x List.mem_cons_self
      exact ih _ (fun y hy => hl y (List.mem_cons_of_mem _ hy)) (fun u hu => by injection hu with hu; omega) v h
    · have e : stP D a (x :: r) p = none := if_neg c
      rw [e] at h; cases h
theorem stA_le {P : zP} (hP : pOK P) {a v : Nat} (h : stA P a = some v) : v ≤ 999 := by
  refine stP_le (pHd P) none (fun x hx => ?_) (fun u hu => by cases hu) v h
  obtain ⟨i, hi⟩ := List.getElem?_of_mem hx
  exact (hP.2.2.2.2.2.2.2.2.2.2.2.2.2.1 i x hi).2
def zRu (S : zSt) (P : zP) (n : Nat) : Prop := zI S 67 1 = nI (pN P) ∧ ∀ a, a < n → zI S 68 a = ocI (stA P a)
theorem zPp_f {S S' : zSt} {P : zP} {law : List lC} (h : zPp S P law) (hI : ∀ j, 55 ≤ j → j ≤ 58 → zI S' j = zI S j) : zPp S' P law := by
  unfold zPp rowD
  rw [hI 55 (by omega) (by omega), hI 56 (by omega) (by omega), hI 57 (by omega) (by omega), hI 58 (by omega) (by omega)]
  exact h
theorem ru_10 (fu : Nat) (hfu : 100 ≤ fu) {P : zP} (hP : pOK P) : ∀ (m a n : Nat) (S : zSt), a + m = pN P → m + 1 ≤ n → cRep S 1 P → zPp S P (pLaw P) → zRu S P a → ∃ S1, f_Ru_fill_10 fu 1 n (nI a) S = some S1 ∧ zCo S S1 ∧ zPp S1 P (pLaw P) ∧ zRu S1 P (pN P) := by
  have h9 := hP.1
  intro m
  induction m with
  | zero =>
    intro a n S h1 h2 hc hp hr
    obtain ⟨n', rfl⟩ : ∃ n', n = n' + 1 := ⟨n - 1, by omega⟩
    refine ⟨S, ?_, zCo_r S, hp, by rw [← show a = pN P by omega]; exact hr⟩
    unfold f_Ru_fill_10
    rw [hr.1, if_pos ((n_le (by omega) (by omega)).mpr (by omega))]
  | succ m ih =>
    intro a n S h1 h2 hc hp hr
    obtain ⟨n', rfl⟩ : ∃ n', n = n' + 1 := ⟨n - 1, by omega⟩
    have c1 : zCo S (zwI S 68 a (ocI (stA P a))) := zCo_w S _ (by unfold scI; omega)
    obtain ⟨S1, g1, g2, g3, g4⟩ := ih (a + 1) n' (zwI S 68 a (ocI (stA P a))) (by omega) (by omega) (cRep_co hc c1 (by omega)) (zPp_f hp (fun j _ _ => by funext k; exact qIIo _ _ (by omega))) ⟨by rw [qIIo _ _ (by omega)]; exact hr.1, fun b hb => by
      rw [qII]
      by_cases e : b = a
      · rw [if_pos ⟨rfl, e⟩, e]
      · rw [if_neg (fun h => e h.2)]; exact hr.2 b (by omega)⟩
    refine ⟨S1, ?_, zCo_t c1 g2, g3, g4⟩
    rw [← g1]
    obtain ⟨K, eK⟩ : ∃ K, K = f_Ru_fill_10 fu 1 n' := ⟨_, rfl⟩
    rw [← eK]
    unfold f_Ru_fill_10
    rw [hr.1, if_neg (fun h => absurd ((n_le (by omega) (by omega)).mp h) (by omega)), qb1 (c_start fu hfu hc hP hp (by omega)), n_gd (by omega) (by omega), q_cl (by omega), n_1, ← eK]
theorem ru_fill (fu : Nat) (hfu : 100 ≤ fu) {S : zSt} {P : zP} (hP : pOK P) (hc : cRep S 1 P) (hp : zPp S P (pLaw P)) : ∃ S1, f_Ru_fill fu 1 S = some S1 ∧ zCo S S1 ∧ zPp S1 P (pLaw P) ∧ zRu S1 P (pN P) := by
  have c1 : zCo S (zwI S 67 1 (nI (pN P))) := zCo_w S _ (by unfold scI; omega)
  obtain ⟨S1, g1, g2, g3, g4⟩ := ru_10 fu hfu hP (pN P) 0 fu (zwI S 67 1 (nI (pN P))) (by omega) (by have := hP.1; omega) (cRep_co hc c1 (by omega)) (zPp_f hp (fun j _ _ => by funext k; exact qIIo _ _ (by omega))) ⟨qIIs _ _ _ _, fun a ha => absurd ha (by omega)⟩
  refine ⟨S1, ?_, zCo_t c1 g2, g3, g4⟩
  unfold f_Ru_fill
  rw [hp.1]
  exact g1
theorem call_since (fu : Nat) (hfu : 1000 ≤ fu) {S : zSt} (h : Inv S) (a : Int32) : cOk (f_E_since fu a) (f_M_since fu a) S := by
  obtain ⟨P, es, hP, hc, hm, hj, hi, ht, hms, hd, hs⟩ := id h
  have h9 := hP.1
  have h6 := hP.2.2.2.2.2.2.2.2.2.2.2.2.1
  have e9 : zI S 1 9 = nI (pHd P).length := hc.2.2.2.2.2.2.2.2.2.2.1
  have em : ∀ S, mRep S 74 0 P → zI S 74 (197 : Int32).toNatClampNeg = nI (pHd P).length := fun S hm => by
    have := hm.2.2.2.2.2.2.2.2.2.1
    rw [Nat.zero_add] at this
    exact this
  have n0 : nI (pHd P).length = 0 ↔ (pHd P).length = 0 := n_eq (b := 0) (by omega) (by omega)
  rcases spr_or P a with ⟨s, hss, rfl⟩ | ha
  · by_cases h0 : (pHd P).length = 0
    · refine cOk_0 h (v := -1) ?_ ?_
      · unfold f_E_since
        rw [e9, if_pos (n0.mpr h0)]
      · unfold f_M_since
        rw [qb1 (m_spr_yes hm hP hss), if_neg (by decide), em S hm, if_pos (n0.mpr h0)]
    · obtain ⟨S1, e1, c1, p1, hc1, hm1⟩ := inv_paper fu hfu hP hc hm hs
      obtain ⟨S2, e2, c2, p2, r2⟩ := ru_fill fu (by omega) hP hc1 p1
      have hm2 := mRep_co hm1 c2 (Or.inl rfl) hP
      obtain ⟨S3, e3, c3, z3⟩ := lays_soon fu (by omega) hP hm2
      have hm3 := mRep_co hm2 c3 (Or.inl rfl) hP
      refine cOk_q h (v := ocI (stA P s)) (S1 := S2) ?_ (zCo_t c1 c2) (S2 := S3) ?_ c3
      · have e4 : f_Ru_startAt (nI s) S2 = some (ocI (stA P s)) := by
          unfold f_Ru_startAt
          rw [if_neg (n_neg (by omega)), r2.1, if_neg (fun h => absurd ((n_le (by omega) (by omega)).mp h) (by omega)), n_gd (by omega) (by omega), q_cl (by omega), r2.2 s hss]
        unfold f_E_since
        rw [e9, if_neg (fun h => h0 (n0.mp h)), qb1 (has_yes hc hP hss), if_neg (by decide), qb1 e1, qb1 e2, qb1 e4]
      · unfold f_M_since
        rw [qb1 (m_spr_yes hm2 hP hss), if_neg (by decide), em S2 hm2, if_neg (fun h => h0 (n0.mp h)), qb1 e3, qb1 (m_start fu (by omega) hm3 hP z3 hss)]
  · refine cOk_0 h (v := -1) ?_ ?_
    · unfold f_E_since
      by_cases h0 : zI S 1 9 = 0
      · rw [if_pos h0]
      · rw [if_neg h0, qb1 (has_no hc hP ha), if_pos rfl]
    · unfold f_M_since
      rw [qb1 (m_spr_no hm hP ha), if_pos rfl]

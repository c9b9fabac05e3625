/-! canBe -/
def ogP (P : zP) : Nat → Int32
  | 0 => 0
  | a + 1 => if (stA P a).isSome = true then ogP P a ||| ((1 : Int32) <<< (nI a &&& 31)) else ogP P a
theorem oc_is {P : zP} (hP : pOK P) (a : Nat) : ocI (stA P a) = -1 ↔ ¬ (stA P a).isSome = true := by
  cases h : stA P a with
  | none => exact ⟨fun _ => by simp, fun _ => rfl⟩
  | some v =>
    have hv := stA_le hP h
    exact ⟨fun e => absurd (show nI v = -1 from e) (nI_m1 (by omega)), fun e => absurd rfl e⟩
theorem c_orig_4 (fu : Nat) {S : zSt} {P : zP} (hP : pOK P) (hr : zRu S P (pN P)) : ∀ (m a n : Nat), a + m = pN P → m + 1 ≤ n → f_Ru_origins_4 fu n (ogP P a) (nI a) S = some (ogP P (pN P)) := by
  have h9 := hP.1
  intro m
  induction m with
  | zero =>
    intro a n h1 h2
    obtain ⟨n', rfl⟩ : ∃ n', n = n' + 1 := ⟨n - 1, by omega⟩
    unfold f_Ru_origins_4
    rw [hr.1, if_pos ((n_le (by omega) (by omega)).mpr (by omega)), show a = pN P by omega]
  | succ m ih =>
    intro a n h1 h2
    obtain ⟨n', rfl⟩ : ∃ n', n = n' + 1 := ⟨n - 1, by omega⟩
    have es : ogP P (a + 1) = if (stA P a).isSome = true then ogP P a ||| ((1 : Int32) <<< (nI a &&& 31)) else ogP P a := rfl
    rw [← ih (a + 1) n' (by omega) (by omega), es]
    obtain ⟨K, eK⟩ : ∃ K, K = f_Ru_origins_4 fu n' := ⟨_, rfl⟩
    rw [← eK]
    unfold f_Ru_origins_4
    rw [hr.1, if_neg (fun h => absurd ((n_le (by omega) (by omega)).mp h) (by omega)), n_gd (by omega) (by omega), q_cl (by omega), hr.2 a (by omega), n_1, ← eK]
    by_cases c : (stA P a).isSome = true
    · rw [if_neg (fun h => (oc_is hP a).mp h c), if_pos c]
    · rw [if_pos ((oc_is hP a).mpr c), if_neg c]
theorem m_can_8 (fu : Nat) (hfu : 100 ≤ fu) {S : zSt} {P : zP} (hm : mRep S 74 0 P) (hP : pOK P) (hp : mPp S P) : ∀ (m a n : Nat), a + m = pN P → m + 1 ≤ n → f_M_canBeNow_8 fu n (ogP P a) (nI a) S = some (ogP P (pN P), S) := by
  have h9 := hP.1
  intro m
  induction m with
  | zero =>
    intro a n h1 h2
    obtain ⟨n', rfl⟩ : ∃ n', n = n' + 1 := ⟨n - 1, by omega⟩
    unfold f_M_canBeNow_8
    rw [qb1 (m_many hm), if_pos ((n_le (by omega) (by omega)).mpr (by omega)), show a = pN P by omega]
  | succ m ih =>
    intro a n h1 h2
    obtain ⟨n', rfl⟩ : ∃ n', n = n' + 1 := ⟨n - 1, by omega⟩
    have es : ogP P (a + 1) = if (stA P a).isSome = true then ogP P a ||| ((1 : Int32) <<< (nI a &&& 31)) else ogP P a := rfl
    rw [← ih (a + 1) n' (by omega) (by omega), es]
    obtain ⟨K, eK⟩ : ∃ K, K = f_M_canBeNow_8 fu n' := ⟨_, rfl⟩
    rw [← eK]
    unfold f_M_canBeNow_8
    rw [qb1 (m_many hm), if_neg (fun h => absurd ((n_le (by omega) (by omega)).mp h) (by omega)), qb1 (m_start fu hfu hm hP hp (by omega)), n_1, ← eK]
    by_cases c : (stA P a).isSome = true
    · rw [if_neg (fun h => (oc_is hP a).mp h c), if_pos c]
    · rw [if_pos ((oc_is hP a).mpr c), if_neg c, Int32.or_zero]
theorem c_orig (fu : Nat) (hfu : 100 ≤ fu) {S : zSt} {P : zP} (hP : pOK P) (hr : zRu S P (pN P)) : f_Ru_origins fu S = some (ogP P (pN P)) := c_orig_4 fu hP hr (pN P) 0 fu (by omega) (by have := hP.1; omega)
theorem m_can (fu : Nat) (hfu : 1000 ≤ fu) {S : zSt} {P : zP} (hm : mRep S 74 0 P) (hP : pOK P) : ∃ S1, f_M_canBeNow fu S = some (ogP P (pN P), S1) ∧ zCo S S1 ∧ mPp S1 P ∧ mRep S1 74 0 P := by
  obtain ⟨S1, e1, c1, z1⟩ := lays_soon fu (by omega) hP hm
  have hm1 := mRep_co hm c1 (Or.inl rfl) hP
  refine ⟨S1, ?_, c1, z1, hm1⟩
  unfold f_M_canBeNow
  rw [qb1 e1]
  exact m_can_8 fu (by omega) hm1 hP z1 (pN P) 0 fu (by omega) (by have := hP.1; omega)
theorem inv_rumour (fu : Nat) (hfu : 1000 ≤ fu) {S : zSt} {P : zP} (hP : pOK P) (hc : cRep S 1 P) (hm : mRep S 74 0 P) (hs : iSt S) : ∃ S1 S2, f_E_fillPaper fu S = some S1 ∧ f_Ru_fill fu 1 S1 = some S2 ∧ zCo S S2 ∧ zPp S2 P (pLaw P) ∧ zRu S2 P (pN P) ∧ cRep S2 1 P ∧ mRep S2 74 0 P := by
  obtain ⟨S1, e1, c1, p1, hc1, hm1⟩ := inv_paper fu hfu hP hc hm hs
  obtain ⟨S2, e2, c2, p2, r2⟩ := ru_fill fu (by omega) hP hc1 p1
  exact ⟨S1, S2, e1, e2, zCo_t c1 c2, p2, r2, cRep_co hc1 c2 (by omega), mRep_co hm1 c2 (Or.inl rfl) hP⟩
theorem call_canBe (fu : Nat) (hfu : 1000 ≤ fu) {S : zSt} (h : Inv S) : cOk (f_E_canBe fu) (f_M_canBe fu) S := by
  obtain ⟨P, es, hP, hc, hm, hj, hi, ht, hms, hd, hs⟩ := id h
  obtain ⟨S1, S2, e1, e2, c2, p2, r2, hc2, hm2⟩ := inv_rumour fu hfu hP hc hm hs
  obtain ⟨S3, e3, c3, z3, hm3⟩ := m_can fu hfu hm2 hP
  refine cOk_q h (v := ogP P (pN P)) (S1 := S2) ?_ c2 (S2 := S3) ?_ c3
  · unfold f_E_canBe
    rw [qb1 e1, qb1 e2, qb1 (c_orig fu (by omega) hP r2)]
  · unfold f_M_canBe
    rw [qb2 e3]

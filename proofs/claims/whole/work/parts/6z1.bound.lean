/-! bound: the reference's weights -/
theorem lw_12 (fu : Nat) (hfu : 1000 ≤ fu) {P : zP} (hP : pOK P) (k2 : Int32 → zSt → Option zSt) {a : Nat} (ha : a < pN P) : ∀ (m b n : Nat) (S : zSt), b + m = pN P → m + 1 ≤ n → mRep S 74 0 P → wgM S P a b → ∃ S1, f_M_laysWeights_12 fu k2 n (nI a) (nI b) S = k2 (nI (a + 1)) S1 ∧ zCo S S1 ∧ wgM S1 P (a + 1) 0 := by
  have h9 := hP.1
  intro m
  induction m with
  | zero =>
    intro b n S h1 h2 hm hw
    obtain ⟨n', rfl⟩ : ∃ n', n = n' + 1 := ⟨n - 1, by omega⟩
    refine ⟨S, ?_, zCo_r S, fun x y hx hy hxy => hw x y hx hy (by omega)⟩
    unfold f_M_laysWeights_12
    rw [qb1 (m_many hm), if_pos ((n_le (by omega) (by omega)).mpr (by omega)), n_1]
  | succ m ih =>
    intro b n S h1 h2 hm hw
    obtain ⟨n', rfl⟩ : ∃ n', n = n' + 1 := ⟨n - 1, by omega⟩
    have hb : b < pN P := by omega
    obtain ⟨K, eK⟩ : ∃ K, K = f_M_laysWeights_12 fu k2 n' := ⟨_, rfl⟩
    have st : ∃ S0, f_M_laysWeights_12 fu k2 (n' + 1) (nI a) (nI b) S = K (nI a) (nI (b + 1)) S0 ∧ zCo S S0 ∧ wgM S0 P a (b + 1) := by
      have hz : wgP P a b = 0 → wgM (zwI S 92 (9 * a + b) 0) P a (b + 1) := fun h => by
        have := wg_w h9 (r := 92) hw ha hb
        rw [h] at this
        exact this
      have cz : zCo S (zwI S 92 (9 * a + b) 0) := zCo_w S _ (by unfold scI; omega)
      unfold f_M_laysWeights_12
      rw [qb1 (m_many hm), if_neg (fun h => absurd ((n_le (by omega) (by omega)).mp h) (by omega)), qb1 (m_pair (by omega) (by omega)), ← eK]
      by_cases hab : a = b
      · refine ⟨_, ?_, cz, hz (by unfold wgP; rw [if_neg (fun h => h.1 hab)])⟩
        rw [if_pos (show nI a = nI b by rw [hab]), n_gd (by omega) (by omega), q_cl (by omega), n_1]
      rw [if_neg (fun h => hab ((n_eq (by omega) (by omega)).mp h)), qb1 (m_far hm (by omega) (by omega) hab)]
      by_cases hf : pFar P a b = 0
      · refine ⟨_, ?_, cz, hz (by unfold wgP; rw [if_neg (fun h => h.2.1 hf)])⟩
        rw [if_pos ((far_le hP (by omega) (by omega)).mpr hf), n_gd (by omega) (by omega), q_cl (by omega), n_1]
      rw [if_neg (fun h => hf ((far_le hP (by omega) (by omega)).mp h)), qb1 (m_shut hm (by omega) (by omega) hab)]
      cases hs : pSh P a b with
      | true =>
        refine ⟨_, ?_, cz, hz (by unfold wgP; rw [hs, if_neg (fun h => by cases h.2.2)])⟩
        rw [if_neg (show ¬ b2 true = 0 by decide), n_gd (by omega) (by omega), q_cl (by omega), n_1]
      | false =>
        obtain ⟨S1, e1, c1, f1⟩ := m_weighs_for fu (by omega) hm hP ha hb hab
        have ew : wgP P a b = pTl P (pLaw P) 1 a b := by unfold wgP; rw [if_pos ⟨hab, hf, hs⟩]
        have h92 : zI S1 92 = zI S 92 := f1 92 (by omega) (by omega)
        refine ⟨zwI S1 92 (9 * a + b) (wgP P a b), ?_, zCo_t c1 (zCo_w _ _ (by unfold scI; omega)), wg_w h9 (by rw [h92]; exact hw) ha hb⟩
        rw [if_pos (show b2 false = 0 from rfl), qb2 e1, n_gd (by omega) (by omega), q_cl (by omega), n_1, ew]
    obtain ⟨S0, s1, s2, s3⟩ := st
    obtain ⟨S1, g1, g2, g3⟩ := ih (b + 1) n' S0 (by omega) (by omega) (mRep_co hm s2 (Or.inl rfl) hP) s3
    rw [eK] at s1
    exact ⟨S1, s1.trans g1, zCo_t s2 g2, g3⟩
theorem lw_2 (fu : Nat) (hfu : 1000 ≤ fu) {P : zP} (hP : pOK P) : ∀ (m a n : Nat) (S : zSt), a + m = pN P → m + 1 ≤ n → mRep S 74 0 P → wgM S P a 0 → ∃ S1, f_M_laysWeights_2 fu n (nI a) S = some S1 ∧ zCo S S1 ∧ wgM S1 P (pN P) 0 := by
  have h9 := hP.1
  intro m
  induction m with
  | zero =>
    intro a n S h1 h2 hm hw
    obtain ⟨n', rfl⟩ : ∃ n', n = n' + 1 := ⟨n - 1, by omega⟩
    refine ⟨S, ?_, zCo_r S, by rw [← show a = pN P by omega]; exact hw⟩
    unfold f_M_laysWeights_2
    rw [qb1 (m_many hm), if_pos ((n_le (by omega) (by omega)).mpr (by omega))]
  | succ m ih =>
    intro a n S h1 h2 hm hw
    obtain ⟨n', rfl⟩ : ∃ n', n = n' + 1 := ⟨n - 1, by omega⟩
    have ha : a < pN P := by omega
    obtain ⟨S0, s1, s2, s3⟩ := lw_12 fu hfu hP (f_M_laysWeights_2 fu n') ha (pN P) 0 fu S (by omega) (by omega) hm hw
    obtain ⟨S1, g1, g2, g3⟩ := ih (a + 1) n' S0 (by omega) (by omega) (mRep_co hm s2 (Or.inl rfl) hP) s3
    refine ⟨S1, ?_, zCo_t s2 g2, g3⟩
    rw [← g1]
    refine Eq.trans ?_ s1
    rw [show f_M_laysWeights_2 fu (n' + 1) (nI a) S = zb1 (f_M_springMany S) (fun r2 => if r2 ≤ nI a then some S else f_M_laysWeights_12 fu (f_M_laysWeights_2 fu n') fu (nI a) 0 S) from rfl, qb1 (m_many hm), if_neg (fun h => absurd ((n_le (by omega) (by omega)).mp h) (by omega))]
    rfl
theorem lw_ok (fu : Nat) (hfu : 1000 ≤ fu) {S : zSt} {P : zP} (hP : pOK P) (hm : mRep S 74 0 P) : ∃ S1, f_M_laysWeights fu S = some S1 ∧ zCo S S1 ∧ wgM S1 P (pN P) 0 := lw_2 fu hfu hP (pN P) 0 fu S (by omega) (by have := hP.1; omega) hm (fun x y hx hy hxy => absurd hxy (by omega))

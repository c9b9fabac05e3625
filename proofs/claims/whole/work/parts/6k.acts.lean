/-! the reference's moves; swim, gate, stir, pass -/
theorem m_gate_w {S : zSt} {P : zP} (h : mRep S 74 0 P) (hP : pOK P) {a b : Nat} (ha : a < pN P) (hb : b < pN P) (hab : a ≠ b) : ∃ Y, f_M_turnsGate (nI a) (nI b) S = some (b2 (!pSh P a b), Y) ∧ mRep Y 74 0 (pSet P (mvGate P a b)) ∧ mW S Y := by
  have h9 := hP.1
  obtain ⟨k0, ek⟩ : ∃ k0, k0 = b2 (!pSh P a b) := ⟨_, rfl⟩
  have e1 : f_M_turnsGate (nI a) (nI b) S = f_M_turnsGate_14 (nI a) (nI b) k0 S := by
    unfold f_M_turnsGate
    rw [qb1 (m_shut h (by omega) (by omega) hab), ek]
    cases pSh P a b with
    | true => rw [if_neg (show ¬ b2 true = 0 by decide)]; rfl
    | false => rw [if_pos (show b2 false = 0 from rfl)]; rfl
  have hW : mW S (zwI (zwI S 74 (10 + (9 * a + b)) k0) 74 (10 + (9 * b + a)) k0) := mW_t (mW_w _ _ (by omega)) (mW_w _ _ (by omega))
  refine ⟨zwI (zwI S 74 (10 + (9 * a + b)) k0) 74 (10 + (9 * b + a)) k0, ?_, ?_, hW⟩
  · rw [e1]
    unfold f_M_turnsGate_14
    rw [qb1 (m_pair (by omega) (by omega)), show (10 : Int32) + nI (9 * a + b) = nI (10 + (9 * a + b)) from n_add 10 _, n_gd (by omega) (by omega), qb1 (m_pair (by omega) (by omega)), show (10 : Int32) + nI (9 * b + a) = nI (10 + (9 * b + a)) from n_add 10 _, n_gd (by omega) (by omega), q_cl (by omega), q_cl (by omega), ek]
  · have hz := h
    unfold mRep at hz
    simp only [Nat.zero_add] at hz
    obtain ⟨m1, m2, m3, m4, m5, m6, m7, m8, m9, m10, m11, m12, m13, m14⟩ := hz
    have K : ∀ k, k ≠ 10 + (9 * a + b) → k ≠ 10 + (9 * b + a) → zI (zwI (zwI S 74 (10 + (9 * a + b)) k0) 74 (10 + (9 * b + a)) k0) 74 k = zI S 74 k := fun k h1 h2 => by
      rw [qIIo _ _ (by omega), qIIo _ _ (by omega)]
    refine mRep_mw h hP hW _ ?_ ?_ (fun s hs => ?_) (fun x y hx hy hxy => ?_)
    · rw [K _ (by omega) (by omega)]; exact m6
    · rw [K _ (by omega) (by omega)]; exact m7
    · rw [K _ (by omega) (by omega)]; exact m4 s hs
    · show _ = b2 (if (x = a ∧ y = b) ∨ (x = b ∧ y = a) then !pSh P x y else pSh P x y)
      have hsym := hP.2.2.2.2.2.1
      by_cases he : (x = a ∧ y = b) ∨ (x = b ∧ y = a)
      · have : pSh P x y = pSh P a b := by
          rcases he with ⟨rfl, rfl⟩ | ⟨rfl, rfl⟩
          · rfl
          · exact hsym _ _
        rw [if_pos he, this, ← ek, qII]
        by_cases h2 : 10 + (9 * x + y) = 10 + (9 * b + a)
        · rw [if_pos ⟨rfl, h2⟩]
        · rw [if_neg (fun h => h2 h.2), qII, if_pos ⟨rfl, by omega⟩]
      · rw [if_neg he, K _ (by omega) (by omega)]; exact m5 x y hx hy hxy
theorem m_swim_w {S : zSt} {P : zP} (h : mRep S 74 0 P) (hP : pOK P) (s : Nat) : mRep (zwI S 74 0 (nI s)) 74 0 (pSet P (mvSwim P s)) := by
  have h9 := hP.1
  have hz := h
  unfold mRep at hz
  simp only [Nat.zero_add] at hz
  obtain ⟨m1, m2, m3, m4, m5, m6, m7, m8, m9, m10, m11, m12, m13, m14⟩ := hz
  refine mRep_mw h hP (mW_w _ _ (by omega)) _ (qIIs _ _ _ _) ?_ (fun t ht => ?_) (fun x y hx hy hxy => ?_)
  · rw [qIIo _ _ (by omega)]; exact m7
  · rw [qIIo _ _ (by omega)]; exact m4 t ht
  · rw [qIIo _ _ (by omega)]; exact m5 x y hx hy hxy
theorem m_stir_w {S : zSt} {P : zP} (h : mRep S 74 0 P) (hP : pOK P) {s : Nat} (hs : s < pN P) (v : Int32) : mRep (zwI S 74 (1 + s) v) 74 0 (pSet P (mvStir P s v)) := by
  have h9 := hP.1
  have hz := h
  unfold mRep at hz
  simp only [Nat.zero_add] at hz
  obtain ⟨m1, m2, m3, m4, m5, m6, m7, m8, m9, m10, m11, m12, m13, m14⟩ := hz
  refine mRep_mw h hP (mW_w _ _ (by omega)) _ ?_ ?_ (fun t ht => ?_) (fun x y hx hy hxy => ?_)
  · rw [qIIo _ _ (by omega)]; exact m6
  · rw [qIIo _ _ (by omega)]; exact m7
  · show _ = if t = s then v else pMud P t
    by_cases e : t = s
    · rw [if_pos e, e, qIIs]
    · rw [if_neg e, qIIo _ _ (by omega)]; exact m4 t ht
  · rw [qIIo _ _ (by omega)]; exact m5 x y hx hy hxy
theorem m_day_4 (fu : Nat) (hfu : 1000 ≤ fu) {P : zP} (hP : pOK P) : ∀ (m s n : Nat) (S : zSt), s + m = pN P → m + 1 ≤ n → mRep S 74 0 P → (∀ t, t < s → zI S 88 t = pSt P (pLaw P) t) → ∃ S1, f_M_dayPasses_4 fu n 0 (nI s) S = f_M_dayPasses_31 fu fu 0 0 S1 ∧ zCo S S1 ∧ ∀ t, t < pN P → zI S1 88 t = pSt P (pLaw P) t := by
  have h9 := hP.1
  intro m
  induction m with
  | zero =>
    intro s n S h1 h2 h h3
    obtain ⟨n', rfl⟩ : ∃ n', n = n' + 1 := ⟨n - 1, by omega⟩
    refine ⟨S, ?_, zCo_r S, fun t ht => h3 t (by omega)⟩
    unfold f_M_dayPasses_4
    rw [qb1 (m_many h), if_pos ((n_le (by omega) (by omega)).mpr (by omega))]
  | succ m ih =>
    intro s n S h1 h2 h h3
    obtain ⟨n', rfl⟩ : ∃ n', n = n' + 1 := ⟨n - 1, by omega⟩
    have hs : s < pN P := by omega
    obtain ⟨S1, e1, c1, f1⟩ := m_settles fu (by omega) h hP hs
    have c2 : zCo S (zwI S1 88 s (pSt P (pLaw P) s)) := zCo_t c1 (zCo_w _ _ (by unfold scI; omega))
    obtain ⟨S2, g1, g2, g3⟩ := ih (s + 1) n' (zwI S1 88 s (pSt P (pLaw P) s)) (by omega) (by omega) (mRep_co h c2 (Or.inl rfl) hP) (fun t ht => by
      rw [qII]
      by_cases c : t = s
      · rw [if_pos ⟨rfl, c⟩, c]
      · rw [if_neg (fun h => c h.2), f1 88 (by omega) (by omega)]; exact h3 t (by omega))
    refine ⟨S2, ?_, zCo_t c2 g2, g3⟩
    rw [← g1]
    obtain ⟨K, eK⟩ : ∃ K, K = f_M_dayPasses_4 fu n' := ⟨_, rfl⟩
    rw [← eK]
    unfold f_M_dayPasses_4
    rw [qb1 (m_many h), if_neg (fun h => absurd ((n_le (by omega) (by omega)).mp h) (by omega)), qb2 e1, n_gd (by omega) (by omega), q_cl (by omega), n_1, ← eK]
/-- what of a row stays while a day passes -/
def mRow (S : zSt) (P : zP) (s : Nat) (Y : zSt) : Prop := Y.2 = S.2 ∧ (∀ j, j ≠ 74 → zI Y j = zI S j) ∧ ∀ k, zI Y 74 k = if 1 ≤ k ∧ k < 1 + s then pSt P (pLaw P) (k - 1) else zI S 74 k
theorem m_day_31 (fu : Nat) {P : zP} (hP : pOK P) {S : zSt} (h : mRep S 74 0 P) (h3 : ∀ t, t < pN P → zI S 88 t = pSt P (pLaw P) t) : ∀ (m s n : Nat) (Y : zSt), s + m = pN P → m + 1 ≤ n → mRow S P s Y → ∃ Y1, f_M_dayPasses_31 fu n (nI (chN P s)) (nI s) Y = f_M_dayPasses_84 fu (nI (chN P (pN P))) Y1 ∧ mRow S P (pN P) Y1 := by
  have h9 := hP.1
  intro m
  induction m with
  | zero =>
    intro s n Y h1 h2 hY
    obtain ⟨n', rfl⟩ : ∃ n', n = n' + 1 := ⟨n - 1, by omega⟩
    have hs : s = pN P := by omega
    refine ⟨Y, ?_, by rw [← hs]; exact hY⟩
    have em : f_M_springMany Y = some (nI (pN P)) := by
      have e := h.1
      rw [Nat.zero_add] at e
      show some (zI Y 74 196) = _
      rw [hY.2.2, if_neg (by omega), e]
    unfold f_M_dayPasses_31
    rw [qb1 em, if_pos ((n_le (by omega) (by omega)).mpr (by omega)), hs]
  | succ m ih =>
    intro s n Y h1 h2 hY
    obtain ⟨n', rfl⟩ : ∃ n', n = n' + 1 := ⟨n - 1, by omega⟩
    have hs : s < pN P := by omega
    have em : f_M_springMany Y = some (nI (pN P)) := by
      have e := h.1
      rw [Nat.zero_add] at e
      show some (zI Y 74 196) = _
      rw [hY.2.2, if_neg (by omega), e]
    have e88 : zI Y 88 s = pSt P (pLaw P) s := by rw [hY.2.1 88 (by omega)]; exact h3 s hs
    have e74 : zI Y 74 (1 + s) = pMud P s := by
      rw [hY.2.2, if_neg (by omega)]
      have := h.2.2.2.1 s hs
      rw [Nat.zero_add] at this
      exact this
    obtain ⟨Y1, g1, g2⟩ := ih (s + 1) n' (zwI Y 74 (1 + s) (pSt P (pLaw P) s)) (by omega) (by omega) (by
      refine ⟨hY.1, fun j hj => by rw [← hY.2.1 j hj]; funext k; exact qIIo _ _ (by omega), fun k => ?_⟩
      rw [qII]
      by_cases c : k = 1 + s
      · rw [if_pos ⟨rfl, c⟩, if_pos (by omega), c, show 1 + s - 1 = s by omega]
      · rw [if_neg (fun h => c h.2), hY.2.2]
        by_cases c2 : 1 ≤ k ∧ k < 1 + s
        · rw [if_pos c2, if_pos (by omega)]
        · rw [if_neg c2, if_neg (by omega)])
    refine ⟨Y1, ?_, g2⟩
    rw [← g1]
    obtain ⟨K, eK⟩ : ∃ K, K = f_M_dayPasses_31 fu n' := ⟨_, rfl⟩
    rw [← eK]
    have e62 : ∀ c : Int32, f_M_dayPasses_62 fu K (nI s) c (nI (chN P s)) Y = K (nI (chN P s) + c) (nI (s + 1)) (zwI Y 74 (1 + s) (pSt P (pLaw P) s)) := fun c => by
      unfold f_M_dayPasses_62
      rw [n_gd (by omega) (by omega), show (1 : Int32) + nI s = nI (1 + s) from n_add 1 s, n_gd (by omega) (by omega), q_cl (by omega), q_cl (by omega), e88, n_1]
    unfold f_M_dayPasses_31
    rw [qb1 em, if_neg (fun h => absurd ((n_le (by omega) (by omega)).mp h) (by omega)), n_gd (by omega) (by omega), show (1 : Int32) + nI s = nI (1 + s) from n_add 1 s, n_gd (by omega) (by omega), q_cl (by omega), q_cl (by omega), e88, e74, ← eK, e62, e62, show chN P (s + 1) = chN P s + (if pSt P (pLaw P) s = pMud P s then 0 else 1) from rfl]
    by_cases c : pSt P (pLaw P) s = pMud P s
    · rw [if_pos c, if_pos c]
      congr 1
      exact n_add _ 0
    · rw [if_neg c, if_neg c, n_1]
theorem m_day_ok (fu : Nat) (hfu : 1000 ≤ fu) {S : zSt} {P : zP} (h : mRep S 74 0 P) (hP : pOK P) : ∃ Y, f_M_dayPasses fu S = some (nI (chN P (pN P)), Y) ∧ mRep Y 74 0 (pSet P (mvPass P)) ∧ mW S Y := by
  have h9 := hP.1
  obtain ⟨S1, g1, g2, g3⟩ := m_day_4 fu hfu hP (pN P) 0 fu S (by omega) (by omega) h (fun t ht => absurd ht (by omega))
  have h1 := mRep_co h g2 (Or.inl rfl) hP
  obtain ⟨Y, y1, y2, y3, y4⟩ := m_day_31 fu hP h1 g3 (pN P) 0 fu S1 (by omega) (by omega) ⟨rfl, fun _ _ => rfl, fun k => by rw [if_neg (by omega)]⟩
  have hz := h1
  unfold mRep at hz
  simp only [Nat.zero_add] at hz
  obtain ⟨m1, m2, m3, m4, m5, m6, m7, m8, m9, m10, m11, m12, m13, m14⟩ := hz
  have e91 : zI Y 74 91 = nI (pDay P) := by rw [y4, if_neg (by omega)]; exact m7
  have hW : mW S (zwI Y 74 91 (nI (pDay P + 1))) := by
    refine mW_t (mW_co g2) (mW_t ?_ (mW_w Y _ (by omega)))
    refine ⟨by rw [y2], fun j k a b => ?_, fun j k _ => by unfold zL; rw [y2]⟩
    by_cases c : j = 74
    · rw [c, y4, if_neg (by omega)]
    · rw [y3 j c]
  refine ⟨zwI Y 74 91 (nI (pDay P + 1)), ?_, ?_, hW⟩
  · unfold f_M_dayPasses
    refine Eq.trans g1 (Eq.trans y1 ?_)
    unfold f_M_dayPasses_84
    rw [show (91 : Int32).toNatClampNeg = 91 from rfl, e91, n_1]
  · refine mRep_mw h hP hW _ ?_ (qIIs _ _ _ _) (fun t ht => ?_) (fun x y hx hy hxy => ?_)
    · rw [qIIo _ _ (by omega), y4, if_neg (by omega)]; exact m6
    · rw [qIIo _ _ (by omega), y4, if_pos (by omega), show 1 + t - 1 = t by omega]; rfl
    · rw [qIIo _ _ (by omega), y4, if_neg (by omega)]; exact m5 x y hx hy hxy

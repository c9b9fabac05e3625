/-! round: the call -/
theorem call_round (fu : Nat) (hfu : 1000 ≤ fu) {S : zSt} (h : Inv S) (a i : Int32) : cOk (f_E_round fu a i) (f_M_round fu a i) S := by
  obtain ⟨P, es, hP, hc, hm, hj, hi, ht, hms, hd, hs⟩ := id h
  have h9 := hP.1
  have h2p := pow_le9 (pN P) h9
  by_cases hn : pN P = 0
  · refine cOk_0 h (v := -1) ?_ ?_
    · unfold f_E_round
      rw [hc.1, if_pos (show nI (pN P) = 0 by rw [hn]; rfl)]
    · unfold f_M_round
      rw [qb1 (m_many hm), if_pos (show nI (pN P) = 0 by rw [hn]; rfl)]
  have hn1 : ¬ nI (pN P) = (0 : Int32) := fun h => hn ((n_eq (b := 0) (by omega) (by omega)).mp h)
  have hat : pAt P < pN P := by
    have := hP.2.2.2.2.2.2.2.2.1
    omega
  rcases set_or P a with ⟨v, hv, ev⟩ | ha
  · have hA1 := (hasAll_is hc hP a).1 ⟨v, hv, ev⟩
    have hA2 := (areSpr_is hm hP a).1 ⟨v, hv, ev⟩
    subst ev
    by_cases hi1 : -1 ≤ i
    · have hi1' : ¬ i < -1 := fun h => by
        rw [q_le] at hi1
        rw [q_lt] at h
        omega
      obtain ⟨S1, x1, x2, x3, x4, x5⟩ := inv_paper fu hfu hP hc hm hs
      obtain ⟨S2, y1, y2, y3, y4, y5⟩ := ro_plan fu hfu hP (h := pAt P) (v := v) hat x3
      have c2 := zCo_t x2 y2
      have hm2 := mRep_co hm c2 (Or.inl rfl) hP
      obtain ⟨S3, z1, z2, z3⟩ := lays_soon fu (by omega) hP hm2
      have hm3 := mRep_co hm2 z2 (Or.inl rfl) hP
      obtain ⟨v0, v1, v2, v3⟩ := set_home (v := v) (s := pAt P) (by omega) (by omega)
      obtain ⟨S4, t1, t2, t3⟩ := mr_2 fu hfu hP hat (v := v0) (by omega) (v0 + 1) 0 fu S3 (by omega) (by omega) hm3 z3 (fun w' a' ha' hor hsb => absurd hor (by omega))
      have c34 : zCo S3 S4 := oR_co t2 (fun k => by unfold scI; omega)
      have c24 : zCo S2 S4 := zCo_t z2 c34
      have hm4 := mRep_co hm3 c34 (Or.inl rfl) hP
      have hM4 : mPp S4 P := ⟨fun x y hx hy => by rw [t2.2 90 _ (by omega)]; exact z3.1 x y hx hy, fun x y hx hy => by rw [t2.2 89 _ (by omega)]; exact z3.2 x y hx hy⟩
      have hl := rSt_stO (v := v) h9 hat
      have hlen := cd_len v (pAt P) (pN P)
      have hpd : ∀ s, s < pN P → pd (rSt v (pAt P) (pN P)) 0 s = pB v0 s := fun s hs => by
        rw [pd_0 hs]
        exact (v3 s (by omega)).symm
      have hlen2 : cdP (pB v0) (pN P) = (rSt v (pAt P) (pN P)).length := by
        rw [hlen]
        exact cdP_eq (fun s hs => v3 s (by omega))
      obtain ⟨l, el⟩ : ∃ l, l = rSt v (pAt P) (pN P) := ⟨_, rfl⟩
      rw [← el] at y4 y5 hl hpd hlen2
      have h8 := hl.1
      have eD := ro_days fu (by omega) hP y3 hat hl y4 y5
      rw [rdR_eq (pAt P) hpd] at eD
      obtain ⟨R, eR⟩ : ∃ R, R = rdR (pD P (pLaw P)) (pN P) (pAt P) (pB v0) (pAt P) := ⟨_, rfl⟩
      have hle : R ≤ 1000000 := by rw [eR]; exact rdR_le _ _ _ _ _
      rw [← eR] at eD
      have e15 : zI S1 1 5 = nI (pAt P) := x4.2.2.2.2.2.2.1
      have e74 : zI S2 74 0 = nI (pAt P) := hm2.2.2.2.2.2.1
      have e474 : zI S4 74 0 = nI (pAt P) := hm4.2.2.2.2.2.1
      have eA : f_M_roundAt (nI v0) (nI (pAt P)) S4 = some (nI R) := by
        rw [m_rat S4 (by omega) (by omega), t3 v0 (pAt P) hat (Or.inl (by omega)) (sbI_self v0), ← eR]
      have e69 : f_M_round_69 fu (nI v0) (nI (pAt P)) S4 = some (if 1000000 ≤ R then -1 else nI R, S4) := by
        unfold f_M_round_69
        rw [qb1 eA]
        by_cases hf : 1000000 ≤ R
        · rw [if_neg (fun h => absurd ((row_cmp (D := fun _ _ => R) (a := 0) (b := 0) hle).2.mp h) (by omega)), if_pos hf]
        · rw [if_pos ((row_cmp (D := fun _ _ => R) (a := 0) (b := 0) hle).2.mpr (by omega)), qb1 eA, if_neg hf]
      have eE : f_E_round fu (nI v) i S = if i = -1 then some (if 1000000 ≤ R then -1 else nI R, S2) else zb1 (f_Ro_stop fu i S2) (fun r12 => some (r12, S2)) := by
        unfold f_E_round
        rw [hc.1, if_neg hn1, if_neg hi1', qb1 hA1, if_neg (by decide), qb1 x1, e15, qb1 y1, qb1 eD]
      have t1' : f_M_laysRounds fu (nI v0) S3 = some S4 := t1
      have eM : f_M_round fu (nI v) i S2 = if (1000000 : Int32) ≤ nI R then some (if 1000000 ≤ R then -1 else nI R, S4) else if i = -1 then some (if 1000000 ≤ R then -1 else nI R, S4) else f_M_round_96 fu fu i (nI v0) (nI (pAt P)) 0 S4 := by
        unfold f_M_round
        rw [qb1 (m_many hm2), if_neg hn1, qb1 ((areSpr_is hm2 hP (nI v)).1 ⟨v, hv, rfl⟩), if_neg (by decide), if_pos hi1, qb1 z1, show (0 : Int32).toNatClampNeg = 0 from rfl, e74, v2, qb1 t1', e474, qb1 eA, e69]
      by_cases hi2 : i = -1
      · refine cOk_q h (S1 := S2) (S2 := S4) (by rw [eE, if_pos hi2]) c2 ?_ c24
        rw [eM, if_pos hi2]
        split <;> rfl
      · have h0' : 0 ≤ i := by
          rw [q_le, q_0]
          rw [q_le] at hi1
          rw [q_eq] at hi2
          have : (-1 : Int32).toInt = -1 := rfl
          omega
        obtain ⟨iN, rfl, hiN, hib⟩ := q_ex (a := i) (by rw [q_le, q_0] at h0'; omega)
        have hneg : ¬ nI iN < 0 := n_neg (by omega)
        have lc := n_le (a := l.length) (b := iN) (by omega) (by omega)
        by_cases hf : 1000000 ≤ R
        · have hf' := (row_cmp (D := fun _ _ => R) (a := 0) (b := 0) hle).1.mpr hf
          have eW : f_Ro_stop fu (nI iN) S2 = some (-1) := by
            unfold f_Ro_stop
            rw [if_neg hneg, y4.1]
            by_cases h1 : nI l.length ≤ nI iN
            · rw [if_pos h1]
            · rw [if_neg h1, qb1 eD, if_pos hf, if_pos rfl]
          refine cOk_q h (v := -1) (S1 := S2) (S2 := S4) (by rw [eE, if_neg hi2, qb1 eW]) c2 ?_ c24
          rw [eM, if_pos hf', if_pos hf]
        · have hf' : ¬ (1000000 : Int32) ≤ nI R := fun h => hf ((row_cmp (D := fun _ _ => R) (a := 0) (b := 0) hle).1.mp h)
          have hlt : rdR (pD P (pLaw P)) (pN P) (pAt P) (pB v0) (pAt P) < 1000000 := by rw [← eR]; omega
          have eW : f_Ro_stop fu (nI iN) S2 = some (ocI (rdW (pD P (pLaw P)) (pN P) (pAt P) (iN + 1) (pB v0) (pAt P))) := by
            unfold f_Ro_stop
            rw [if_neg hneg, y4.1]
            by_cases h1 : l.length ≤ iN
            · rw [if_pos (lc.mpr h1), rdW_none (iN + 1) _ _ hlt (by omega)]
              rfl
            · have hnm : ¬ nI R = (-1 : Int32) := nI_m1 (by omega)
              rw [if_neg (fun h => h1 (lc.mp h)), qb1 eD, if_neg hf, if_neg hnm]
              have hcd0 : cdP (pd l 0) (pN P) = l.length := by rw [cdP_eq hpd]; exact hlen2
              have := ro_stop fu (by omega) hP y3 hat hl y4 y5 (i := iN) (by omega) (iN + 1) fu 0 0 (pAt P) (-1) (by omega) (by omega) (Or.inl ⟨rfl, rfl⟩) (fun h => absurd h (by omega)) (Nat.two_pow_pos _) (by omega) (by rw [rdR_eq _ hpd]; exact hlt)
              rw [rdW_eq _ _ _ _ hpd] at this
              exact this
          have eMW : f_M_round_96 fu fu (nI iN) (nI v0) (nI (pAt P)) 0 S4 = some (ocI (rdW (pD P (pLaw P)) (pN P) (pAt P) (iN + 1) (pB v0) (pAt P)), S4) := by
            exact mr_96 fu (by omega) hP hM4 (by omega : v0 < 2 ^ pN P) t3 hib (cdP (pB v0) (pN P)) fu v0 (pAt P) 0 (iN + 1) rfl (by omega) (by omega) (Nat.le_refl _) (sbI_self v0) hat (by omega) hlt
          refine cOk_q h (v := ocI (rdW (pD P (pLaw P)) (pN P) (pAt P) (iN + 1) (pB v0) (pAt P))) (S1 := S2) (S2 := S4) (by rw [eE, if_neg hi2, qb1 eW]) c2 ?_ c24
          rw [eM, if_neg hf', if_neg hi2]
          exact eMW
    · refine cOk_0 h (v := -1) ?_ ?_
      · have hi1' : i < -1 := by
          rw [q_le] at hi1
          rw [q_lt]
          omega
        unfold f_E_round
        rw [hc.1, if_neg hn1, if_pos hi1']
      · unfold f_M_round
        rw [qb1 (m_many hm), if_neg hn1, qb1 hA2, if_neg (by decide), if_neg hi1]
  · have hA1 := (hasAll_is hc hP a).2 ha
    have hA2 := (areSpr_is hm hP a).2 ha
    refine cOk_0 h (v := -1) ?_ ?_
    · unfold f_E_round
      rw [hc.1, if_neg hn1]
      by_cases hi1 : i < -1
      · rw [if_pos hi1]
      · rw [if_neg hi1, qb1 hA1, if_pos rfl]
    · unfold f_M_round
      rw [qb1 (m_many hm), if_neg hn1, qb1 hA2, if_pos rfl]

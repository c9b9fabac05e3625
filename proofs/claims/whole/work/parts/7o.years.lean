/-! years: the call -/
theorem yr_sim (fu : Nat) (hfu : 10000 ≤ fu) {P0 : zP} (hG : lawG (pLaw P0)) (hn : 0 < pN P0) {N : Nat} (hN : N ≤ 60) : ∀ (r i : Nat) (m : zMv) (sum s : Nat), i + r = N → pOK (pSet P0 m) → s ≤ 1000003 →
    ∃ (m' : zMv) (sum' : Nat), pOK (pSet P0 m') ∧
     (∀ X, cRep X 13 (pSet P0 m) → zT7 X → ∀ n, r + 1 ≤ n → ∃ X', f_E_years_64 fu n (nI N) (nI sum) (nI s) (nI i) X = zb2 (f_E_granted (nI sum') X') (fun r3 S4 => some (r3, S4)) ∧ pW 13 X X' ∧ cRep X' 13 (pSet P0 m')) ∧
     (∀ Y, mRep Y 74 0 (pSet P0 m) → zI Y 72 50 = nI s → ∀ n, r + 1 ≤ n → ∃ Y', f_M_years_63 fu n (nI N) (nI sum) (nI i) Y = f_M_years_103 fu fu (nI sum') 0 Y' ∧ yW Y Y' ∧ mRep Y' 74 0 (pSet P0 m')) := by
  intro r
  induction r with
  | zero =>
    intro i m sum s h1 hOK hs
    refine ⟨m, sum, hOK, fun X hc hT n h2 => ?_, fun Y hm h50 n h2 => ?_⟩
    · obtain ⟨n', rfl⟩ : ∃ n', n = n' + 1 := ⟨n - 1, by omega⟩
      refine ⟨X, ?_, pW_co (zCo_r X), hc⟩
      unfold f_E_years_64
      rw [if_pos ((n_le (by omega) (by omega)).mpr (by omega))]
    · obtain ⟨n', rfl⟩ : ∃ n', n = n' + 1 := ⟨n - 1, by omega⟩
      refine ⟨Y, ?_, yW_r Y, hm⟩
      unfold f_M_years_63
      rw [if_pos ((n_le (by omega) (by omega)).mpr (by omega))]
  | succ r ih =>
    intro i m sum s h1 hOK hs
    have hday := hOK.2.2.2.2.2.2.2.2.2.1
    have hni : ¬ nI N ≤ nI i := fun h => absurd ((n_le (by omega) (by omega)).mp h) (by omega)
    obtain ⟨D, eD⟩ : ∃ D, D = pDay (pSet P0 m) := ⟨_, rfl⟩
    rw [← eD] at hday
    have c6 : ∀ X, cRep X 13 (pSet P0 m) → zI X 13 6 = nI D := fun X hc => by rw [eD]; exact hc.2.2.2.2.2.2.2.1
    have m91 : ∀ Y, mRep Y 74 0 (pSet P0 m) → zI Y 74 91 = nI D := fun Y hm => by
      have := hm.2.2.2.2.2.2.1
      rw [Nat.zero_add] at this
      rw [eD]
      exact this
    by_cases h9 : 999 ≤ D
    · refine ⟨m, sum, hOK, fun X hc hT n h2 => ?_, fun Y hm h50 n h2 => ?_⟩
      · obtain ⟨n', rfl⟩ : ∃ n', n = n' + 1 := ⟨n - 1, by omega⟩
        refine ⟨X, ?_, pW_co (zCo_r X), hc⟩
        unfold f_E_years_64
        rw [if_neg hni, c6 X hc, if_pos (show (999 : Int32) ≤ nI D from (n_le (a := 999) (by omega) (by omega)).mpr h9)]
      · obtain ⟨n', rfl⟩ : ∃ n', n = n' + 1 := ⟨n - 1, by omega⟩
        refine ⟨Y, ?_, yW_r Y, hm⟩
        unfold f_M_years_63
        rw [if_neg hni, show (91 : Int32).toNatClampNeg = 91 from rfl, m91 Y hm, if_pos (show (999 : Int32) ≤ nI D from (n_le (a := 999) (by omega) (by omega)).mpr h9)]
    · have n9 : ¬ (999 : Int32) ≤ nI D := fun h => h9 ((n_le (a := 999) (by omega) (by omega)).mp h)
      obtain ⟨r1, e1⟩ : ∃ r1, r1 = sdN s := ⟨_, rfl⟩
      obtain ⟨r2, e2⟩ : ∃ r2, r2 = sdN r1 := ⟨_, rfl⟩
      obtain ⟨r3, e3⟩ : ∃ r3, r3 = sdN r2 := ⟨_, rfl⟩
      obtain ⟨r4, e4⟩ : ∃ r4, r4 = sdN r3 := ⟨_, rfl⟩
      have l1 := sdN_lt s
      have l2 := sdN_lt r1
      have l3 := sdN_lt r2
      have l4 := sdN_lt r3
      rw [← e1] at l1
      rw [← e2] at l2
      rw [← e3] at l3
      rw [← e4] at l4
      have hnP : 0 < pN (pSet P0 m) := hn
      have ha : r1 % pN (pSet P0 m) < pN (pSet P0 m) := Nat.mod_lt _ hnP
      have hb : r2 % pN (pSet P0 m) < pN (pSet P0 m) := Nat.mod_lt _ hnP
      have hv : r3 % 10 ≤ 9 := by have := Nat.mod_lt r3 (show 10 > 0 by omega); omega
      obtain ⟨M, eM⟩ : ∃ M, M = yMv (pSet P0 m) (r1 % pN (pSet P0 m)) (r2 % pN (pSet P0 m)) (r3 % 10) (r4 % 4) := ⟨_, rfl⟩
      have hOK1 : pOK (pSet P0 M) := by rw [eM]; exact yOK hOK ha hb hv
      have hD1 : pDay (pSet P0 M) = D := by
        rw [eM, eD]
        unfold yMv
        split
        · split <;> rfl
        · split
          · rfl
          · split
            · split <;> rfl
            · rfl
      have hOK2 : pOK (pSet P0 (mvPass (pSet P0 M))) := ok_pass hOK1 (by rw [hD1]; omega)
      obtain ⟨m', sum', k1, gA, gB⟩ := ih (i + 1) (mvPass (pSet P0 M)) (sum + yGn (pSet P0 m) (r1 % pN (pSet P0 m)) (r4 % 4)) r4 (by omega) hOK2 (by omega)
      refine ⟨m', sum', k1, fun X hc hT n h2 => ?_, fun Y hm h50 n h2 => ?_⟩
      · obtain ⟨n', rfl⟩ : ∃ n', n = n' + 1 := ⟨n - 1, by omega⟩
        obtain ⟨X1, x1, x2, x3⟩ := c_yact fu (by omega) hOK hG hnP hc hT l1 l2 l3 (Nat.mod_lt r4 (show 4 > 0 by omega))
        rw [← eM] at x3
        have x3 : cRep X1 13 (pSet P0 M) := x3
        have hT1 := zT7_pw hT x2 (by omega)
        obtain ⟨S1, acc, d1, d2, d3⟩ := (day_ok fu (by omega) x3 hOK1 (by omega) hT1).2 (by rw [hD1]; omega)
        obtain ⟨X2, eX2⟩ : ∃ X2, X2 = zwI (zwL S1 13 3 acc) 13 6 (nI (pDay (pSet P0 M) + 1)) := ⟨_, rfl⟩
        rw [← eX2] at d2 d3
        have w2 : pW 13 X1 X2 := by
          rw [eX2]
          exact pW_t (pW_co d1) (pW_t (pW_wL _ _ (by omega)) (pW_w _ _ (by omega)))
        have hT2 := zT7_pw hT1 w2 (by omega)
        obtain ⟨X3, y1, y2, y3⟩ := gA X2 d3 hT2 n' (by omega)
        refine ⟨X3, ?_, pW_t x2 (pW_t w2 y2), y3⟩
        rw [← y1]
        have dd1 : f_E_nextDraw (nI s) = some (nI r1) := by rw [e1]; exact draw_c hs
        have dd2 : f_E_nextDraw (nI r1) = some (nI r2) := by rw [e2]; exact draw_c (by omega)
        have dd3 : f_E_nextDraw (nI r2) = some (nI r3) := by rw [e3]; exact draw_c (by omega)
        have dd4 : f_E_nextDraw (nI r3) = some (nI r4) := by rw [e4]; exact draw_c (by omega)
        have em : nI r4 - nI r4 / 4 * 4 = nI (r4 % 4) := n_mod (n := 4) (by omega) (by omega)
        rw [show f_E_years_64 fu (n' + 1) (nI N) (nI sum) (nI s) (nI i) X = if nI N ≤ nI i then zb2 (f_E_granted (nI sum) X) (fun r3 S4 => some (r3, S4)) else if 999 ≤ (zI X 13 6) then zb2 (f_E_granted (nI sum) X) (fun r7 S8 => some (r7, S8)) else zb1 (f_E_nextDraw (nI s)) (fun r10 => zb1 (f_E_nextDraw r10) (fun r12 => zb1 (f_E_nextDraw r12) (fun r14 => zb1 (f_E_nextDraw r14) (fun r16 => zb2 (f_E_actOnPaper fu r10 r12 r14 (r16 - r16 / 4 * 4) X) (fun r18 S19 => zb2 (f_Ps_nextDay fu 13 S19) (fun r21 S22 => f_E_years_64 fu n' (nI N) (nI sum + r18) r16 (nI i + 1) S22)))))) from rfl, if_neg hni, c6 X hc, if_neg n9, qb1 dd1, qb1 dd2, qb1 dd3, qb1 dd4, em, qb2 x1, qb2 d2, n_add, n_1]
      · obtain ⟨n', rfl⟩ : ∃ n', n = n' + 1 := ⟨n - 1, by omega⟩
        obtain ⟨Y1, x1, x2, x3, x4⟩ := m_yact fu (by omega) hOK hnP hm hs h50 e1 e2 e3 e4
        rw [← eM] at x4
        have x4 : mRep Y1 74 0 (pSet P0 M) := x4
        obtain ⟨Y2, d1, d2, d3⟩ := m_day_ok fu (by omega) x4 hOK1
        obtain ⟨Y3, y1, y2, y3⟩ := gB Y2 d2 (by rw [mW_50 d3]; exact x3) n' (by omega)
        refine ⟨Y3, ?_, yW_t x2 (yW_t (yW_m d3) y2), y3⟩
        rw [← y1]
        rw [show f_M_years_63 fu (n' + 1) (nI N) (nI sum) (nI i) Y = if nI N ≤ nI i then f_M_years_103 fu fu (nI sum) 0 Y else if 999 ≤ (zI Y 74 (91 : Int32).toNatClampNeg) then f_M_years_103 fu fu (nI sum) 0 Y else zb2 (f_M_drawnAct fu Y) (fun r4 S5 => zb2 (f_M_dayPasses fu S5) (fun r7 S8 => f_M_years_63 fu n' (nI N) (nI sum + r4) (nI i + 1) S8)) from rfl, if_neg hni, show (91 : Int32).toNatClampNeg = 91 from rfl, m91 Y hm, if_neg n9, qb2 x1, qb2 d1, n_add, n_1]
theorem y103_is (fu : Nat) (a3 : Int32) : ∀ (m i n : Nat) (S : zSt), i + m = 92 → m + 1 ≤ n → ∃ S', f_M_years_103 fu n a3 (nI i) S = f_M_years_130 fu a3 S' ∧ oR 97 S S' ∧ ∀ k, zI S' 97 k = if i ≤ k ∧ k < 92 then zI S 74 k else zI S 97 k := by
  intro m
  induction m with
  | zero =>
    intro i n S h1 h2
    obtain ⟨n', rfl⟩ : ∃ n', n = n' + 1 := ⟨n - 1, by omega⟩
    refine ⟨S, ?_, oR_r _ S, fun k => by rw [if_neg (by omega)]⟩
    unfold f_M_years_103
    rw [if_pos (show (92 : Int32) ≤ nI i from (n_le (a := 92) (by omega) (by omega)).mpr (by omega))]
  | succ m ih =>
    intro i n S h1 h2
    obtain ⟨n', rfl⟩ : ∃ n', n = n' + 1 := ⟨n - 1, by omega⟩
    obtain ⟨S1, g1, g2, g3⟩ := ih (i + 1) n' (zwI S 97 i (zI S 74 i)) (by omega) (by omega)
    refine ⟨S1, ?_, oR_t (oR_w _ _ _ _) g2, fun k => ?_⟩
    · rw [← g1]
      obtain ⟨K, eK⟩ : ∃ K, K = f_M_years_103 fu n' := ⟨_, rfl⟩
      rw [← eK]
      unfold f_M_years_103
      rw [if_neg (show ¬ (92 : Int32) ≤ nI i from fun h => absurd ((n_le (a := 92) (by omega) (by omega)).mp h) (by omega)), n_gd (by omega) (by omega), n_gd (by omega) (by omega), q_cl (by omega), ← eK, n_1]
    · rw [g3 k]
      by_cases h : i + 1 ≤ k ∧ k < 92
      · rw [if_pos h, if_pos (by omega), qIIo _ _ (by omega)]
      · rw [if_neg h]
        by_cases e : k = i
        · rw [e, qIIs, if_pos (by omega)]
        · rw [qIIo _ _ (by omega), if_neg (by omega)]
theorem call_years (fu : Nat) (hfu : 10000 ≤ fu) {S : zSt} (h : Inv S) (a b : Int32) : cOk (f_E_years fu a b) (f_M_years fu a b) S := by
  obtain ⟨P, es, hP, hc, hm, hj, hi, ht, hms, hd, hs⟩ := id h
  have h9 := hP.1
  rcases rng_or a 0 1000000 with ⟨s, -, hs6, rfl⟩ | ha
  · have l1 : f_M_lies (nI s) 0 1000000 = some 1 := lies_yes (lo := 0) (hi := 1000000) (by omega) hs6 (by omega)
    have a0 : ¬ nI s < 0 := n_neg (by omega)
    have a1 : ¬ (1000000 : Int32) < nI s := fun h => absurd ((n_lt (a := 1000000) (by omega) (by omega)).mp h) (by omega)
    rcases rng_or b 1 60 with ⟨N, hN1, hN, rfl⟩ | hb
    · have l2 : f_M_lies (nI N) 1 60 = some 1 := lies_yes (lo := 1) (hi := 60) hN1 hN (by omega)
      have b0 : ¬ nI N < 1 := fun h => absurd ((n_lt (b := 1) (by omega) (by omega)).mp h) (by omega)
      have b1 : nI N ≤ 60 := (n_le (b := 60) (by omega) (by omega)).mpr hN
      by_cases hn : pN P = 0
      · refine cOk_ref h rf3 ?_ ?_
        · unfold f_E_years
          rw [if_neg a0, if_neg a1, if_neg b0, if_pos b1, hc.1, if_pos (show nI (pN P) = 0 by rw [hn]; rfl), zb2_eta]
        · unfold f_M_years
          rw [qb1 l1, if_neg (by decide), qb1 l2, if_neg (by decide), qb1 (m_many (rS1_m hm hP _ _)), if_pos (show nI (pN P) = 0 by rw [hn]; rfl), zb2_eta]
      · have hn1 : ¬ nI (pN P) = (0 : Int32) := fun h => hn ((n_eq (b := 0) (by omega) (by omega)).mp h)
        have hG : lawG (pLaw P) := inv_G hm hP
        obtain ⟨m', sum', k1, gA, gB⟩ := yr_sim fu hfu hG (by omega : 0 < pN P) hN N 0 (pMv P) 0 s (by omega) hP (by omega)
        obtain ⟨Y0, y1, y2, y3, y4, y5⟩ := copy_ok fu (by omega) (S := S) (a0 := 13) (a1 := 1) (by omega) (fun t x ht hx => hs.2.2.2.2.2.2.2.2 1 (Or.inl rfl) t x ht hx)
        have YI : ∀ j c, j < 13 ∨ 17 < j → zI Y0 j c = zI S j c := fun j c hj => (y2 j c).2 (fun x => by have := (y2 j c).1 x; omega)
        have hcY : cRep Y0 13 P := cRep_copy hP hc y2 (by omega) y3 y4 y5
        have hTY : zT7 Y0 := ⟨by unfold zA; rw [y5]; exact hs.1.1, fun k hk => by rw [YI 54 k (by omega)]; exact hs.1.2 k hk⟩
        obtain ⟨X, x1, x2, x3⟩ := gA Y0 hcY hTY fu (by omega)
        obtain ⟨S1, eS1⟩ : ∃ S1, S1 = zwI X 0 19 0 := ⟨_, rfl⟩
        have i1 : ∀ j k, ¬ (j = 0 ∧ k = 19) → zI S1 j k = zI X j k := fun j k a => by rw [eS1, qIIo _ _ a]
        have low : ∀ j k, j < 13 ∨ 17 < j → ¬ scI j k → ¬ (j = 0 ∧ k = 19) → zI S1 j k = zI S j k := fun j k a b c => by rw [i1 j k c, x2.2.1 j k b (by omega), YI j k a]
        obtain ⟨Ya, eYa⟩ : ∃ Ya, Ya = zwI (zwI S1 72 50 (nI s)) 72 49 (nI (pN P)) := ⟨_, rfl⟩
        have ya : ∀ j k, ¬ (j = 72 ∧ (k = 49 ∨ k = 50)) → zI Ya j k = zI S1 j k := fun j k a => by rw [eYa, qIIo _ _ (by omega), qIIo _ _ (by omega)]
        obtain ⟨Yb, b1', b2', b3⟩ := la_2 fu (t := 0) (by omega) 92 0 fu Ya (by omega) (by omega)
        have yb : ∀ j k, ¬ (j = 72 ∧ (k = 49 ∨ k = 50)) → j ≠ 77 → zI Yb j k = zI S1 j k := fun j k a b => by rw [b2'.2 j k b, ya j k a]
        have s174 : zI S1 74 = zI S 74 := funext fun k => low 74 k (by omega) (by unfold scI; omega) (by omega)
        have hmb : mRep Yb 74 0 P := mRep_f hm (fun k _ => by rw [yb 74 _ (by omega) (by omega), s174]) hP
        obtain ⟨Yc, g1, g2, g3⟩ := gB Yb hmb (by rw [b2'.2 72 50 (by omega), eYa, qIIo _ _ (by omega), qIIs]) fu (by omega)
        obtain ⟨Yd, p1, p2, p3⟩ := y103_is fu (nI sum') 92 0 fu Yc (by omega) (by omega)
        obtain ⟨Ye, q1, q2, q3⟩ := tb_2 fu (t := 0) (by omega) 92 0 fu Yd (by omega) (by omega)
        obtain ⟨S2, eS2⟩ : ∃ S2, S2 = zwI Ye 72 0 0 := ⟨_, rfl⟩
        have t0 : ∀ j k, ¬ (j = 72 ∧ k = 0) → zI S2 j k = zI Ye j k := fun j k a => by rw [eS2, qIIo _ _ a]
        have far : ∀ j k, ¬ scI j k → j ≠ 74 → j ≠ 97 → j ≠ 77 → ¬ (j = 72 ∧ (k = 49 ∨ k = 50 ∨ k = 0)) → zI S2 j k = zI S1 j k := fun j k a b c d e => by
          rw [t0 j k (by omega), q2.2 j k b, p2.2 j k c, g2.2.1 j k a (by omega) (by omega), yb j k (by omega) d]
        have s22 : S2.2.2 = X.2.2 := by
          have e1 : S2.2 = Yc.2 := by rw [eS2]; show Ye.2 = Yc.2; rw [q2.1, p2.1]
          have e2 : Yb.2 = S1.2 := by rw [b2'.1, eYa]; rfl
          have e3 : S1.2.2 = X.2.2 := by rw [eS1]; rfl
          rw [e1, g2.1, e2, e3]
        have s2L : ∀ j k, ¬ scL j → zL S2 j k = zL X j k := fun j k a => by
          have e1 : zL S2 = zL Yc := by
            have : S2.2 = Yc.2 := by rw [eS2]; show Ye.2 = Yc.2; rw [q2.1, p2.1]
            unfold zL; rw [this]
          have e2 : zL Yb = zL X := by
            have : Yb.2 = S1.2 := by rw [b2'.1, eYa]; rfl
            unfold zL; rw [this, eS1]; rfl
          rw [e1, g2.2.2 j k a, e2]
        have s222 : S2.2.2 = Y0.2.2 := s22.trans x2.1
        have ZR : ∀ j k, zR S2 j k = if j = 13 + 5 ∧ k < 6 then zR S (1 + 5) k else zR S j k := fun j k => by unfold zR; rw [s222]; exact y4 j k
        have ZA : zA S2 = zA S := by unfold zA; rw [s222, y5]
        have ZN : zN S2 = zN S := by unfold zN; rw [s222, y5]
        have all : ∀ j k, (j < 13 ∨ 17 < j) → ¬ scI j k → j ≠ 74 → j ≠ 97 → j ≠ 77 → ¬ (j = 72 ∧ (k = 49 ∨ k = 50 ∨ k = 0)) → ¬ (j = 0 ∧ k = 19) → zI S2 j k = zI S j k := fun j k a b c d e f g => by rw [far j k b c d e f, low j k a b g]
        have allL : ∀ j k, ¬ scL j → j ≠ 13 → zL S2 j k = zL S j k := fun j k a b => by rw [s2L j k a, x2.2.2 j k a (by omega), y3, if_neg (by omega)]
        have z98 : ∀ j, 98 ≤ j → zI S2 j = zI S j ∧ zA S2 j = zA S j := fun j hj => ⟨funext fun k => all j k (by omega) (by unfold scI; omega) (by omega) (by omega) (by omega) (by omega) (by omega), by rw [ZA]⟩
        have d74 : ∀ k, zI Yd 74 k = zI Yc 74 k := fun k => p2.2 74 k (by omega)
        refine ⟨nI sum', S1, S2, ?_, ?_, ⟨P, es, hP, ?_, ?_, ?_, ?_, ?_, ?_, ?_, ?_⟩, by rw [ZN]; exact Nat.le_refl _, by rw [ZN]; exact Nat.le_add_right _ _⟩
        · have x1' : f_E_years_64 fu fu (nI N) 0 (nI s) 0 Y0 = zb2 (f_E_granted (nI sum') X) (fun r3 S4 => some (r3, S4)) := x1
          unfold f_E_years
          rw [if_neg a0, if_neg a1, if_neg b0, if_pos b1, hc.1, if_neg hn1, qb1 y1, x1', zb2_eta, eS1]
          rfl
        · have m1 : f_M_springMany S1 = some (nI (pN P)) := m_many (mRep_f hm (fun k _ => by rw [s174]) hP)
          have m2 : f_M_springMany (zwI S1 72 50 (nI s)) = some (nI (pN P)) := m_many (mRep_50 hP (mRep_f hm (fun k _ => by rw [s174]) hP) _)
          have b1'' : f_M_laysAside fu 0 Ya = some Yb := b1'
          have g1' : f_M_years_63 fu fu (nI N) 0 0 Yb = f_M_years_103 fu fu (nI sum') 0 Yc := g1
          have p1' : f_M_years_103 fu fu (nI sum') 0 Yc = f_M_years_130 fu (nI sum') Yd := p1
          have q1' : f_M_takesBack fu 0 Yd = some Ye := q1
          unfold f_M_years
          rw [qb1 l1, if_neg (by decide), qb1 l2, if_neg (by decide), qb1 m1, if_neg hn1, qb1 m2, ← eYa, qb1 b1'', g1', p1']
          unfold f_M_years_130
          rw [qb1 q1', zb2_eta, eS2]
          rfl
        · exact cRep_f hc (fun j a b => funext fun k => all j k (by omega) (by unfold scI; omega) (by omega) (by omega) (by omega) (by omega) (by omega)) (funext fun k => allL 1 k (by unfold scL; omega) (by omega)) (funext fun k => by rw [ZR, if_neg (by omega)]) (by rw [ZN]; exact Nat.le_refl _) (fun j a b => z98 j a)
        · refine mRep_f hm (fun k _ => ?_) hP
          rw [t0 74 _ (by omega), q3]
          by_cases e : 0 ≤ 0 + k ∧ 0 + k < 92
          · rw [if_pos e, p2.2 77 _ (by omega), g2.2.1 77 _ (by unfold scI; omega) (by omega) (by omega), b3, if_pos (by omega), ya 74 _ (by omega), s174, show 92 * 0 + (0 + k) - 92 * 0 = 0 + k by omega]
          · rw [if_neg e, d74, g2.2.1 74 _ (by unfold scI; omega) (by omega) (by omega), yb 74 _ (by omega) (by omega), s174]
        · exact jRel_f hj (fun j a => funext fun k => all j k (by omega) (by unfold scI; omega) (by omega) (by omega) (by omega) (by omega) (by omega)) (all 72 32 (by omega) (by unfold scI; omega) (by omega) (by omega) (by omega) (by omega) (by omega)) (fun j a => funext fun k => allL j k (by unfold scL; omega) (by omega))
        · intro k hk
          have w20 : ∀ j, 20 ≤ j → j ≤ 31 → zI S2 j = zI S j := fun j a b => funext fun c => all j c (by omega) (by unfold scI; omega) (by omega) (by omega) (by omega) (by omega) (by omega)
          have w76 : ∀ j, j = 75 ∨ j = 76 → zI S2 j = zI S j := fun j a => funext fun c => all j c (by omega) (by unfold scI; omega) (by omega) (by omega) (by omega) (by omega) (by omega)
          rw [w20 (20 + 6 * k) (by omega) (by omega), w76 76 (by omega)]
          rcases hi k hk with h1 | ⟨h1, h2, P2, h3, h4, h5⟩
          · exact Or.inl h1
          · refine Or.inr ⟨h1, h2, P2, h3, cRep_f h4 (fun j a b => w20 j (by omega) (by omega)) (by funext c; exact allL _ c (by unfold scL; omega) (by omega)) (by funext c; rw [ZR, if_neg (by omega)]) (by rw [ZN]; exact Nat.le_refl _) (fun j a b => z98 j a), mRep_f h5 (fun c _ => by rw [w76 75 (by omega)]) h3⟩
        · obtain ⟨T, t1, t2, t3, t4⟩ := ht
          refine ⟨T, t1, ?_, ?_, fun c hcT => ?_⟩
          · rw [all 44 1 (by omega) (by unfold scI; omega) (by omega) (by omega) (by omega) (by omega) (by omega)]; exact t2
          · rw [all 72 13 (by omega) (by unfold scI; omega) (by omega) (by omega) (by omega) (by omega) (by omega)]; exact t3
          · rw [all 45 c (by omega) (by unfold scI; omega) (by omega) (by omega) (by omega) (by omega) (by omega), all 79 c (by omega) (by unfold scI; omega) (by omega) (by omega) (by omega) (by omega) (by omega)]; exact t4 c hcT
        · refine gr_ms hms (fun c a b => all 0 c (by omega) (by unfold scI; omega) (by omega) (by omega) (by omega) (by omega) (by omega)) ?_ (funext fun c => all 71 c (by omega) (by unfold scI; omega) (by omega) (by omega) (by omega) (by omega) (by omega)) (by rw [eS2, qIIs]) (fun c a => all 72 c (by omega) (by unfold scI; omega) (by omega) (by omega) (by omega) (by omega) (by omega)) (funext fun c => all 73 c (by omega) (by unfold scI; omega) (by omega) (by omega) (by omega) (by omega) (by omega))
          rw [far 0 19 (by unfold scI; omega) (by omega) (by omega) (by omega) (by omega), eS1, qIIs]
        · have c13 : cRep S2 13 (pSet P m') := by
            refine cRep_f x3 (fun j a b => funext fun k => ?_) (funext fun k => s2L 13 k (by unfold scL; omega)) (by unfold zR; rw [s22]) (by unfold zN; rw [s22]; exact Nat.le_refl _) (fun j a b => ⟨funext fun k => ?_, by unfold zA; rw [s22]⟩)
            · rw [far j k (by unfold scI; omega) (by omega) (by omega) (by omega) (by omega), i1 j k (by omega)]
            · rw [far j k (by unfold scI; omega) (by omega) (by omega) (by omega) (by omega), i1 j k (by omega)]
          have e97 : ∀ k, k < 92 → zI S2 97 k = zI Yc 74 k := fun k hk => by rw [t0 97 k (by omega), q2.2 97 k (by omega), p3, if_pos (by omega)]
          have e49 : zI S2 72 49 = nI (pN P) := by
            rw [t0 72 49 (by omega), q2.2 72 49 (by omega), p2.2 72 49 (by omega), g2.2.1 72 49 (by unfold scI; omega) (by omega) (by omega), b2'.2 72 49 (by omega), eYa, qIIs]
          refine ⟨pN P, h9, c13.1, Or.inr ⟨by omega, e49⟩, fun s hs => ?_, fun _ => ?_⟩
          · have e1 := c13.2.2.2.1 s hs
            have e2 := g3.2.2.2.1 s hs
            rw [Nat.zero_add] at e2
            rw [e97 (1 + s) (by omega), e2]
            exact e1
          · have e1 := c13.2.2.2.2.2.2.1
            have e2 := g3.2.2.2.2.2.1
            rw [e97 0 (by omega), e2]
            exact e1
        · exact iSt_cp hs ZA ZN (fun c a => all 54 c (by omega) (by unfold scI; omega) (by omega) (by omega) (by omega) (by omega) (by omega)) (fun c a => all 69 c (by omega) (by unfold scI; omega) (by omega) (by omega) (by omega) (by omega) (by omega)) (funext fun c => all 78 c (by omega) (by unfold scI; omega) (by omega) (by omega) (by omega) (by omega) (by omega)) ZR (by omega) (by omega)
    · have l2 : f_M_lies b 1 60 = some 0 := lies_no (lo := 1) (hi := 60) (by omega) (by omega) hb
      refine cOk_ref h rf1 ?_ ?_
      · unfold f_E_years
        rw [if_neg a0, if_neg a1]
        by_cases h1 : b < 1
        · rw [if_pos h1, zb2_eta]
        · by_cases h2 : b ≤ 60
          · exfalso
            rw [q_lt, show (1 : Int32).toInt = 1 from rfl] at h1
            rw [q_le, show (60 : Int32).toInt = 60 from rfl] at h2
            obtain ⟨t, t1, t2, t3⟩ := q_ex (a := b) (by omega)
            exact hb t (by omega) (by omega) t1
          · rw [if_neg h1, if_neg h2, zb2_eta]
      · unfold f_M_years
        rw [qb1 l1, if_neg (by decide), qb1 l2, if_pos rfl, zb2_eta]
  · have l1 : f_M_lies a 0 1000000 = some 0 := lies_no (lo := 0) (hi := 1000000) (by omega) (by omega) ha
    refine cOk_ref h rf1 ?_ ?_
    · unfold f_E_years
      by_cases h1 : a < 0
      · rw [if_pos h1, zb2_eta]
      · have h2 : (1000000 : Int32) < a := by
          rcases rng_no (hi := 1000000) (by omega) ha with h | h
          · exact absurd h h1
          · have h' : ¬ a ≤ (1000000 : Int32) := h
            rw [q_le] at h'
            rw [q_lt]
            omega
        rw [if_neg h1, if_pos h2, zb2_eta]
    · unfold f_M_years
      rw [qb1 l1, if_pos rfl, zb2_eta]

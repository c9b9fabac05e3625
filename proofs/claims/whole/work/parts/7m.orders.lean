/-! orders: the call -/
theorem cK_row {S X : zSt} (h : cK S X) {j : Nat} (hj : j = 0 ∨ (2 ≤ j ∧ j ≤ 31) ∨ (38 ≤ j ∧ j ≤ 43) ∨ j = 45 ∨ (46 ≤ j ∧ j ≤ 51) ∨ j = 71 ∨ (73 ≤ j ∧ j ≤ 79) ∨ j = 86 ∨ j = 87 ∨ 95 ≤ j) : zI X j = zI S j := funext fun k => h.2.1 j k (by unfold scI; omega) (by omega) (by omega)
theorem mRo_row {S X : zSt} (h : mRo S X) {j : Nat} (hj : j ≤ 43 ∨ (45 ≤ j ∧ j ≤ 51) ∨ j = 71 ∨ j = 73 ∨ (75 ≤ j ∧ j ≤ 79) ∨ j = 87 ∨ 95 ≤ j) : zI X j = zI S j := funext fun k => h.2.1 j k (by unfold scI; omega) (by omega) (by omega) (by omega)
/-- what stands behind orders, whatever came of them -/
theorem orders_end {S S2 : zSt} {P' : zP} {es' : List (Nat × zMv)} (hi : iIm S) (hms : iMs S) (hd : iDr S) (hs : iSt S) (hf : oFr S S2) (hP' : pOK P') (hc : cRep S2 1 P') (hm : mRep S2 74 0 P') (jo : jO P' es') (jc : jC S2 P' es') (jm : jM S2 P' es') (h44 : zI S2 44 1 = 0) (h13 : zI S2 72 13 = 0) (hms2 : iMs S2) : Inv S2 := by
  obtain ⟨b1, b2', b3⟩ := or_base hi hd hs hf
  exact ⟨P', es', hP', hc, hm, jRel_is.mpr ⟨jo, jc, jm⟩, b1, ⟨0, by omega, by rw [h44]; rfl, by rw [h13]; rfl, fun k hk => absurd hk (by omega)⟩, hms2, b2', b3⟩
theorem orders_good {S : zSt} (h : Inv S) (fu : Nat) (hfu : 10000 ≤ fu) {P : zP} (hP : pOK P) (hc : cRep S 1 P) (hm : mRep S 74 0 P) {es : List (Nat × zMv)} (hj : jRel S P es) (hi : iIm S) (hms : iMs S) (hd : iDr S) (hs : iSt S) {T N : Nat} {cls : List lC} (hT : T ≤ 400) (h13 : zI S 72 13 = nI T) (hN : tNo (zI S 79) T N) (hN4 : N ≤ 400) {S4 : zSt} (e4 : f_Re_faultIn fu (b2 true) (zwI S 0 18 (-1)) = some (-1, S4)) (F4 : zFF (zwI S 0 18 (-1)) S4) (hR : ltx true (tC (zI S 79) T) (tV (zI S 79) T) 401 N 12 0 0 [] = .inr cls) (hTx : zTx S4 47 23 (cls.map xcO)) : cOk (f_E_orders fu) (f_M_orders fu) S := by
  obtain ⟨jo, jc, jm⟩ := jRel_is.mp hj
  have hG : lawG (pLaw P) := inv_G hm hP
  have hat := hP.2.2.2.2.2.2.2.2.1
  obtain ⟨X, oX, cX, cX7, eE⟩ := or_class fu (by omega) hP hc jc hs e4 F4 hTx
  obtain ⟨x1, x2, x3, x4, x5, x6, x7, x8, x9, x10, x11⟩ := oX
  have hcg := cGood_of cX.2.1.1
  have hesl := jo.1
  -- the reference from any state that has the same rows
  have ref : ∀ S1 : zSt, (∀ j, j = 74 ∨ j = 78 ∨ j = 79 ∨ j = 86 → zI S1 j = zI S j) → zI S1 72 32 = zI S 72 32 → zI S1 72 13 = zI S 72 13 → mRep S1 74 0 P ∧ ∃ Y, orY S1 Y ∧ mIn Y P 2400 N (tC (zI S 79) T) (tV (zI S 79) T) 0 (pMv P) es 0 (-1) ∧ f_M_orders fu S1 = f_M_orders_96 fu fu (nI es.length) (nI (2400 + N)) 0 Y := fun S1 g g32 g13 => by
    have hm1 : mRep S1 74 0 P := mRep_f hm (fun k _ => by rw [g 74 (by omega)]) hP
    refine ⟨hm1, or_ref fu hfu hP hm1 (jM_f jm (g 86 (by omega)) g32) ?_ (fun k => by rw [g 79 (by omega)]) hT (by rw [g13]; exact h13) hN hN4 hR⟩
    unfold zW8
    rw [g 78 (by omega)]
    exact hs.2.1
  rcases sim_all fu hfu hG hcg rfl hN4 (fun k hk => tC_end hN hk) (V := tV (zI S 79) T) (nI es.length) 12 0 0 [] (pMv P) es 0 (-1) hR hP jo with ⟨ci, gA, gB⟩ | ⟨m', es', d', k1, k2, k3, gA, gB⟩
  · -- one can't be
    obtain ⟨X', w1, w2⟩ := gA X cX fu (by omega)
    obtain ⟨X3, eX3⟩ : ∃ X3, X3 = zwI X' 0 18 (nI ci) := ⟨_, rfl⟩
    rw [← eX3] at w1
    have h3 : ∀ j k, j ≠ 0 → zI X3 j k = zI X' j k := fun j k a => by rw [eX3, qIIo _ _ (by omega)]
    have R3 : zR X3 = zR X := by rw [eX3]; show zR X' = zR X; unfold zR; rw [w2.1]
    have N3 : zN X3 = zN X := by rw [eX3]; show zN X' = zN X; unfold zN; rw [w2.1]
    have A3 : zA X3 = zA X := by rw [eX3]; show zA X' = zA X; unfold zA; rw [w2.1]
    have L3 : zL X3 = zL X' := by rw [eX3]; rfl
    have c7 : cRep X3 7 P := cRep_f cX7 (fun j a b => (funext fun k => h3 j k (by omega) : zI X3 j = zI X' j).trans (cK_row w2 (by omega))) (funext fun k => by rw [L3]; exact w2.2.2 7 k (by unfold scL; omega) (by omega) (by omega)) (by rw [R3]) (by rw [N3]; exact Nat.le_refl _) (fun j a b => ⟨(funext fun k => h3 j k (by omega) : zI X3 j = zI X' j).trans (cK_row w2 (by omega)), by rw [A3]⟩)
    obtain ⟨Z, z1, z2, z3, z4, z5⟩ := copy_ok fu (by omega) (S := X3) (a0 := 1) (a1 := 7) (by omega) (fun t q ht hq => by
      rw [R3, x3, if_pos ⟨rfl, ht⟩] at hq
      rw [N3, x2]
      exact hs.2.2.2.2.2.2.2.2 1 (Or.inl rfl) t q ht hq)
    have ZI : ∀ j c, j < 1 ∨ 5 < j → zI Z j c = zI X3 j c := fun j c hj => (z2 j c).2 (fun x => by have := (z2 j c).1 x; omega)
    have cZ : cRep Z 1 P := cRep_copy hP c7 z2 (by omega) z3 z4 z5
    obtain ⟨W, u1, u2, u3, u4, u5, u6, u7⟩ := jo_copy (S := Z) (a0 := 32) (a1 := 38) (by omega)
    obtain ⟨S1, eS1⟩ : ∃ S1, S1 = rS1 W (-3) 2 := ⟨_, rfl⟩
    have i1 : ∀ j k, ¬ (j = 71 ∧ k = 2) → ¬ (j = 0 ∧ k = 19) → zI S1 j k = zI W j k := fun j k a b => by
      rw [eS1]
      unfold rS1
      rw [qIIo _ _ (by omega), qIIo _ _ (by omega)]
    have w12 : S1.2 = W.2 := by rw [eS1]; rfl
    -- rows of S1 that are as in S
    have low : ∀ j k, ¬ (1 ≤ j ∧ j ≤ 5) → ¬ (32 ≤ j ∧ j ≤ 35) → j ≠ 0 → ¬ (7 ≤ j ∧ j ≤ 11) → ¬ (38 ≤ j ∧ j ≤ 41) → j ≠ 44 → ¬ (46 ≤ j ∧ j ≤ 51) → ¬ (j = 71 ∧ k = 2) → ¬ scI j k → zI S1 j k = zI S j k := fun j k a b c d e f g i s => by
      rw [i1 j k i (by omega), u3 j k (by omega), ZI j k (by omega), h3 j k c, w2.2.1 j k s (by omega) b, x4 j k (by omega) d e f g]
    have lowL : ∀ j k, j ≠ 1 → ¬ (36 ≤ j ∧ j ≤ 37) → j ≠ 7 → j ≠ 42 → j ≠ 43 → ¬ scL j → zL S1 j k = zL S j k := fun j k a b c d e s => by
      have : zL S1 = zL W := by unfold zL; rw [w12]
      rw [this, u6 j k (by omega), z3, if_neg (by omega), L3, w2.2.2 j k s (by omega) (by omega), x8 j k c d e]
    obtain ⟨m1, m2, m3, m4, m5, m6, m7, m8, m9⟩ := hms
    obtain ⟨hm1, Y, oY, iY, eM⟩ := ref S1 (fun j hj => funext fun k => low j k (by omega) (by omega) (by omega) (by omega) (by omega) (by omega) (by omega) (by omega) (by unfold scI; omega)) (low 72 32 (by omega) (by omega) (by omega) (by omega) (by omega) (by omega) (by omega) (by omega) (by unfold scI; omega)) (low 72 13 (by omega) (by omega) (by omega) (by omega) (by omega) (by omega) (by omega) (by omega) (by unfold scI; omega))
    obtain ⟨v1, v2, v3, v4, v5, v6, v7, v8⟩ := oY
    obtain ⟨Y', r1, r2⟩ := gB Y iY fu (by omega)
    obtain ⟨Y7, p1, p2, p3⟩ := tb_2 fu (t := 1) (by omega) 92 0 fu Y' (by omega) (by omega)
    obtain ⟨Y8, q1, q2, q3⟩ := o123_is fu (nI es.length) (nI ci) 1488 0 fu Y7 (by omega) (by omega)
    obtain ⟨S2, eS2⟩ : ∃ S2, S2 = rS2 (zwI (zwI Y8 72 32 (nI es.length)) 72 41 (nI ci)) (-3) 3 := ⟨_, rfl⟩
    have t0 : ∀ j k, j ≠ 72 → j ≠ 73 → zI S2 j k = zI Y8 j k := fun j k a b => by
      rw [eS2, rS2_I _ _ _ ⟨a, b⟩, qIIo _ _ (by omega), qIIo _ _ (by omega)]
    have t1 : ∀ j k, j ≠ 72 → j ≠ 73 → j ≠ 74 → j ≠ 86 → zI S2 j k = zI Y' j k := fun j k a b c d => by rw [t0 j k a b, q2.2 j k d, p2.2 j k c]
    have t72 : ∀ k, k ≠ 32 → k ≠ 41 → k ≠ 0 → zI S2 72 k = zI Y' 72 k := fun k a b c => by
      rw [eS2]
      unfold rS2
      rw [qIIo _ _ (by omega), qIIo _ _ (by omega), qIIo _ _ (by omega), qIIo _ _ (by omega), q2.2 72 k (by omega), p2.2 72 k (by omega)]
    have s22 : S2.2 = Y'.2 := by rw [eS2]; show Y8.2 = Y'.2; rw [q2.1, p2.1]
    have s2Y : ∀ j k, j ≠ 72 → j ≠ 73 → j ≠ 74 → j ≠ 86 → j ≠ 77 → ¬ (81 ≤ j ∧ j ≤ 83) → j ≠ 87 → ¬ scI j k → zI S2 j k = zI S1 j k := fun j k a b c d e f g s => by
      rw [t1 j k a b c d, r2.2.1 j k s (by omega) d (by omega), v2 j k (by omega) (by omega) e f g]
    have s2L : ∀ j k, ¬ scL j → j ≠ 96 → zL S2 j k = zL S1 j k := fun j k a b => by
      have e1 : zL S2 = zL Y' := by unfold zL; rw [s22]
      have e2 : zL Y = zL S1 := by unfold zL; rw [v1]
      rw [e1, r2.2.2 j k a b, e2]
    have s222 : S2.2.2 = Z.2.2 := by
      have e1 : S2.2.2 = Y'.2.2 := by rw [s22]
      have e2 : Y.2.2 = S1.2.2 := by rw [v1]
      have e3 : S1.2.2 = W.2.2 := by rw [w12]
      rw [e1, r2.1, e2, e3, u2]
    have ZR : zR S2 = zR Z := by unfold zR; rw [s222]
    have ZN : zN S2 = zN S := by
      have a1 : zN S2 = zN Z := by unfold zN; rw [s222]
      have a2 : zN Z = zN X3 := by unfold zN; rw [z5]
      rw [a1, a2, N3, x2]
    have ZA : zA S2 = zA S := by
      have a1 : zA S2 = zA Z := by unfold zA; rw [s222]
      have a2 : zA Z = zA X3 := by unfold zA; rw [z5]
      rw [a1, a2, A3, x1]
    have j38 : ∀ j k, 38 ≤ j ∧ j ≤ 41 → zI Z j k = zI X j k := fun j k hj => by rw [ZI j k (by omega), h3 j k (by omega), cK_row w2 (by omega)]
    have j38L : ∀ j k, 42 ≤ j ∧ j ≤ 43 → zL Z j k = zL X j k := fun j k hj => by rw [z3, if_neg (by omega), L3, w2.2.2 j k (by unfold scL; omega) (by omega) (by omega)]
    have S1L : zL S1 = zL W := by unfold zL; rw [w12]
    have z0 : ∀ k, k ≠ 18 → zI Z 0 k = zI X 0 k := fun k hk => by rw [ZI 0 k (by omega), eX3, qIIo _ _ (by omega), cK_row w2 (by omega)]
    have s10 : ∀ k, k ≠ 19 → zI S1 0 k = zI Z 0 k := fun k hk => by rw [i1 0 k (by omega) (by omega), u3 0 k (by omega)]
    have f0 : ∀ k, zI S2 0 k = zI S1 0 k := fun k => s2Y 0 k (by omega) (by omega) (by omega) (by omega) (by omega) (by omega) (by omega) (by unfold scI; omega)
    have rr : ∀ k, ¬ scI 72 k → k ≠ 0 → k ≠ 32 → ¬ (27 ≤ k ∧ k ≤ 28) → ¬ (41 ≤ k ∧ k ≤ 46) → ¬ (8 ≤ k ∧ k ≤ 21) → zI S2 72 k = zI S 72 k := fun k s a b c d e => by
      rw [t72 k b (by omega) a, r2.2.1 72 k s (by omega) (by omega) (by omega), v2 72 k (by omega) (by omega) (by omega) (by omega) (by omega), low 72 k (by omega) (by omega) (by omega) (by omega) (by omega) (by omega) (by omega) (by omega) s]
    have h71 : ∀ k, zI S2 71 k = if k = 2 then zI S 71 2 + 1 else zI S 71 k := fun k => by
      have w71 : zI W 71 = zI S 71 := funext fun k => by rw [u3 71 k (by omega), ZI 71 k (by omega), h3 71 k (by omega), cK_row w2 (by omega), x4 71 k (by omega) (by omega) (by omega) (by omega) (by omega)]
      rw [s2Y 71 k (by omega) (by omega) (by omega) (by omega) (by omega) (by omega) (by omega) (by unfold scI; omega), eS1]
      unfold rS1
      rw [qIIo _ _ (by omega), w71, qII, w71]
      by_cases e : k = 2
      · rw [if_pos ⟨rfl, e⟩, if_pos e]
      · rw [if_neg (fun h => e h.2), if_neg e]
    have h73 : ∀ k, zI S2 73 k = if k = 3 then zI S 73 3 + 1 else zI S 73 k := fun k => by
      have e873 : zI Y8 73 = zI S 73 := funext fun k => by rw [q2.2 73 k (by omega), p2.2 73 k (by omega), mRo_row r2 (by omega), v2 73 k (by omega) (by omega) (by omega) (by omega) (by omega), low 73 k (by omega) (by omega) (by omega) (by omega) (by omega) (by omega) (by omega) (by omega) (by unfold scI; omega)]
      rw [eS2]
      unfold rS2
      rw [qII, qIIo (j := 73) _ _ (by omega), qIIo (j := 73) _ _ (by omega), qIIo (j := 73) _ _ (by omega), e873, qIIo (j := 73) _ _ (by omega), qIIo (j := 73) _ _ (by omega), e873]
      by_cases e : k = 3
      · rw [if_pos ⟨rfl, e⟩, if_pos e]
      · rw [if_neg (fun h => e h.2), if_neg e]
    refine ⟨-3, S1, S2, ?_, ?_, ?_, by rw [ZN]; exact Nat.le_refl _, by rw [ZN]; exact Nat.le_add_right _ _⟩
    · have w1' : f_E_run fu X = some (-1, X3) := w1
      rw [eE, qb2 w1', if_pos rfl, qb1 z1, qb1 u1, zb2_eta, eS1]
      exact refE rf3 _
    · have r1' : f_M_orders_96 fu fu (nI es.length) (nI (2400 + N)) 0 Y = f_M_orders_115 fu (nI es.length) (nI ci) Y' := r1
      have p1' : f_M_takesBack fu 1 Y' = some Y7 := p1
      rw [eM, r1']
      unfold f_M_orders_115
      rw [qb1 p1']
      refine Eq.trans q1 ?_
      unfold f_M_orders_151
      rw [zb2_eta, eS2]
      exact refM rf3 _
    · refine orders_end (P' := P) (es' := es) hi ⟨m1, m2, m3, m4, m5, m6, m7, m8, m9⟩ hd hs ⟨ZA, ZN, fun j k => ?_, fun j k hj => ?_, fun j k hj => ?_⟩ hP ?_ ?_ jo ?_ ?_ ?_ ?_ ?_
      · rw [ZR, z4, R3]
        by_cases e6 : j = 1 + 5 ∧ k < 6
        · rw [if_pos e6, x3, if_pos ⟨rfl, e6.2⟩, if_neg (by omega), e6.1]
        · rw [if_neg e6, x3]
      · by_cases e72 : j = 72
        · rw [e72, show k = 49 by omega]
          exact rr 49 (by unfold scI; omega) (by omega) (by omega) (by omega) (by omega) (by omega)
        · rw [s2Y j k (by omega) (by omega) (by omega) (by omega) (by omega) (by omega) (by omega) (by unfold scI; omega), low j k (by omega) (by omega) (by omega) (by omega) (by omega) (by omega) (by omega) (by omega) (by unfold scI; omega)]
      · rw [s2L j k (by unfold scL; omega) (by omega), lowL j k (by omega) (by omega) (by omega) (by omega) (by omega) (by unfold scL; omega)]
      · refine cRep_f cZ (fun j a b => funext fun k => ?_) (funext fun k => ?_) (by rw [ZR]) (by show zN Z ≤ zN S2; unfold zN; rw [s222]; exact Nat.le_refl _) (fun j a b => ⟨funext fun k => ?_, by unfold zA; rw [s222]⟩)
        · rw [s2Y j k (by omega) (by omega) (by omega) (by omega) (by omega) (by omega) (by omega) (by unfold scI; omega), i1 j k (by omega) (by omega), u3 j k (by omega)]
        · rw [s2L 1 k (by unfold scL; omega) (by omega), S1L, u6 1 k (by omega)]
        · rw [s2Y j k (by omega) (by omega) (by omega) (by omega) (by omega) (by omega) (by omega) (by unfold scI; omega), i1 j k (by omega) (by omega), u3 j k (by omega)]
      · refine mRep_or hP hm1 (fun k a b c => ?_)
        rw [t0 74 k (by omega) (by omega), q2.2 74 k (by omega), p3 k]
        by_cases e : k < 92
        · rw [if_pos ⟨Nat.zero_le _, e⟩, mRo_row r2 (by omega), v7 k e]
        · rw [if_neg (by omega), r2.2.1 74 k (by unfold scI; omega) (by omega) (by omega) (by omega), v3 k a b c]
      · refine jC_16 jc (fun k hk => ?_) (fun j k a b hk => ?_) (fun j k a hk => ?_)
        · rw [s2Y 32 k (by omega) (by omega) (by omega) (by omega) (by omega) (by omega) (by omega) (by unfold scI; omega), i1 32 k (by omega) (by omega), u4 k hk, j38 38 k (by omega), x9 k hk]
        · have e1 := u5 (j - 32) k (by omega) (by omega) hk
          rw [show 32 + (j - 32) = j by omega] at e1
          have e2 := x10 (j - 32) k (by omega) (by omega) hk
          rw [show 32 + (j - 32) = j by omega] at e2
          rw [s2Y j k (by omega) (by omega) (by omega) (by omega) (by omega) (by omega) (by omega) (by unfold scI; omega), i1 j k (by omega) (by omega), e1, j38 _ k (by omega), e2]
        · have e1 := u7 (j - 32) k (by omega) (by omega) hk
          rw [show 32 + (j - 32) = j by omega] at e1
          have e2 := x11 (j - 32) k (by omega) (by omega) hk
          rw [show 32 + (j - 32) = j by omega] at e2
          rw [s2L j k (by unfold scL; omega) (by omega), S1L, e1, j38L _ k (by omega), e2]
      · obtain ⟨jm1, jm2⟩ := jM_is.mp jm
        refine jM_is.mpr ⟨?_, fun i e he => jE_f hP.1 (jm2 i e he) (fun k hk => ?_)⟩
        · rw [eS2]
          unfold rS2
          rw [qIIo _ _ (by omega), qIIo _ _ (by omega), qIIo _ _ (by omega), qIIs]
        · have hie := (List.getElem?_eq_some_iff.mp he).1
          have hlt : 93 * (es.length - 1 - i) + k < 1488 := by omega
          rw [t0 86 _ (by omega) (by omega), q3, if_pos ⟨Nat.zero_le _, hlt⟩, p2.2 87 _ (by omega), mRo_row r2 (by omega), v8 _ hlt, low 86 _ (by omega) (by omega) (by omega) (by omega) (by omega) (by omega) (by omega) (by omega) (by unfold scI; omega)]
      · rw [s2Y 44 1 (by omega) (by omega) (by omega) (by omega) (by omega) (by omega) (by omega) (by unfold scI; omega), i1 44 1 (by omega) (by omega), u3 44 1 (by omega), ZI 44 1 (by omega), h3 44 1 (by omega), w2.2.1 44 1 (by unfold scI; omega) (by omega) (by omega), x7]
      · rw [t72 13 (by omega) (by omega) (by omega), r2.2.1 72 13 (by unfold scI; omega) (by omega) (by omega) (by omega), v6]
      · have a19 : zI S2 0 19 = -3 := by rw [f0, eS1]; exact qIIs _ _ _ _
        have a16 : zI S2 0 16 = zI S 0 16 := by rw [f0, s10 16 (by omega), z0 16 (by omega), x4 0 16 (by omega) (by omega) (by omega) (by omega) (by omega)]
        have a17 : zI S2 0 17 = -1 := by rw [f0, s10 17 (by omega), z0 17 (by omega), x5]
        have a18 : zI S2 0 18 = nI ci := by rw [f0, s10 18 (by omega), ZI 0 18 (by omega), eX3, qIIs]
        have b0 : zI S2 72 0 = -3 := by rw [eS2]; unfold rS2; rw [qIIo _ _ (by omega), qIIs]
        have b41 : zI S2 72 41 = nI ci := by rw [eS2]; unfold rS2; rw [qIIo _ _ (by omega), qIIo _ _ (by omega), qIIs]
        have b14 : zI S2 72 14 = -1 := by rw [t72 14 (by omega) (by omega) (by omega), r2.2.1 72 14 (by unfold scI; omega) (by omega) (by omega) (by omega), v5]
        have b6 : zI S2 72 6 = zI S 72 6 := rr 6 (by unfold scI; omega) (by omega) (by omega) (by omega) (by omega) (by omega)
        unfold iMs
        rw [a19, a16, a17, a18, b0, b6, b14, b41, h71, h71, h71, h71, h71, h73, h73, h73, h73, h73]
        refine ⟨rfl, m2, rfl, rfl, m5, m6, ?_, m8, m9⟩
        show zI S 71 2 + 1 = zI S 73 3 + 1
        rw [m7]
  · -- all could be
    obtain ⟨m1, m2, m3, m4, m5, m6, m7, m8, m9⟩ := hms
    obtain ⟨X', w1, w2, w3⟩ := gA X cX fu (by omega)
    obtain ⟨S1, eS1⟩ : ∃ S1, S1 = zwI X' 0 19 0 := ⟨_, rfl⟩
    have i1 : ∀ j k, ¬ (j = 0 ∧ k = 19) → zI S1 j k = zI X' j k := fun j k a => by rw [eS1, qIIo _ _ a]
    have w12 : S1.2 = X'.2 := by rw [eS1]; rfl
    have low : ∀ j k, ¬ (j = 1 ∧ (k = 5 ∨ k = 6)) → ¬ (32 ≤ j ∧ j ≤ 35) → ¬ (j = 0 ∧ (k = 17 ∨ k = 18 ∨ k = 19)) → ¬ (7 ≤ j ∧ j ≤ 11) → ¬ (38 ≤ j ∧ j ≤ 41) → j ≠ 44 → ¬ (46 ≤ j ∧ j ≤ 51) → ¬ scI j k → zI S1 j k = zI S j k := fun j k a b c d e f g s => by
      rw [i1 j k (by omega), w2.2.1 j k s a b, x4 j k (by omega) d e f g]
    obtain ⟨hm1, Y, oY, iY, eM⟩ := ref S1 (fun j hj => funext fun k => low j k (by omega) (by omega) (by omega) (by omega) (by omega) (by omega) (by omega) (by unfold scI; omega)) (low 72 32 (by omega) (by omega) (by omega) (by omega) (by omega) (by omega) (by omega) (by unfold scI; omega)) (low 72 13 (by omega) (by omega) (by omega) (by omega) (by omega) (by omega) (by omega) (by unfold scI; omega))
    obtain ⟨v1, v2, v3, v4, v5, v6, v7, v8⟩ := oY
    obtain ⟨Y', r1, r2, r3, r4, r5⟩ := gB Y iY fu (by omega)
    obtain ⟨S2, eS2⟩ : ∃ S2, S2 = zwI Y' 72 0 0 := ⟨_, rfl⟩
    have t1 : ∀ j k, ¬ (j = 72 ∧ k = 0) → zI S2 j k = zI Y' j k := fun j k a => by rw [eS2, qIIo _ _ a]
    have s22 : S2.2 = Y'.2 := by rw [eS2]; rfl
    have s2Y : ∀ j k, j ≠ 72 → j ≠ 74 → j ≠ 86 → j ≠ 77 → ¬ (81 ≤ j ∧ j ≤ 83) → j ≠ 87 → ¬ scI j k → zI S2 j k = zI S1 j k := fun j k a c d e f g s => by
      rw [t1 j k (by omega), r2.2.1 j k s (by omega) d (by omega), v2 j k (by omega) (by omega) e f g]
    have s2L : ∀ j k, ¬ scL j → j ≠ 96 → zL S2 j k = zL S1 j k := fun j k a b => by
      have e1 : zL S2 = zL Y' := by unfold zL; rw [s22]
      have e2 : zL Y = zL S1 := by unfold zL; rw [v1]
      rw [e1, r2.2.2 j k a b, e2]
    have s222 : S2.2.2 = X'.2.2 := by
      have e1 : S2.2.2 = Y'.2.2 := by rw [s22]
      have e2 : Y.2.2 = S1.2.2 := by rw [v1]
      have e3 : S1.2.2 = X'.2.2 := by rw [w12]
      rw [e1, r2.1, e2, e3]
    have s22X : S2.2.2 = X.2.2 := s222.trans w2.1
    have ZR : zR S2 = zR X := by unfold zR; rw [s22X]
    have ZN : zN S2 = zN S := by rw [show zN S2 = zN X by unfold zN; rw [s22X], x2]
    have ZA : zA S2 = zA S := by rw [show zA S2 = zA X by unfold zA; rw [s22X], x1]
    have S1L : zL S1 = zL X' := by unfold zL; rw [w12]
    have f0 : ∀ k, zI S2 0 k = zI S1 0 k := fun k => s2Y 0 k (by omega) (by omega) (by omega) (by omega) (by omega) (by omega) (by unfold scI; omega)
    have rr : ∀ k, ¬ scI 72 k → k ≠ 0 → k ≠ 32 → ¬ (27 ≤ k ∧ k ≤ 28) → ¬ (41 ≤ k ∧ k ≤ 46) → ¬ (8 ≤ k ∧ k ≤ 21) → zI S2 72 k = zI S 72 k := fun k s a b c d e => by
      rw [t1 72 k (by omega), r2.2.1 72 k s (by omega) (by omega) (by omega), v2 72 k (by omega) (by omega) (by omega) (by omega) (by omega), low 72 k (by omega) (by omega) (by omega) (by omega) (by omega) (by omega) (by omega) s]
    refine ⟨nI d', S1, S2, ?_, ?_, ?_, by rw [ZN]; exact Nat.le_refl _, by rw [ZN]; exact Nat.le_add_right _ _⟩
    · have w1' : f_E_run fu X = some (nI d', X') := w1
      rw [eE, qb2 w1', if_neg (nI_m1 (by omega)), zb2_eta, eS1]
      rfl
    · have r1' : f_M_orders_96 fu fu (nI es.length) (nI (2400 + N)) 0 Y = f_M_orders_174 fu Y' := r1
      rw [eM, r1']
      unfold f_M_orders_174
      rw [zb2_eta, r5, eS2]
      rfl
    · refine orders_end (P' := pSet P m') (es' := es') hi ⟨m1, m2, m3, m4, m5, m6, m7, m8, m9⟩ hd hs ⟨ZA, ZN, fun j k => ?_, fun j k hj => ?_, fun j k hj => ?_⟩ k1 ?_ ?_ k2 ?_ ?_ ?_ ?_ ?_
      · rw [ZR, x3]
      · by_cases e72 : j = 72
        · rw [e72, show k = 49 by omega]
          exact rr 49 (by unfold scI; omega) (by omega) (by omega) (by omega) (by omega) (by omega)
        · rw [s2Y j k (by omega) (by omega) (by omega) (by omega) (by omega) (by omega) (by unfold scI; omega), low j k (by omega) (by omega) (by omega) (by omega) (by omega) (by omega) (by omega) (by unfold scI; omega)]
      · rw [s2L j k (by unfold scL; omega) (by omega), S1L, w2.2.2 j k (by unfold scL; omega) (by omega) (by omega), x8 j k (by omega) (by omega) (by omega)]
      · refine cRep_f w3.1 (fun j a b => funext fun k => ?_) (funext fun k => ?_) (by unfold zR; rw [s222]) (by show zN X' ≤ zN S2; unfold zN; rw [s222]; exact Nat.le_refl _) (fun j a b => ⟨funext fun k => ?_, by unfold zA; rw [s222]⟩)
        · rw [s2Y j k (by omega) (by omega) (by omega) (by omega) (by omega) (by omega) (by unfold scI; omega), i1 j k (by omega)]
        · rw [s2L 1 k (by unfold scL; omega) (by omega), S1L]
        · rw [s2Y j k (by omega) (by omega) (by omega) (by omega) (by omega) (by omega) (by unfold scI; omega), i1 j k (by omega)]
      · exact mRep_f r3 (fun k _ => by rw [t1 74 _ (by omega)]) k1
      · refine jC_f w3.2.2 (fun j a b => funext fun k => ?_) (fun j a => funext fun k => ?_)
        · rw [s2Y j k (by omega) (by omega) (by omega) (by omega) (by omega) (by omega) (by unfold scI; omega), i1 j k (by omega)]
        · rw [s2L j k (by unfold scL; omega) (by omega), S1L]
      · exact jM_f r4 (funext fun k => t1 86 k (by omega)) (t1 72 32 (by omega))
      · rw [s2Y 44 1 (by omega) (by omega) (by omega) (by omega) (by omega) (by omega) (by unfold scI; omega), i1 44 1 (by omega), w2.2.1 44 1 (by unfold scI; omega) (by omega) (by omega), x7]
      · rw [t1 72 13 (by omega), r2.2.1 72 13 (by unfold scI; omega) (by omega) (by omega) (by omega), v6]
      · have a19 : zI S2 0 19 = 0 := by rw [f0, eS1]; exact qIIs _ _ _ _
        have a16 : zI S2 0 16 = zI S 0 16 := by rw [f0, i1 0 16 (by omega), cK_row w2 (by omega), x4 0 16 (by omega) (by omega) (by omega) (by omega) (by omega)]
        have a17 : zI S2 0 17 = -1 := by rw [f0, i1 0 17 (by omega), cK_row w2 (by omega), x5]
        have a18 : zI S2 0 18 = -1 := by rw [f0, i1 0 18 (by omega), cK_row w2 (by omega), x6]
        have b0 : zI S2 72 0 = 0 := by rw [eS2]; exact qIIs _ _ _ _
        have b41 : zI S2 72 41 = -1 := by rw [t1 72 41 (by omega), r2.2.1 72 41 (by unfold scI; omega) (by omega) (by omega) (by omega), v4]
        have b14 : zI S2 72 14 = -1 := by rw [t1 72 14 (by omega), r2.2.1 72 14 (by unfold scI; omega) (by omega) (by omega) (by omega), v5]
        have b6 : zI S2 72 6 = zI S 72 6 := rr 6 (by unfold scI; omega) (by omega) (by omega) (by omega) (by omega) (by omega)
        have a71 : zI S2 71 = zI S 71 := funext fun k => by rw [s2Y 71 k (by omega) (by omega) (by omega) (by omega) (by omega) (by omega) (by unfold scI; omega), low 71 k (by omega) (by omega) (by omega) (by omega) (by omega) (by omega) (by omega) (by unfold scI; omega)]
        have a73 : zI S2 73 = zI S 73 := funext fun k => by rw [s2Y 73 k (by omega) (by omega) (by omega) (by omega) (by omega) (by omega) (by unfold scI; omega), low 73 k (by omega) (by omega) (by omega) (by omega) (by omega) (by omega) (by omega) (by unfold scI; omega)]
        unfold iMs
        rw [a19, a16, a17, a18, b0, b6, b14, b41, a71, a73]
        exact ⟨rfl, m2, rfl, rfl, m5, m6, m7, m8, m9⟩
theorem call_orders (fu : Nat) (hfu : 10000 ≤ fu) {S : zSt} (h : Inv S) : cOk (f_E_orders fu) (f_M_orders fu) S := by
  obtain ⟨P, es, hP, hc, hm, hj, hi, ht, hms, hd, hs⟩ := id h
  obtain ⟨T, t1, t2, t3, t4⟩ := ht
  have hMt : zMt S (zI S 79) T := ⟨fun k _ => rfl, t1, hs.2.1⟩
  obtain ⟨N, r0, S0, _, _, hN, _, _, hMS, _⟩ := reads_is fu (by omega) (n := 401) (Nat.le_refl _) false hMt t3
  have oa : ∀ j, j ≠ 0 → zI (zwI S 0 18 (-1)) j = zI S j := fun j hj => funext fun k => qIIo _ _ (by omega)
  obtain ⟨r, S4, e4, F4, hb, hO⟩ := fault_is fu (by omega) (n := 401) (S := zwI S 0 18 (-1)) true (⟨by rw [oa 44 (by omega)]; exact t2, t1, fun k hk => by rw [oa 45 (by omega)]; exact (t4 k hk).1⟩ : zTp (zwI S 0 18 (-1)) (zI S 79) T) hs.2.2.2.1 (za_50 hs.2.2.1) (Nat.le_refl _) hN
  cases hR : ltx true (tC (zI S 79) T) (tV (zI S 79) T) 401 N 12 0 0 [] with
  | inl j =>
    rw [hR] at hO
    exact orders_fault h fu (by omega) hP hc hm hj hi hms hd hs t1 t3 hN e4 F4 hR hO
  | inr cls =>
    rw [hR] at hO
    obtain ⟨hr, hTx⟩ := hO
    subst hr
    exact orders_good h fu hfu hP hc hm hj hi hms hd hs t1 t3 hN hMS.1 e4 F4 hR hTx

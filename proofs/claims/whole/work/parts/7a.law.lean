/-! law: the call, what may come -/
theorem law_many {S : zSt} (h : Inv S) (fu : Nat) {P : zP} (hP : pOK P) (hc : cRep S 1 P) (hm : mRep S 74 0 P) (h6 : (pLw P).length = 6) : cOk (f_E_law fu) (f_M_law fu) S := by
  have h12 : zI S 1 12 = nI (pLw P).length := hc.2.2.2.2.2.2.2.2.2.2.2.2.1
  have h198 := hm.2.2.2.2.2.2.2.2.2.2.2.1
  rw [Nat.zero_add] at h198
  have hZ : Inv (zwI (zwI S 44 1 0) 72 13 0) := by
    refine Inv_tape h (zUq_t (zUq_w _ _ (by omega)) (zUq_w _ _ (by omega))) (fun j hj => ?_) (fun k hk => ?_) rfl ⟨0, by omega, ?_, qIIs _ _ _ _, fun k hk => absurd hk (by omega)⟩
    · funext k; rw [qIIo _ _ (by omega), qIIo _ _ (by omega)]
    · rw [qIIo _ _ (by omega), qIIo _ _ (by omega)]
    · rw [qIIo _ _ (by omega), qIIs]; rfl
  have eqS : zwI (rS1 (zwI S 44 1 0) (-5) 4) 72 13 0 = rS1 (zwI (zwI S 44 1 0) 72 13 0) (-5) 4 := by
    unfold rS1
    rw [qIIo (i := 72) (j := 71) _ _ (by omega), zw_c (i := 72) (j := 71) _ _ _ _ _ (by omega), zw_c (i := 72) (j := 0) _ _ _ _ _ (by omega)]
  refine ⟨-5, rS1 (zwI S 44 1 0) (-5) 4, rS2 (zwI (rS1 (zwI S 44 1 0) (-5) 4) 72 13 0) (-5) 5, ?_, ?_, ?_, Nat.le_refl _, Nat.le_add_right _ _⟩
  · unfold f_E_law
    rw [h12, h6, if_neg (show ¬ nI 6 < 6 by decide), zb2_eta]
    exact refE rf5 _
  · unfold f_M_law
    rw [show (198 : Int32).toNatClampNeg = 198 from rfl, rS1_I _ _ _ ⟨by omega, by omega⟩, qIIo _ _ (by omega), h198, h6, if_pos (show nI 6 = 6 from rfl), zb2_eta]
    exact refM rf5 _
  · rw [eqS]
    exact ref_inv rf5 hZ
theorem law_fault {S : zSt} (h : Inv S) (fu : Nat) (hfu : 1000 ≤ fu) {P : zP} (hP : pOK P) (hc : cRep S 1 P) (hm : mRep S 74 0 P) (h6 : (pLw P).length < 6) {es : List (Nat × zMv)} (hj : jRel S P es) (hi : iIm S) (hms : iMs S) (hd : iDr S) (hs : iSt S) {T N j : Nat} (hT : T ≤ 400) (h13 : zI S 72 13 = nI T) (hN : tNo (zI S 79) T N) {S4 : zSt} {r : Int32} (e4 : f_Re_faultIn fu (b2 false) S = some (r, S4)) (F4 : zFF S S4) (hR : ltx false (tC (zI S 79) T) (tV (zI S 79) T) 401 N 12 0 0 [] = .inl j) (hr : r = nI (tPos (zI S 79) T j)) : cOk (f_E_law fu) (f_M_law fu) S := by
  have h12 : zI S 1 12 = nI (pLw P).length := hc.2.2.2.2.2.2.2.2.2.2.2.2.1
  have h198 := hm.2.2.2.2.2.2.2.2.2.2.2.1
  rw [Nat.zero_add] at h198
  have hp := tPos_le (zI S 79) T j
  have hr1 : ¬ r = -1 := by rw [hr]; exact nI_m1 (by omega)
  obtain ⟨X, eX⟩ : ∃ X, X = zwI (zwI S4 0 17 r) 44 1 0 := ⟨_, rfl⟩
  have o4 : ∀ j, j ≠ 44 → j ≠ 46 → j ≠ 47 → j ≠ 48 → j ≠ 49 → j ≠ 50 → j ≠ 51 → zI S4 j = zI S j := fun j a b c d e f g => funext fun k => F4.2.1 j k a b c d e f g
  have oX : ∀ j, j ≠ 0 → j ≠ 44 → j ≠ 46 → j ≠ 47 → j ≠ 48 → j ≠ 49 → j ≠ 50 → j ≠ 51 → zI X j = zI S j := fun j z a b c d e f g => funext fun k => by rw [eX, qIIo _ _ (by omega), qIIo _ _ (by omega), o4 j a b c d e f g]
  obtain ⟨S1, eS1⟩ : ∃ S1, S1 = rS1 X (-6) 5 := ⟨_, rfl⟩
  have o1 : ∀ j, j ≠ 0 → j ≠ 71 → j ≠ 44 → j ≠ 46 → j ≠ 47 → j ≠ 48 → j ≠ 49 → j ≠ 50 → j ≠ 51 → zI S1 j = zI S j := fun j z y a b c d e f g => by rw [eS1, rS1_I _ _ _ ⟨y, z⟩, oX j z a b c d e f g]
  have hB : zMt S1 (zI S 79) T := ⟨fun k _ => by rw [o1 79 (by omega) (by omega) (by omega) (by omega) (by omega) (by omega) (by omega) (by omega) (by omega)], hT, by
    unfold zW8
    rw [o1 78 (by omega) (by omega) (by omega) (by omega) (by omega) (by omega) (by omega) (by omega) (by omega)]
    exact hs.2.1⟩
  obtain ⟨N', r', S5, e5, F5, hN', g13, g18, gMS, gE⟩ := reads_is fu (by omega) (n := 401) (Nat.le_refl _) false hB (by rw [o1 72 (by omega) (by omega) (by omega) (by omega) (by omega) (by omega) (by omega) (by omega) (by omega)]; exact h13)
  rw [tNo_1 hN' hN, hR] at gE
  obtain ⟨gr, g14⟩ := gE
  have o5 : ∀ j, j ≠ 72 → j ≠ 81 → j ≠ 82 → j ≠ 83 → zI S5 j = zI S1 j := fun j a b c d => funext fun k => F5.2 j k b c d (by omega)
  obtain ⟨S2, eS2⟩ : ∃ S2, S2 = rS2 S5 (-6) 6 := ⟨_, rfl⟩
  have oZ : ∀ j, j ≠ 0 → j ≠ 71 → j ≠ 72 → j ≠ 73 → j ≠ 81 → j ≠ 82 → j ≠ 83 → j ≠ 44 → j ≠ 46 → j ≠ 47 → j ≠ 48 → j ≠ 49 → j ≠ 50 → j ≠ 51 → zI S2 j = zI S j := fun j z y x w v1 v2 v3 a b c d e f g => by rw [eS2, rS2_I _ _ _ ⟨x, w⟩, o5 j x v1 v2 v3, o1 j z y a b c d e f g]
  have h72 : ∀ k, k ≠ 0 → ¬ (8 ≤ k ∧ k ≤ 21) → zI S2 72 k = zI S 72 k := fun k hk hk2 => by
    rw [eS2]
    unfold rS2
    rw [qIIo _ _ (by omega), qIIo _ _ (by omega), F5.2 72 k (by omega) (by omega) (by omega) (by omega), o1 72 (by omega) (by omega) (by omega) (by omega) (by omega) (by omega) (by omega) (by omega) (by omega)]
  have h72b : ∀ k, 8 ≤ k → zI S2 72 k = zI S5 72 k := fun k hk => by
    rw [eS2]
    unfold rS2
    rw [qIIo _ _ (by omega), qIIo _ _ (by omega)]
  have u4 := zUq_FF F4
  have u1 : zUq S S1 := by
    rw [eS1, eX]
    exact zUq_t u4 (zUq_t (zUq_t (zUq_w _ _ (by omega)) (zUq_w _ _ (by omega))) (zUq_t (zUq_w _ _ (by omega)) (zUq_w _ _ (by omega))))
  have u2 : zUq S S2 := by
    rw [eS2]
    exact zUq_t u1 (zUq_t (zUq_MG F5) (zUq_t (zUq_w _ _ (by omega)) (zUq_w _ _ (by omega))))
  have hL : zL S2 = zL S := by
    have a5 : zL S5 = zL S1 := by unfold zL; rw [F5.1]
    have a4 : zL S4 = zL S := by unfold zL; rw [F4.1]
    rw [eS2]
    show zL S5 = zL S
    rw [a5, eS1, eX]
    exact a4
  have h0 : ∀ k, 16 ≤ k → k ≤ 18 → k ≠ 17 → zI S2 0 k = zI S 0 k := fun k a b c => by
    rw [eS2, rS2_I _ _ _ ⟨by omega, by omega⟩, o5 0 (by omega) (by omega) (by omega) (by omega), eS1]
    unfold rS1
    rw [qIIo _ _ (by omega), qIIo _ _ (by omega), eX, qIIo _ _ (by omega), qIIo _ _ (by omega), o4 0 (by omega) (by omega) (by omega) (by omega) (by omega) (by omega) (by omega)]
  have h017 : zI S2 0 17 = r := by
    rw [eS2, rS2_I _ _ _ ⟨by omega, by omega⟩, o5 0 (by omega) (by omega) (by omega) (by omega), eS1]
    unfold rS1
    rw [qIIo _ _ (by omega), qIIo _ _ (by omega), eX, qIIo _ _ (by omega), qIIs]
  have h019 : zI S2 0 19 = -6 := by
    rw [eS2, rS2_I _ _ _ ⟨by omega, by omega⟩, o5 0 (by omega) (by omega) (by omega) (by omega), eS1]
    exact qIIs _ _ _ _
  have h44 : zI S2 44 1 = 0 := by
    rw [eS2, rS2_I _ _ _ ⟨by omega, by omega⟩, o5 44 (by omega) (by omega) (by omega) (by omega), eS1, rS1_I _ _ _ ⟨by omega, by omega⟩, eX, qIIs]
  have h71 : ∀ k, zI S2 71 k = if k = 5 then zI S 71 5 + 1 else zI S 71 k := fun k => by
    have eX71 : zI X 71 = zI S 71 := oX 71 (by omega) (by omega) (by omega) (by omega) (by omega) (by omega) (by omega) (by omega)
    rw [eS2, rS2_I _ _ _ ⟨by omega, by omega⟩, o5 71 (by omega) (by omega) (by omega) (by omega), eS1]
    unfold rS1
    rw [qIIo _ _ (by omega), eX71, qII, eX71]
    by_cases e : k = 5
    · rw [if_pos ⟨rfl, e⟩, if_pos e]
    · rw [if_neg (fun h => e h.2), if_neg e]
  have h73 : ∀ k, zI S2 73 k = if k = 6 then zI S 73 6 + 1 else zI S 73 k := fun k => by
    have e573 : zI S5 73 = zI S 73 := by rw [o5 73 (by omega) (by omega) (by omega) (by omega), o1 73 (by omega) (by omega) (by omega) (by omega) (by omega) (by omega) (by omega) (by omega) (by omega)]
    rw [eS2]
    unfold rS2
    rw [qII, e573, qIIo _ _ (by omega), e573]
    by_cases e : k = 6
    · rw [if_pos ⟨rfl, e⟩, if_pos e]
    · rw [if_neg (fun h => e h.2), if_neg e]
  refine ⟨-6, S1, S2, ?_, ?_, ?_, by rw [zUq_N u2]; exact Nat.le_refl _, by rw [zUq_N u2]; exact Nat.le_add_right _ _⟩
  · have e4' : f_Re_faultIn fu 0 S = some (r, S4) := e4
    unfold f_E_law
    rw [h12, if_pos (show nI (pLw P).length < 6 from (n_lt (b := 6) (by omega) (by omega)).mpr h6), qb2 e4', ← eX]
    have x17 : zI X 0 17 = r := by rw [eX, qIIo _ _ (by omega), qIIs]
    have x17' : zI (zwI (zwI S4 0 17 r) 44 1 0) 0 17 = r := by rw [← eX]; exact x17
    rw [if_neg (by rw [x17]; exact hr1), zb2_eta, eS1]
    exact refE rf6 _
  · have e5' : f_M_readsAs fu 0 S1 = some (0, S5) := by rw [gr] at e5; exact e5
    unfold f_M_law
    rw [show (198 : Int32).toNatClampNeg = 198 from rfl, o1 74 (by omega) (by omega) (by omega) (by omega) (by omega) (by omega) (by omega) (by omega) (by omega), h198, if_neg (show ¬ nI (pLw P).length = 6 from fun h => absurd ((n_eq (b := 6) (by omega) (by omega)).mp h) (by omega)), qb2 e5', if_pos rfl, zb2_eta, eS2]
    exact refM rf6 _
  · refine Inv_uq (P := P) (es := es) hi hd hs u2 hP (cRep_uq hc u2 (fun j a b => oZ j (by omega) (by omega) (by omega) (by omega) (by omega) (by omega) (by omega) (by omega) (by omega) (by omega) (by omega) (by omega) (by omega) (by omega)) (by rw [hL])) (mRep_f hm (fun k _ => by rw [oZ 74 (by omega) (by omega) (by omega) (by omega) (by omega) (by omega) (by omega) (by omega) (by omega) (by omega) (by omega) (by omega) (by omega) (by omega)]) hP) (jRel_f hj (fun j a => oZ j (by omega) (by omega) (by omega) (by omega) (by omega) (by omega) (by omega) (by omega) (by omega) (by omega) (by omega) (by omega) (by omega) (by omega)) (h72 32 (by omega) (by omega)) (fun j _ => by rw [hL])) ⟨0, by omega, by rw [h44]; rfl, by rw [h72b 13 (by omega), g13]; rfl, fun k hk => absurd hk (by omega)⟩ ?_
    obtain ⟨Q, eQ⟩ : ∃ Q, Q = zwI (zwI S 0 17 r) 72 14 r := ⟨_, rfl⟩
    have mQ : iMs Q := by
      obtain ⟨m1, m2, m3, m4, m5, m6, m7, m8, m9⟩ := hms
      rw [eQ]
      refine ⟨?_, ?_, ?_, ?_, ?_, ?_, ?_, ?_, ?_⟩
      · rw [qIIo _ _ (by omega), qIIo _ _ (by omega), qIIo _ _ (by omega), qIIo _ _ (by omega)]; exact m1
      · rw [qIIo _ _ (by omega), qIIo _ _ (by omega), qIIo _ _ (by omega), qIIo _ _ (by omega)]; exact m2
      · rw [qIIo _ _ (by omega), qIIs, qIIs]
      · rw [qIIo _ _ (by omega), qIIo _ _ (by omega), qIIo _ _ (by omega), qIIo _ _ (by omega)]; exact m4
      · rw [qIIo _ _ (by omega), qIIo _ _ (by omega), qIIo _ _ (by omega), qIIo _ _ (by omega)]; exact m5
      · rw [qIIo _ _ (by omega), qIIo _ _ (by omega), qIIo _ _ (by omega), qIIo _ _ (by omega)]; exact m6
      · rw [qIIo _ _ (by omega), qIIo _ _ (by omega), qIIo _ _ (by omega), qIIo _ _ (by omega)]; exact m7
      · rw [qIIo _ _ (by omega), qIIo _ _ (by omega), qIIo _ _ (by omega), qIIo _ _ (by omega)]; exact m8
      · rw [qIIo _ _ (by omega), qIIo _ _ (by omega), qIIo _ _ (by omega), qIIo _ _ (by omega)]; exact m9
    have q0 : ∀ k, 16 ≤ k → k ≤ 18 → zI S2 0 k = zI Q 0 k := fun k a b => by
      rw [eQ, qIIo _ _ (by omega)]
      by_cases e : k = 17
      · rw [e, h017, qIIs]
      · rw [qIIo _ _ (by omega)]; exact h0 k a b e
    refine ref_ms rf6 mQ q0 h019 (fun k => ?_) ?_ (fun k hk => ?_) (fun k => ?_)
    · rw [h71 k, eQ, qIIo _ _ (by omega), qIIo _ _ (by omega), qIIo _ _ (by omega), qIIo _ _ (by omega)]
    · rw [eS2]
      unfold rS2
      rw [qIIo _ _ (by omega), qIIs]
    · rcases hk with rfl | rfl | rfl
      · rw [eQ, qIIo _ _ (by omega), qIIo _ _ (by omega)]; exact h72 6 (by omega) (by omega)
      · rw [eQ, qIIs, h72b 14 (by omega), g14, hr]
      · rw [eQ, qIIo _ _ (by omega), qIIo _ _ (by omega)]; exact h72 41 (by omega) (by omega)
    · rw [h73 k, eQ, qIIo _ _ (by omega), qIIo _ _ (by omega), qIIo _ _ (by omega), qIIo _ _ (by omega)]

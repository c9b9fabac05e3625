/-! orders: the call, a fault -/
theorem orders_fault {S : zSt} (h : Inv S) (fu : Nat) (hfu : 1000 ≤ fu) {P : zP} (hP : pOK P) (hc : cRep S 1 P) (hm : mRep S 74 0 P) {es : List (Nat × zMv)} (hj : jRel S P es) (hi : iIm S) (hms : iMs S) (hd : iDr S) (hs : iSt S) {T N j : Nat} (hT : T ≤ 400) (h13 : zI S 72 13 = nI T) (hN : tNo (zI S 79) T N) {S4 : zSt} {r : Int32} (e4 : f_Re_faultIn fu (b2 true) (zwI S 0 18 (-1)) = some (r, S4)) (F4 : zFF (zwI S 0 18 (-1)) S4) (hR : ltx true (tC (zI S 79) T) (tV (zI S 79) T) 401 N 12 0 0 [] = .inl j) (hr : r = nI (tPos (zI S 79) T j)) : cOk (f_E_orders fu) (f_M_orders fu) S := by
  have hp := tPos_le (zI S 79) T j
  have hr1 : ¬ r = -1 := by rw [hr]; exact nI_m1 (by omega)
  obtain ⟨Sa, eSa⟩ : ∃ Sa, Sa = zwI S 0 18 (-1) := ⟨_, rfl⟩
  rw [← eSa] at e4 F4
  have oa : ∀ j, j ≠ 0 → zI Sa j = zI S j := fun j hj => funext fun k => by rw [eSa, qIIo _ _ (by omega)]
  obtain ⟨X, eX⟩ : ∃ X, X = zwI (zwI S4 0 17 r) 44 1 0 := ⟨_, rfl⟩
  have o4 : ∀ j, j ≠ 44 → j ≠ 46 → j ≠ 47 → j ≠ 48 → j ≠ 49 → j ≠ 50 → j ≠ 51 → zI S4 j = zI Sa j := fun j a b c d e f g => funext fun k => F4.2.1 j k a b c d e f g
  have oX : ∀ j, j ≠ 0 → j ≠ 44 → j ≠ 46 → j ≠ 47 → j ≠ 48 → j ≠ 49 → j ≠ 50 → j ≠ 51 → zI X j = zI S j := fun j z a b c d e f g => funext fun k => by rw [eX, qIIo _ _ (by omega), qIIo _ _ (by omega), o4 j a b c d e f g, oa j z]
  obtain ⟨S1, eS1⟩ : ∃ S1, S1 = rS1 X (-6) 5 := ⟨_, rfl⟩
  obtain ⟨Sb, eSb⟩ : ∃ Sb, Sb = zwI S1 72 41 (-1) := ⟨_, rfl⟩
  have o1 : ∀ j, j ≠ 0 → j ≠ 71 → j ≠ 44 → j ≠ 46 → j ≠ 47 → j ≠ 48 → j ≠ 49 → j ≠ 50 → j ≠ 51 → zI S1 j = zI S j := fun j z y a b c d e f g => by rw [eS1, rS1_I _ _ _ ⟨y, z⟩, oX j z a b c d e f g]
  have ob : ∀ j, j ≠ 72 → zI Sb j = zI S1 j := fun j hj => funext fun k => by rw [eSb, qIIo _ _ (by omega)]
  have hB : zMt Sb (zI S 79) T := ⟨fun k _ => by rw [ob 79 (by omega), o1 79 (by omega) (by omega) (by omega) (by omega) (by omega) (by omega) (by omega) (by omega) (by omega)], hT, by
    unfold zW8
    rw [ob 78 (by omega), o1 78 (by omega) (by omega) (by omega) (by omega) (by omega) (by omega) (by omega) (by omega) (by omega)]
    exact hs.2.1⟩
  have o172 : zI S1 72 = zI S 72 := o1 72 (by omega) (by omega) (by omega) (by omega) (by omega) (by omega) (by omega) (by omega) (by omega)
  obtain ⟨N', r', S5, e5, F5, hN', g13, g18, gMS, gE⟩ := reads_is fu (by omega) (n := 401) (Nat.le_refl _) true hB (by rw [eSb, qIIo _ _ (by omega), o172]; exact h13)
  rw [tNo_1 hN' hN, hR] at gE
  obtain ⟨gr, g14⟩ := gE
  have o5 : ∀ j, j ≠ 72 → j ≠ 81 → j ≠ 82 → j ≠ 83 → zI S5 j = zI S1 j := fun j a b c d => (funext fun k => F5.2 j k b c d (by omega) : zI S5 j = zI Sb j).trans (ob j a)
  obtain ⟨S2, eS2⟩ : ∃ S2, S2 = rS2 S5 (-6) 6 := ⟨_, rfl⟩
  have oZ : ∀ j, j ≠ 0 → j ≠ 71 → j ≠ 72 → j ≠ 73 → j ≠ 81 → j ≠ 82 → j ≠ 83 → j ≠ 44 → j ≠ 46 → j ≠ 47 → j ≠ 48 → j ≠ 49 → j ≠ 50 → j ≠ 51 → zI S2 j = zI S j := fun j z y x w v1 v2 v3 a b c d e f g => by rw [eS2, rS2_I _ _ _ ⟨x, w⟩, o5 j x v1 v2 v3, o1 j z y a b c d e f g]
  have h72 : ∀ k, k ≠ 0 → ¬ (8 ≤ k ∧ k ≤ 21) → k ≠ 41 → zI S2 72 k = zI S 72 k := fun k hk hk2 hk3 => by
    rw [eS2]
    unfold rS2
    rw [qIIo _ _ (by omega), qIIo _ _ (by omega), F5.2 72 k (by omega) (by omega) (by omega) (by omega), eSb, qIIo _ _ (by omega), o172]
  have h7241 : zI S2 72 41 = -1 := by
    rw [eS2]
    unfold rS2
    rw [qIIo _ _ (by omega), qIIo _ _ (by omega), F5.2 72 41 (by omega) (by omega) (by omega) (by omega), eSb, qIIs]
  have h72b : ∀ k, 8 ≤ k → zI S2 72 k = zI S5 72 k := fun k hk => by
    rw [eS2]
    unfold rS2
    rw [qIIo _ _ (by omega), qIIo _ _ (by omega)]
  have u1 : zUq S S1 := by
    rw [eS1, eX]
    refine zUq_t (S' := Sa) (by rw [eSa]; exact zUq_w _ _ (by omega)) (zUq_t (zUq_FF F4) (zUq_t (zUq_t (zUq_w _ _ (by omega)) (zUq_w _ _ (by omega))) (zUq_t (zUq_w _ _ (by omega)) (zUq_w _ _ (by omega)))))
  have u2 : zUq S S2 := by
    rw [eS2]
    exact zUq_t u1 (zUq_t (S' := Sb) (by rw [eSb]; exact zUq_w _ _ (by omega)) (zUq_t (zUq_MG F5) (zUq_t (zUq_w _ _ (by omega)) (zUq_w _ _ (by omega)))))
  have hL : zL S2 = zL S := by
    have a5 : zL S5 = zL Sb := by unfold zL; rw [F5.1]
    have a4 : zL S4 = zL Sa := by unfold zL; rw [F4.1]
    rw [eS2]
    show zL S5 = zL S
    rw [a5, eSb]
    show zL S1 = zL S
    rw [eS1, eX]
    show zL S4 = zL S
    rw [a4, eSa]
    rfl
  have h0 : zI S2 0 16 = zI S 0 16 := by
    rw [eS2, rS2_I _ _ _ ⟨by omega, by omega⟩, o5 0 (by omega) (by omega) (by omega) (by omega), eS1]
    unfold rS1
    rw [qIIo _ _ (by omega), qIIo _ _ (by omega), eX, qIIo _ _ (by omega), qIIo _ _ (by omega), o4 0 (by omega) (by omega) (by omega) (by omega) (by omega) (by omega) (by omega), eSa, qIIo _ _ (by omega)]
  have h018 : zI S2 0 18 = -1 := by
    rw [eS2, rS2_I _ _ _ ⟨by omega, by omega⟩, o5 0 (by omega) (by omega) (by omega) (by omega), eS1]
    unfold rS1
    rw [qIIo _ _ (by omega), qIIo _ _ (by omega), eX, qIIo _ _ (by omega), qIIo _ _ (by omega), o4 0 (by omega) (by omega) (by omega) (by omega) (by omega) (by omega) (by omega), eSa, qIIs]
  have h017 : zI S2 0 17 = r := by
    rw [eS2, rS2_I _ _ _ ⟨by omega, by omega⟩, o5 0 (by omega) (by omega) (by omega) (by omega), eS1]
    unfold rS1
    rw [qIIo _ _ (by omega), qIIo _ _ (by omega), eX, qIIo _ _ (by omega), qIIs]
  have h019 : zI S2 0 19 = -6 := by
    rw [eS2, rS2_I _ _ _ ⟨by omega, by omega⟩, o5 0 (by omega) (by omega) (by omega) (by omega), eS1]
    exact qIIs _ _ _ _
  have h44 : zI S2 44 1 = 0 := by
    rw [eS2, rS2_I _ _ _ ⟨by omega, by omega⟩, o5 44 (by omega) (by omega) (by omega) (by omega), eS1, rS1_I _ _ _ ⟨by omega, by omega⟩, eX, qIIs]
  have h71 : ∀ k, zI S2 71 k = if k = 5 then zI S 71 5 + 1 else zI S 71 k := fun k => by
    have eX71 : zI X 71 = zI S 71 := oX 71 (by omega) (by omega) (by omega) (by omega) (by omega) (by omega) (by omega) (by omega)
    rw [eS2, rS2_I _ _ _ ⟨by omega, by omega⟩, o5 71 (by omega) (by omega) (by omega) (by omega), eS1]
    unfold rS1
    rw [qIIo _ _ (by omega), eX71, qII, eX71]
    by_cases e : k = 5
    · rw [if_pos ⟨rfl, e⟩, if_pos e]
    · rw [if_neg (fun h => e h.2), if_neg e]
  have h73 : ∀ k, zI S2 73 k = if k = 6 then zI S 73 6 + 1 else zI S 73 k := fun k => by
    have e573 : zI S5 73 = zI S 73 := by rw [o5 73 (by omega) (by omega) (by omega) (by omega), o1 73 (by omega) (by omega) (by omega) (by omega) (by omega) (by omega) (by omega) (by omega) (by omega)]
    rw [eS2]
    unfold rS2
    rw [qII, e573, qIIo _ _ (by omega), e573]
    by_cases e : k = 6
    · rw [if_pos ⟨rfl, e⟩, if_pos e]
    · rw [if_neg (fun h => e h.2), if_neg e]
  refine ⟨-6, S1, S2, ?_, ?_, ?_, by rw [zUq_N u2]; exact Nat.le_refl _, by rw [zUq_N u2]; exact Nat.le_add_right _ _⟩
  · have e4' : f_Re_faultIn fu 1 Sa = some (r, S4) := e4
    unfold f_E_orders
    rw [← eSa, qb2 e4', ← eX]
    have x17 : zI X 0 17 = r := by rw [eX, qIIo _ _ (by omega), qIIs]
    rw [if_neg (by rw [x17]; exact hr1), zb2_eta, eS1]
    exact refE rf6 _
  · have e5' : f_M_readsAs fu 1 Sb = some (0, S5) := by rw [gr] at e5; exact e5
    unfold f_M_orders
    rw [← eSb, qb2 e5', if_pos rfl, zb2_eta, eS2]
    exact refM rf6 _
  · refine Inv_uq (P := P) (es := es) hi hd hs u2 hP (cRep_uq hc u2 (fun j a b => oZ j (by omega) (by omega) (by omega) (by omega) (by omega) (by omega) (by omega) (by omega) (by omega) (by omega) (by omega) (by omega) (by omega) (by omega)) (by rw [hL])) (mRep_f hm (fun k _ => by rw [oZ 74 (by omega) (by omega) (by omega) (by omega) (by omega) (by omega) (by omega) (by omega) (by omega) (by omega) (by omega) (by omega) (by omega) (by omega)]) hP) (jRel_f hj (fun j a => oZ j (by omega) (by omega) (by omega) (by omega) (by omega) (by omega) (by omega) (by omega) (by omega) (by omega) (by omega) (by omega) (by omega) (by omega)) (h72 32 (by omega) (by omega) (by omega)) (fun j _ => by rw [hL])) ⟨0, by omega, by rw [h44]; rfl, by rw [h72b 13 (by omega), g13]; rfl, fun k hk => absurd hk (by omega)⟩ ?_
    obtain ⟨m1, m2, m3, m4, m5, m6, m7, m8, m9⟩ := hms
    have h7214 : zI S2 72 14 = r := by rw [h72b 14 (by omega), g14, hr]
    have h720 : zI S2 72 0 = -6 := by
      rw [eS2]
      unfold rS2
      rw [qIIo _ _ (by omega), qIIs]
    unfold iMs
    rw [h019, h0, h017, h018, h720, h72 6 (by omega) (by omega) (by omega), h7214, h7241, h71, h71, h71, h71, h71, h73, h73, h73, h73, h73]
    refine ⟨rfl, m2, rfl, rfl, m5, m6, m7, m8, ?_⟩
    show zI S 71 5 + 1 = zI S 73 6 + 1
    rw [m9]

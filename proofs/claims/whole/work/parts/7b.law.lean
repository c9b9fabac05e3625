/-! law: a law granted -/
theorem zR_w (S : zSt) (i k : Nat) (v : Option Nat) (j l : Nat) : zR (zwR S i k v) j l = if j = i ∧ l = k then v else zR S j l := rfl
theorem law_good {S : zSt} (h : Inv S) (hX : zN S + 5 ≤ zX) (fu : Nat) (hfu : 1000 ≤ fu) {P : zP} (hP : pOK P) (hc : cRep S 1 P) (hm : mRep S 74 0 P) (h6 : (pLw P).length < 6) {es : List (Nat × zMv)} (hj : jRel S P es) (hi : iIm S) (hms : iMs S) (hd : iDr S) (hs : iSt S) {T N : Nat} {cls : List lC} (hT : T ≤ 400) (h13 : zI S 72 13 = nI T) (hN : tNo (zI S 79) T N) (hN4 : N ≤ 400) {S4 : zSt} (e4 : f_Re_faultIn fu (b2 false) S = some (-1, S4)) (F4 : zFF S S4) (hb : zI S4 47 3 = 0 ∨ zI S4 47 3 = 1) (hR : ltx false (tC (zI S 79) T) (tV (zI S 79) T) 401 N 12 0 0 [] = .inr cls) (hTx : zTx S4 47 7 (cls.map xcO)) : cOk (f_E_law fu) (f_M_law fu) S := by
  have h12 : zI S 1 12 = nI (pLw P).length := hc.2.2.2.2.2.2.2.2.2.2.2.2.1
  have h198 := hm.2.2.2.2.2.2.2.2.2.2.2.1
  rw [Nat.zero_add] at h198
  obtain ⟨len, elen⟩ : ∃ len, len = (pLw P).length := ⟨_, rfl⟩
  rw [← elen] at h12 h198 h6
  obtain ⟨s1, s2, s3, s4, s5, s6, s7, s8⟩ := id hs
  obtain ⟨X, eX⟩ : ∃ X, X = zwI (zwI S4 0 17 (-1)) 44 1 0 := ⟨_, rfl⟩
  have o4 : ∀ j, j ≠ 44 → j ≠ 46 → j ≠ 47 → j ≠ 48 → j ≠ 49 → j ≠ 50 → j ≠ 51 → zI S4 j = zI S j := fun j a b c d e f g => funext fun k => F4.2.1 j k a b c d e f g
  have oX : ∀ j, j ≠ 0 → j ≠ 44 → j ≠ 46 → j ≠ 47 → j ≠ 48 → j ≠ 49 → j ≠ 50 → j ≠ 51 → zI X j = zI S j := fun j z a b c d e f g => funext fun k => by rw [eX, qIIo _ _ (by omega), qIIo _ _ (by omega), o4 j a b c d e f g]
  have oX4 : ∀ j, j ≠ 0 → j ≠ 44 → zI X j = zI S4 j := fun j z a => funext fun k => by rw [eX, qIIo _ _ (by omega), qIIo _ _ (by omega)]
  have hX2 : X.2 = S.2 := by rw [eX]; exact F4.1
  have hXR : zR X = zR S := by unfold zR; rw [hX2]
  have hXL : zL X = zL S := by unfold zL; rw [hX2]
  have hXA : zA X = zA S := by unfold zA; rw [hX2]
  have hXN : zN X = zN S := by unfold zN; rw [hX2]
  obtain ⟨q, eq⟩ : ∃ q, q = zN S := ⟨_, rfl⟩
  rw [← eq] at hX hXN
  have h98 : 98 ≤ q := by
    have := s3.1
    have e0 : zN0 = 98 := rfl
    omega
  have h5 : (q - 98) % 5 = 0 := by rw [eq]; exact s8.1
  have hK := zK_10 h5 h98
  obtain ⟨S8, c1, c2, c3, c4, c5⟩ := copied_is fu hfu (S := X) (q := q) hXN.symm h5 h98 hX (zSR_e s3 (by rw [hX2])) (by rw [hXA]; exact s4) (cls := cls.map xcO) (zTx_f hTx (fun j a b => oX4 j (by omega) (by omega)) (by rw [hXA, show zA S4 = zA S by unfold zA; rw [F4.1]])) (by rw [oX4 47 (by omega) (by omega)]; exact hb)
  have r8 : ∀ j, j < q → zI S8 j = zI X j := fun j hj => (c2.2 j hj).1
  obtain ⟨S1, eS1⟩ : ∃ S1, S1 = zwI (zwI (zwR S8 6 len (some q)) 1 12 (nI (len + 1))) 0 19 0 := ⟨_, rfl⟩
  have i1 : ∀ j, j ≠ 0 → j ≠ 1 → zI S1 j = zI S8 j := fun j a b => funext fun k => by
    rw [eS1, qIIo _ _ (by omega), qIIo _ _ (by omega)]
    rfl
  have o1 : ∀ j, j < 98 → j ≠ 0 → j ≠ 1 → j ≠ 44 → j ≠ 46 → j ≠ 47 → j ≠ 48 → j ≠ 49 → j ≠ 50 → j ≠ 51 → zI S1 j = zI S j := fun j hj z y a b c d e f g => by rw [i1 j z y, r8 j (by omega), oX j z a b c d e f g]
  have hB : zMt S1 (zI S 79) T := ⟨fun k _ => by rw [o1 79 (by omega) (by omega) (by omega) (by omega) (by omega) (by omega) (by omega) (by omega) (by omega) (by omega)], hT, by
    unfold zW8
    rw [o1 78 (by omega) (by omega) (by omega) (by omega) (by omega) (by omega) (by omega) (by omega) (by omega) (by omega)]
    exact hs.2.1⟩
  have o172 : zI S1 72 = zI S 72 := o1 72 (by omega) (by omega) (by omega) (by omega) (by omega) (by omega) (by omega) (by omega) (by omega) (by omega)
  have o174 : zI S1 74 = zI S 74 := o1 74 (by omega) (by omega) (by omega) (by omega) (by omega) (by omega) (by omega) (by omega) (by omega) (by omega)
  obtain ⟨N', r', S5, e5, F5, hN', g13, g18, gMS, gE⟩ := reads_is fu (by omega) (n := 401) (Nat.le_refl _) false hB (by rw [o172]; exact h13)
  have eN := tNo_1 hN' hN
  subst eN
  rw [hR] at gE
  obtain ⟨gr, g14⟩ := gE
  have o5 : ∀ j, j ≠ 72 → j ≠ 81 → j ≠ 82 → j ≠ 83 → zI S5 j = zI S1 j := fun j a b c d => funext fun k => F5.2 j k b c d (by omega)
  have h574 : zI S5 74 = zI S 74 := by rw [o5 74 (by omega) (by omega) (by omega) (by omega), o174]
  obtain ⟨S7, l1, l2, l3, l4, l5, l6⟩ := m_lays fu (by omega) hN4 (Nat.le_of_lt h6) g18
  obtain ⟨S2, eS2⟩ : ∃ S2, S2 = zwI (zwI S7 74 198 (nI (len + 1))) 72 0 0 := ⟨_, rfl⟩
  have i2 : ∀ j, j ≠ 72 → j ≠ 74 → zI S2 j = zI S7 j := fun j a b => funext fun k => by rw [eS2, qIIo _ _ (by omega), qIIo _ _ (by omega)]
  have oZ : ∀ j, j ≠ 72 → j ≠ 74 → j ≠ 81 → j ≠ 82 → j ≠ 83 → zI S2 j = zI S1 j := fun j a b c d e => by
    rw [i2 j a b, show zI S7 j = zI S5 j from funext fun k => l3 j k b, o5 j a c d e]
  have oW : ∀ j, j < 98 → j ≠ 0 → j ≠ 1 → j ≠ 44 → j ≠ 46 → j ≠ 47 → j ≠ 48 → j ≠ 49 → j ≠ 50 → j ≠ 51 → j ≠ 72 → j ≠ 74 → j ≠ 81 → j ≠ 82 → j ≠ 83 → zI S2 j = zI S j := fun j hj z y a b c d e f g x1 x2 x3 x4 x5 => by rw [oZ j x1 x2 x3 x4 x5, o1 j hj z y a b c d e f g]
  have h22 : S2.2 = S1.2 := by rw [eS2]; show S7.2 = S1.2; rw [l2, F5.1]
  have h1L : zL S1 = zL S8 := by rw [eS1]; rfl
  have h1A : zA S1 = zA S8 := by rw [eS1]; rfl
  have h1N : zN S1 = zN S8 := by rw [eS1]; rfl
  have h1R : ∀ j k, zR S1 j k = if j = 6 ∧ k = len then some q else zR S8 j k := fun j k => by rw [eS1]; rfl
  have h2L : zL S2 = zL S8 := by rw [show zL S2 = zL S1 by unfold zL; rw [h22], h1L]
  have h2A : zA S2 = zA S8 := by rw [show zA S2 = zA S1 by unfold zA; rw [h22], h1A]
  have h2N : zN S2 = q + 5 := by rw [show zN S2 = zN S1 by unfold zN; rw [h22], h1N, c3]
  have h2R : ∀ j k, zR S2 j k = if j = 6 ∧ k = len then some q else zR S8 j k := fun j k => by rw [show zR S2 = zR S1 by unfold zR; rw [h22], h1R]
  have kL : ∀ j, j < q → zL S2 j = zL S j := fun j hj => by rw [h2L, (c2.2 j hj).2.1, hXL]
  have kA : ∀ j, j < q → zA S2 j = zA S j := fun j hj => by rw [h2A, (c2.2 j hj).2.2.2, hXA]
  have kR : ∀ j k, j < q → ¬ (j = 6 ∧ k = len) → zR S2 j k = zR S j k := fun j k hj hn => by rw [h2R, if_neg hn, (c2.2 j hj).2.2.1, hXR]
  have kRf : ∀ j, j < q → j ≠ 6 → zR S2 j = zR S j := fun j hj hn => funext fun k => kR j k hj (fun e => hn e.1)
  have kT : ∀ j, 98 ≤ j → j < q → zI S2 j = zI S j ∧ zA S2 j = zA S j := fun j a b => ⟨by rw [oZ j (by omega) (by omega) (by omega) (by omega) (by omega), i1 j (by omega) (by omega), r8 j b, oX j (by omega) (by omega) (by omega) (by omega) (by omega) (by omega) (by omega) (by omega)], kA j b⟩
  have h72 : ∀ k, k ≠ 0 → ¬ (8 ≤ k ∧ k ≤ 21) → zI S2 72 k = zI S 72 k := fun k hk hk2 => by
    rw [eS2, qIIo _ _ (by omega), qIIo _ _ (by omega), l3 72 k (by omega), F5.2 72 k (by omega) (by omega) (by omega) (by omega), o172]
  have h72b : ∀ k, 8 ≤ k → zI S2 72 k = zI S5 72 k := fun k hk => by
    rw [eS2, qIIo _ _ (by omega), qIIo _ _ (by omega), l3 72 k (by omega)]
  have hz1 : ∀ k, k ≠ 12 → zI S2 1 k = zI S 1 k := fun k hk => by
    rw [oZ 1 (by omega) (by omega) (by omega) (by omega) (by omega), eS1, qIIo _ _ (by omega), qIIo _ _ (by omega)]
    show zI S8 1 k = _
    rw [r8 1 (by omega), oX 1 (by omega) (by omega) (by omega) (by omega) (by omega) (by omega) (by omega) (by omega)]
  have hz12 : zI S2 1 12 = nI (len + 1) := by
    rw [oZ 1 (by omega) (by omega) (by omega) (by omega) (by omega), eS1, qIIo _ _ (by omega), qIIs]
  have h0 : ∀ k, k ≠ 17 → k ≠ 19 → zI S2 0 k = zI S 0 k := fun k a b => by
    rw [oZ 0 (by omega) (by omega) (by omega) (by omega) (by omega), eS1, qIIo _ _ (by omega), qIIo _ _ (by omega)]
    show zI S8 0 k = _
    rw [r8 0 (by omega), eX, qIIo _ _ (by omega), qIIo _ _ (by omega), o4 0 (by omega) (by omega) (by omega) (by omega) (by omega) (by omega) (by omega)]
  have h017 : zI S2 0 17 = -1 := by
    rw [oZ 0 (by omega) (by omega) (by omega) (by omega) (by omega), eS1, qIIo _ _ (by omega), qIIo _ _ (by omega)]
    show zI S8 0 17 = _
    rw [r8 0 (by omega), eX, qIIo _ _ (by omega), qIIs]
  have h019 : zI S2 0 19 = 0 := by rw [oZ 0 (by omega) (by omega) (by omega) (by omega) (by omega), eS1, qIIs]
  have h44 : zI S2 44 1 = 0 := by rw [oZ 44 (by omega) (by omega) (by omega) (by omega) (by omega), i1 44 (by omega) (by omega), r8 44 (by omega), eX, qIIs]
  have kTq : zTx S2 q 7 (cls.map xcO) := zTx_f c5 (fun j a b => by rw [oZ j (by omega) (by omega) (by omega) (by omega) (by omega), i1 j (by omega) (by omega)]) (by rw [h2A])
  have hz74 : ∀ k, k ≠ 198 → k ≠ 200 + len → ¬ (207 + 400 * len ≤ k ∧ k < 207 + 400 * len + N') → ¬ (3007 + 400 * len ≤ k ∧ k < 3007 + 400 * len + N') → zI S2 74 k = zI S 74 k := fun k a b c d => by
    rw [eS2, qIIo _ _ (by omega), qIIo _ _ (by omega), l4 k b c d, h574]
  have hz74b : ∀ k, k ≠ 198 → zI S2 74 k = zI S7 74 k := fun k a => by rw [eS2, qIIo _ _ (by omega), qIIo _ _ (by omega)]
  refine ⟨nI len, S1, S2, ?_, ?_, ?_, by rw [h2N]; omega, by rw [h2N]; omega⟩
  · have e4' : f_Re_faultIn fu 0 S = some (-1, S4) := e4
    have x17 : zI X 0 17 = -1 := by rw [eX, qIIo _ _ (by omega), qIIs]
    have a12 : zI S8 1 12 = nI len := by rw [r8 1 (by omega), oX 1 (by omega) (by omega) (by omega) (by omega) (by omega) (by omega) (by omega) (by omega)]; exact h12
    have eA : f_Ps_addLaw 1 (some q) S8 = some (nI len, zwI (zwR S8 6 len (some q)) 1 12 (nI (len + 1))) := by
      unfold f_Ps_addLaw
      rw [a12, if_neg (n_neg (by omega)), if_pos (show nI len < 6 from (n_lt (b := 6) (by omega) (by omega)).mpr h6), n_gd (by omega) (by omega), q_cl (by omega), n_1]
      show (if zK q = 10 ∧ q < zN S8 then some (nI len, zwI (zwR S8 (1 + 5) len (some q)) 1 12 (nI (len + 1))) else none) = _
      rw [if_pos ⟨hK.1, by omega⟩]
    unfold f_E_law
    rw [h12, if_pos (show nI len < 6 from (n_lt (b := 6) (by omega) (by omega)).mpr h6), qb2 e4', ← eX, if_pos x17, qb2 c1, qb2 eA]
    unfold f_E_granted
    rw [qb2s, eS1]
  · have e5' : f_M_readsAs fu 0 S1 = some (1, S5) := by rw [gr] at e5; exact e5
    have e7 : zI S7 74 198 = nI len := by rw [l4 198 (by omega) (by omega) (by omega), h574]; exact h198
    unfold f_M_law
    rw [show (198 : Int32).toNatClampNeg = 198 from rfl, o174, h198, if_neg (show ¬ nI len = 6 from fun h => absurd ((n_eq (b := 6) (by omega) (by omega)).mp h) (by omega)), qb2 e5', if_neg (by decide), h574, h198, qb1 l1, e7, n_1, qIIs]
    unfold f_M_good
    rw [qb2s, eS2, show nI (len + 1) - 1 = nI len by rw [show (1 : Int32) = nI 1 from rfl, n_sub (by omega), Nat.add_sub_cancel]]
  · have elw : (pLw (pAdd P cls)) = pLw P ++ [cls] := rfl
    have elenA : (pLw (pAdd P cls)).length = len + 1 := by rw [elw, List.length_append, ← elen]; rfl
    have hgl : ∀ (t : Nat) cl, (pLw (pAdd P cls))[t]? = some cl → (t < len ∧ (pLw P)[t]? = some cl) ∨ (t = len ∧ cl = cls) := fun t cl ht => by
      rw [elw] at ht
      by_cases e : t < len
      · rw [List.getElem?_append_left (by rw [← elen]; exact e)] at ht
        exact Or.inl ⟨e, ht⟩
      · have hlt := (List.getElem?_eq_some_iff.mp ht).1
        rw [List.length_append, ← elen] at hlt
        have hlt' : t < len + 1 := hlt
        have e2 : t = len := by omega
        rw [e2, elen, List.getElem?_append_right (Nat.le_refl _), Nat.sub_self] at ht
        exact Or.inr ⟨e2, by injection ht with ht; exact ht.symm⟩
    refine ⟨pAdd P cls, es, pOK_add hP cls (by rw [← elen]; exact h6), ?_, ?_, ?_, ?_, ?_, ?_, ?_, ?_⟩
    · -- the class's parish
      obtain ⟨q1, q2, q3, q4, q5, q6, q7, q8, q9, q10, q11, q12, q13, q14, q15⟩ := hc
      have w2 : zI S2 2 = zI S 2 := oW 2 (by omega) (by omega) (by omega) (by omega) (by omega) (by omega) (by omega) (by omega) (by omega) (by omega) (by omega) (by omega) (by omega) (by omega) (by omega)
      have w3 : zI S2 3 = zI S 3 := oW 3 (by omega) (by omega) (by omega) (by omega) (by omega) (by omega) (by omega) (by omega) (by omega) (by omega) (by omega) (by omega) (by omega) (by omega) (by omega)
      have w4 : zI S2 4 = zI S 4 := oW 4 (by omega) (by omega) (by omega) (by omega) (by omega) (by omega) (by omega) (by omega) (by omega) (by omega) (by omega) (by omega) (by omega) (by omega) (by omega)
      have w5 : zI S2 5 = zI S 5 := oW 5 (by omega) (by omega) (by omega) (by omega) (by omega) (by omega) (by omega) (by omega) (by omega) (by omega) (by omega) (by omega) (by omega) (by omega) (by omega)
      unfold cRep
      rw [hz1 0 (by omega), hz1 5 (by omega), hz1 6 (by omega), hz1 7 (by omega), hz1 8 (by omega), hz1 9 (by omega), hz1 14 (by omega), hz12, kL 1 (by omega), elenA, w2, w3, w4, w5]
      refine ⟨q1, q2, q3, q4, q5, q6, q7, q8, q9, q10, q11, q12, rfl, fun t cl ht => ?_, q15⟩
      rcases hgl t cl ht with ⟨htl, ht⟩ | ⟨rfl, rfl⟩
      · obtain ⟨p, y1, y2, y3, y4, y5⟩ := q14 t cl ht
        exact ⟨p, by rw [kR _ _ (by omega) (by omega)]; exact y1, y2, y3, by omega, zTx_f y5 (fun j a b => (kT j (by omega) (by omega)).1) (kT _ (by omega) (by omega)).2⟩
      · exact ⟨q, by rw [h2R, if_pos ⟨rfl, rfl⟩], hK.1, h98, by omega, kTq⟩
    · -- the reference's row
      obtain ⟨p1, p2, p3, p4, p5, p6, p7, p8, p9, p10, p11, p12, p13, p14, p15, p16⟩ := id hP
      obtain ⟨q1, q2, q3, q4, q5, q6, q7, q8, q9, q10, q11, q12, q13, q14⟩ := hm
      refine ⟨?_, fun s hs => ?_, fun a c ha hc hac => ?_, fun s hs => ?_, fun a c ha hc hac => ?_, ?_, ?_, ?_, ?_, ?_, fun i x hx => ?_, ?_, fun t cl ht => ?_, ?_⟩
      · rw [hz74 _ (by omega) (by omega) (by omega) (by omega)]; exact q1
      · have hs' : s < pN P := hs
        rw [hz74 _ (by omega) (by omega) (by omega) (by omega)]; exact q2 s hs
      · rw [hz74 _ (by omega) (by omega) (by omega) (by omega)]; exact q3 a c ha hc hac
      · have hs' : s < pN P := hs
        rw [hz74 _ (by omega) (by omega) (by omega) (by omega)]; exact q4 s hs
      · rw [hz74 _ (by omega) (by omega) (by omega) (by omega)]; exact q5 a c ha hc hac
      · rw [hz74 _ (by omega) (by omega) (by omega) (by omega)]; exact q6
      · rw [hz74 _ (by omega) (by omega) (by omega) (by omega)]; exact q7
      · rw [hz74 _ (by omega) (by omega) (by omega) (by omega)]; exact q8
      · rw [hz74 _ (by omega) (by omega) (by omega) (by omega)]; exact q9
      · rw [hz74 _ (by omega) (by omega) (by omega) (by omega)]; exact q10
      · have hx' : (pHd P)[i]? = some x := hx
        have hi' := (List.getElem?_eq_some_iff.mp hx').1
        rw [hz74 _ (by omega) (by omega) (by omega) (by omega), hz74 _ (by omega) (by omega) (by omega) (by omega)]; exact q11 i x hx
      · rw [elenA, eS2, qIIo _ _ (by omega), qIIs]
      · rcases hgl t cl ht with ⟨htl, ht⟩ | ⟨rfl, rfl⟩
        · obtain ⟨C, V, M, n, y1, y2, y3, y4, y5, y6, y7⟩ := q13 t cl ht
          refine ⟨C, V, M, n, y1, y2, ?_, fun k hk => ?_, y5, y6, y7⟩
          · rw [hz74 _ (by omega) (by omega) (by omega) (by omega)]; exact y3
          · rw [hz74 _ (by omega) (by omega) (by omega) (by omega), hz74 _ (by omega) (by omega) (by omega) (by omega)]; exact y4 k hk
        · obtain ⟨m1, m2, m3, m4, m5⟩ := gMS
          refine ⟨tC (zI S 79) T, tV (zI S 79) T, N', 401, hN4, Nat.le_refl _, ?_, fun k hk => ?_, fun k hk => tC_end hN hk, tV_0 _ _, hR⟩
          · rw [Nat.zero_add, hz74b _ (by omega)]; exact l5
          · obtain ⟨w1, w2⟩ := l6 k hk
            rw [Nat.zero_add, Nat.zero_add, hz74b _ (by omega), hz74b _ (by omega), show 207 + (400 * t + k) = 207 + 400 * t + k by omega, show 3007 + (400 * t + k) = 3007 + 400 * t + k by omega, w1, w2]
            exact ⟨(m4 k (by omega)).1, m5 k hk⟩
      · rw [hz74 _ (by omega) (by omega) (by omega) (by omega)]; exact q14
    · -- the journal
      refine jRel_f (jRel_P hj rfl (fun m hm => ?_)) (fun j a => oW j (by omega) (by omega) (by omega) (by omega) (by omega) (by omega) (by omega) (by omega) (by omega) (by omega) (by omega) (by omega) (by omega) (by omega) (by omega)) (h72 32 (by omega) (by omega)) (fun j a => kL j (by omega))
      exact pOK_add hm cls (by show (pLw P).length < 6; rw [← elen]; exact h6)
    · -- images
      intro k hk
      have w20 : ∀ d, d ≤ 5 → zI S2 (20 + 6 * k + d) = zI S (20 + 6 * k + d) := fun d hd => oW _ (by omega) (by omega) (by omega) (by omega) (by omega) (by omega) (by omega) (by omega) (by omega) (by omega) (by omega) (by omega) (by omega) (by omega) (by omega)
      have w76 : zI S2 76 = zI S 76 := oW 76 (by omega) (by omega) (by omega) (by omega) (by omega) (by omega) (by omega) (by omega) (by omega) (by omega) (by omega) (by omega) (by omega) (by omega) (by omega)
      have w75 : zI S2 75 = zI S 75 := oW 75 (by omega) (by omega) (by omega) (by omega) (by omega) (by omega) (by omega) (by omega) (by omega) (by omega) (by omega) (by omega) (by omega) (by omega) (by omega)
      have w0 := w20 0 (by omega)
      rw [Nat.add_zero] at w0
      rw [w0, w76]
      rcases hi k hk with hk2 | ⟨k1, k2, P', k3, k4, k5⟩
      · exact Or.inl hk2
      · refine Or.inr ⟨k1, k2, P', k3, cRep_f k4 (fun j a b => ?_) (kL _ (by omega)) (kRf _ (by omega) (by omega)) (by rw [h2N, ← eq]; omega) (fun j a b => kT j a (by omega)), mRep_f k5 (fun _ _ => by rw [w75]) k3⟩
        have := w20 (j - (20 + 6 * k)) (by omega)
        rw [show 20 + 6 * k + (j - (20 + 6 * k)) = j by omega] at this
        exact this
    · -- the tape
      exact ⟨0, by omega, by rw [h44]; rfl, by rw [h72b 13 (by omega), g13]; rfl, fun k hk => absurd hk (by omega)⟩
    · -- the counts
      obtain ⟨m1, m2, m3, m4, m5, m6, m7, m8, m9⟩ := hms
      have w71 : zI S2 71 = zI S 71 := oW 71 (by omega) (by omega) (by omega) (by omega) (by omega) (by omega) (by omega) (by omega) (by omega) (by omega) (by omega) (by omega) (by omega) (by omega) (by omega)
      have w73 : zI S2 73 = zI S 73 := oW 73 (by omega) (by omega) (by omega) (by omega) (by omega) (by omega) (by omega) (by omega) (by omega) (by omega) (by omega) (by omega) (by omega) (by omega) (by omega)
      unfold iMs
      rw [w71, w73, h019, h017, h0 16 (by omega) (by omega), h0 18 (by omega) (by omega), h72 6 (by omega) (by omega), h72 41 (by omega) (by omega), h72b 14 (by omega), g14]
      exact ⟨by rw [eS2, qIIs], m2, rfl, m4, m5, m6, m7, m8, m9⟩
    · -- what was drawn
      have w13 : zI S2 13 = zI S 13 := oW 13 (by omega) (by omega) (by omega) (by omega) (by omega) (by omega) (by omega) (by omega) (by omega) (by omega) (by omega) (by omega) (by omega) (by omega) (by omega)
      have w97 : zI S2 97 = zI S 97 := oW 97 (by omega) (by omega) (by omega) (by omega) (by omega) (by omega) (by omega) (by omega) (by omega) (by omega) (by omega) (by omega) (by omega) (by omega) (by omega)
      unfold iDr
      rw [w13, w97, h72 49 (by omega) (by omega), kL 13 (by omega)]
      exact hd
    · -- what stands
      have w54 : zI S2 54 = zI S 54 := oW 54 (by omega) (by omega) (by omega) (by omega) (by omega) (by omega) (by omega) (by omega) (by omega) (by omega) (by omega) (by omega) (by omega) (by omega) (by omega)
      have w78 : zI S2 78 = zI S 78 := oW 78 (by omega) (by omega) (by omega) (by omega) (by omega) (by omega) (by omega) (by omega) (by omega) (by omega) (by omega) (by omega) (by omega) (by omega) (by omega)
      have w69 : zI S2 69 = zI S 69 := oW 69 (by omega) (by omega) (by omega) (by omega) (by omega) (by omega) (by omega) (by omega) (by omega) (by omega) (by omega) (by omega) (by omega) (by omega) (by omega)
      refine ⟨⟨by rw [kA 54 (by omega)]; exact s1.1, by rw [w54]; exact s1.2⟩, by unfold zW8; rw [w78]; exact s2, ?_, by rw [kA 51 (by omega)]; exact s4, by rw [w69]; exact s5, by rw [kR _ _ (by omega) (by omega)]; exact s6, by rw [kR _ _ (by omega) (by omega)]; exact s7, ?_⟩
      · have e2 : zSR S1 → zSR S2 := fun h => zSR_e h (by rw [h22])
        refine e2 (zSR_same (S := S8) h1N h1A (fun i hi k => ?_) c4)
        rw [h1R, if_neg (fun e => by rw [e.1] at hi; exact absurd hi (by decide))]
      · refine ⟨by rw [h2N]; omega, fun o ho t p ht hp => ?_⟩
        rw [h2N]
        rw [h2R] at hp
        by_cases e : o + 5 = 6 ∧ t = len
        · rw [if_pos e] at hp
          injection hp with hp
          rw [← hp]
          exact ⟨hK.1, by omega⟩
        · rw [if_neg e, (c2.2 (o + 5) (by omega)).2.2.1, hXR] at hp
          have := s8.2 o ho t p ht hp
          exact ⟨this.1, by omega⟩
theorem call_law (fu : Nat) (hfu : 1000 ≤ fu) {S : zSt} (h : Inv S) (hX : zN S + 5 ≤ zX) : cOk (f_E_law fu) (f_M_law fu) S := by
  obtain ⟨P, es, hP, hc, hm, hj, hi, ht, hms, hd, hs⟩ := id h
  obtain ⟨T, t1, t2, t3, t4⟩ := ht
  have h6 := hP.2.2.2.2.2.2.2.2.2.2.2.2.2.2.1
  by_cases h6' : (pLw P).length = 6
  · exact law_many h fu hP hc hm h6'
  · have hMt : zMt S (zI S 79) T := ⟨fun k _ => rfl, t1, hs.2.1⟩
    obtain ⟨N, r0, S0, _, _, hN, _, _, hMS, _⟩ := reads_is fu (by omega) (n := 401) (Nat.le_refl _) false hMt t3
    obtain ⟨r, S4, e4, F4, hb, hO⟩ := fault_is fu (by omega) (n := 401) false (⟨t2, t1, fun k hk => (t4 k hk).1⟩ : zTp S (zI S 79) T) hs.2.2.2.1 (za_50 hs.2.2.1) (Nat.le_refl _) hN
    cases hR : ltx false (tC (zI S 79) T) (tV (zI S 79) T) 401 N 12 0 0 [] with
    | inl j =>
      rw [hR] at hO
      exact law_fault h fu hfu hP hc hm (by omega) hj hi hms hd hs t1 t3 hN e4 F4 hR hO
    | inr cls =>
      rw [hR] at hO
      obtain ⟨hr, hTx⟩ := hO
      subst hr
      exact law_good h hX fu hfu hP hc hm (by omega) hj hi hms hd hs t1 t3 hN hMS.1 e4 F4 hb hR hTx

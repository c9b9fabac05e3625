/-! image, back -/
theorem iSt_cp {S Z : zSt} {a0 a1 : Nat} (h : iSt S) (hA : zA Z = zA S) (hN : zN Z = zN S) (h54 : ∀ k, 7 ≤ k → zI Z 54 k = zI S 54 k) (h69 : ∀ k, 23 ≤ k → zI Z 69 k = zI S 69 k) (h78 : zI Z 78 = zI S 78) (hR : ∀ j k, zR Z j k = if j = a0 + 5 ∧ k < 6 then zR S (a1 + 5) k else zR S j k) (o0 : a0 = 1 ∨ a0 = 13 ∨ a0 = 20 ∨ a0 = 26) (o1 : a1 = 1 ∨ a1 = 13 ∨ a1 = 20 ∨ a1 = 26) : iSt Z := by
  obtain ⟨h1, h2, h3, h4, h5, h6, h7, h8⟩ := h
  have k5 : ¬ zK (a0 + 5) < 12 := by rcases o0 with rfl | rfl | rfl | rfl <;> decide
  refine ⟨⟨by rw [hA]; exact h1.1, fun k hk => by rw [h54 k hk]; exact h1.2 k hk⟩, ?_, ?_, by rw [hA]; exact h4, fun k hk => by rw [h69 k hk]; exact h5 k hk, ?_, ?_, ?_, ?_⟩
  · unfold zW8
    rw [h78]
    exact h2
  · obtain ⟨z1, z2, z3⟩ := h3
    refine ⟨by rw [hN]; exact z1, by rw [hN]; exact z2, fun i hi hk k o n ho => ?_⟩
    rw [hN] at hi ⊢
    rw [hA, hR, if_neg (fun e => k5 (by rw [← e.1]; exact hk))]
    exact z3 i hi hk k o n ho
  · rw [hR, if_neg (by rcases o0 with rfl | rfl | rfl | rfl <;> decide)]; exact h6
  · rw [hR, if_neg (by rcases o0 with rfl | rfl | rfl | rfl <;> decide)]; exact h7
  · rw [hN]; exact h8.1
  · intro o ho t q ht hq
    rw [hN]
    rw [hR] at hq
    by_cases c : o + 5 = a0 + 5 ∧ t < 6
    · rw [if_pos c] at hq
      exact h8.2 a1 (by omega) t q ht hq
    · rw [if_neg c] at hq
      exact h8.2 o ho t q ht hq
theorem image_17 (fu : Nat) {k : Nat} (hk : k < 2) : ∀ (m i n : Nat) (S : zSt), i + m = 5807 → m + 1 ≤ n → ∃ S1, f_M_image_17 fu n (nI k) (nI i) S = f_M_image_48 fu (nI k) S1 ∧ oR 75 S S1 ∧ ∀ c, zI S1 75 c = if 5807 * k + i ≤ c ∧ c < 5807 * k + 5807 then zI S 74 (c - 5807 * k) else zI S 75 c := by
  intro m
  induction m with
  | zero =>
    intro i n S h1 h2
    obtain ⟨n', rfl⟩ : ∃ n', n = n' + 1 := ⟨n - 1, by omega⟩
    refine ⟨S, ?_, oR_r _ S, fun c => by rw [if_neg (by omega)]⟩
    unfold f_M_image_17
    rw [if_pos (show (5807 : Int32) ≤ nI i from (n_le (a := 5807) (by omega) (by omega)).mpr (by omega))]
  | succ m ih =>
    intro i n S h1 h2
    obtain ⟨n', rfl⟩ : ∃ n', n = n' + 1 := ⟨n - 1, by omega⟩
    obtain ⟨S1, g1, g2, g3⟩ := ih (i + 1) n' (zwI S 75 (5807 * k + i) (zI S 74 i)) (by omega) (by omega)
    refine ⟨S1, ?_, oR_t (oR_w _ _ _ _) g2, fun c => ?_⟩
    · rw [← g1]
      obtain ⟨K, eK⟩ : ∃ K, K = f_M_image_17 fu n' := ⟨_, rfl⟩
      rw [← eK]
      unfold f_M_image_17
      rw [if_neg (show ¬ (5807 : Int32) ≤ nI i from fun h => absurd ((n_le (a := 5807) (by omega) (by omega)).mp h) (by omega)), show (5807 : Int32) * nI k + nI i = nI (5807 * k + i) by rw [show (5807 : Int32) = nI 5807 from rfl, n_mul, n_add], n_gd (by omega) (by omega), n_gd (by omega) (by omega), q_cl (by omega), q_cl (by omega), n_1, ← eK]
    · rw [g3]
      by_cases x : 5807 * k + (i + 1) ≤ c ∧ c < 5807 * k + 5807
      · rw [if_pos x, if_pos (by omega), qIIo _ _ (by omega)]
      · rw [if_neg x, qII]
        by_cases x2 : c = 5807 * k + i
        · rw [if_pos ⟨rfl, x2⟩, if_pos (by omega), show c - 5807 * k = i by omega]
        · rw [if_neg (fun h => x2 h.2), if_neg (by omega)]
theorem back_33 (fu : Nat) {k : Nat} (hk : k < 2) : ∀ (m i n : Nat) (S : zSt), i + m = 5807 → m + 1 ≤ n → ∃ S1, f_M_back_33 fu n (nI k) (nI i) S = zb2 (f_M_settled 0 S1) (fun r3 S4 => some (r3, S4)) ∧ oR 74 S S1 ∧ ∀ c, zI S1 74 c = if i ≤ c ∧ c < 5807 then zI S 75 (5807 * k + c) else zI S 74 c := by
  intro m
  induction m with
  | zero =>
    intro i n S h1 h2
    obtain ⟨n', rfl⟩ : ∃ n', n = n' + 1 := ⟨n - 1, by omega⟩
    refine ⟨S, ?_, oR_r _ S, fun c => by rw [if_neg (by omega)]⟩
    unfold f_M_back_33
    rw [if_pos (show (5807 : Int32) ≤ nI i from (n_le (a := 5807) (by omega) (by omega)).mpr (by omega))]
  | succ m ih =>
    intro i n S h1 h2
    obtain ⟨n', rfl⟩ : ∃ n', n = n' + 1 := ⟨n - 1, by omega⟩
    obtain ⟨S1, g1, g2, g3⟩ := ih (i + 1) n' (zwI S 74 i (zI S 75 (5807 * k + i))) (by omega) (by omega)
    refine ⟨S1, ?_, oR_t (oR_w _ _ _ _) g2, fun c => ?_⟩
    · rw [← g1]
      obtain ⟨K, eK⟩ : ∃ K, K = f_M_back_33 fu n' := ⟨_, rfl⟩
      rw [← eK]
      unfold f_M_back_33
      rw [if_neg (show ¬ (5807 : Int32) ≤ nI i from fun h => absurd ((n_le (a := 5807) (by omega) (by omega)).mp h) (by omega)), show (5807 : Int32) * nI k + nI i = nI (5807 * k + i) by rw [show (5807 : Int32) = nI 5807 from rfl, n_mul, n_add], n_gd (by omega) (by omega), n_gd (by omega) (by omega), q_cl (by omega), q_cl (by omega), n_1, ← eK]
    · rw [g3]
      by_cases x : i + 1 ≤ c ∧ c < 5807
      · rw [if_pos x, if_pos (by omega), qIIo _ _ (by omega)]
      · rw [if_neg x, qII]
        by_cases x2 : c = i
        · rw [if_pos ⟨rfl, x2⟩, if_pos (by omega), x2]
        · rw [if_neg (fun h => x2 h.2), if_neg (by omega)]
theorem cRep_g {Y Z : zSt} {q : Nat} {P : zP} (h : cRep Y q P) (hI : ∀ k, k ≠ 15 → zI Z q k = zI Y q k) (hJ : ∀ j, q < j → j ≤ q + 4 → zI Z j = zI Y j) (hL : zL Z q = zL Y q) (h2 : Z.2 = Y.2) (hT : ∀ j, 98 ≤ j → zI Z j = zI Y j) : cRep Z q P := by
  have hR : zR Z = zR Y := by unfold zR; rw [h2]
  have hN : zN Z = zN Y := by unfold zN; rw [h2]
  have hA : zA Z = zA Y := by unfold zA; rw [h2]
  obtain ⟨g1, g2, g3, g4, g5, g6, g7, g8, g9, g10, g11, g12, g13, g14, g15⟩ := h
  unfold cRep
  rw [hI 0 (by omega), hI 5 (by omega), hI 6 (by omega), hI 7 (by omega), hI 8 (by omega), hI 9 (by omega), hI 12 (by omega), hI 14 (by omega), hJ (q + 1) (by omega) (by omega), hJ (q + 2) (by omega) (by omega), hJ (q + 3) (by omega) (by omega), hJ (q + 4) (by omega) (by omega), hL, hR, hN]
  refine ⟨g1, g2, g3, g4, g5, g6, g7, g8, g9, g10, g11, g12, g13, fun t cls ht => ?_, g15⟩
  obtain ⟨x, x1, x2, x3, x4, x5⟩ := g14 t cls ht
  exact ⟨x, x1, x2, x3, x4, zTx_f x5 (fun j a b => hT j (by omega)) (by rw [hA])⟩
theorem call_image (fu : Nat) (hfu : 10000 ≤ fu) {S : zSt} (h : Inv S) (a : Int32) : cOk (f_E_image fu a) (f_M_image fu a) S := by
  obtain ⟨P, es, hP, hc, hm, hj, hi, ht, hms, hd, hs⟩ := id h
  rcases rng_or a 0 1 with ⟨k, -, hk1, rfl⟩ | ha
  · have hk : k < 2 := by omega
    obtain ⟨q, eq⟩ : ∃ q, q = 20 + 6 * k := ⟨_, rfl⟩
    have hq2 : q = 20 ∨ q = 26 := by omega
    have r19 : zR S 19 k = some q := by
      rcases (by omega : k = 0 ∨ k = 1) with rfl | rfl
      · rw [eq]; exact hs.2.2.2.2.2.1
      · rw [eq]; exact hs.2.2.2.2.2.2.1
    have kq : zK q = 5 ∧ q < zN0 := by rcases hq2 with rfl | rfl <;> decide
    obtain ⟨Y, y1, y2, y3, y4, y5⟩ := copy_ok fu (by omega) (S := S) (a0 := q) (a1 := 1) (by omega) (fun t x ht hx => hs.2.2.2.2.2.2.2.2 1 (by omega) t x ht hx)
    have hcY : cRep Y q P := cRep_copy hP hc y2 (by omega) y3 y4 y5
    have YI : ∀ j c, j < q ∨ q + 4 < j → zI Y j c = zI S j c := fun j c hj => (y2 j c).2 (fun x => by have := (y2 j c).1 x; omega)
    have Y15 : ∀ c, c = 15 → zI Y q c = zI S q c := fun c hc15 => (y2 q c).2 (fun x => by unfold cpC at x; simp only [hc15] at x; simp at x)
    obtain ⟨X, eX⟩ : ∃ X, X = zwI (zwI Y q 15 1) 0 19 0 := ⟨_, rfl⟩
    obtain ⟨S1, g1, g2, g3⟩ := image_17 fu hk 5807 0 fu X (by omega) (by omega)
    obtain ⟨Z, eZ⟩ : ∃ Z, Z = zwI (zwI S1 76 k 1) 72 0 0 := ⟨_, rfl⟩
    have ZI : ∀ j c, (j < q ∨ q + 4 < j) → j ≠ 75 → ¬ (j = 76 ∧ c = k) → ¬ (j = 72 ∧ c = 0) → ¬ (j = 0 ∧ c = 19) → zI Z j c = zI S j c := fun j c h1 h2 h3 h4 h5 => by
      rw [eZ, qIIo _ _ h4, qIIo _ _ h3, g2.2 j c h2, eX, qIIo _ _ h5, qIIo _ _ (by omega), YI j c h1]
    have Zq : ∀ j c, q ≤ j → j ≤ q + 4 → ¬ (j = q ∧ c = 15) → zI Z j c = zI Y j c := fun j c h1 h2 h3 => by
      rw [eZ, qIIo _ _ (by omega), qIIo _ _ (by omega), g2.2 j c (by omega), eX, qIIo _ _ (by omega), qIIo _ _ h3]
    have Zq15 : zI Z q 15 = 1 := by rw [eZ, qIIo _ _ (by omega), qIIo _ _ (by omega), g2.2 q 15 (by omega), eX, qIIo _ _ (by omega), qIIs]
    have Z2 : Z.2 = Y.2 := by
      rw [eZ]
      show S1.2 = Y.2
      rw [g2.1, eX]
      rfl
    have ZL : ∀ j c, zL Z j c = if j = q ∧ (c = 3 ∨ c = 4) then zL S 1 c else zL S j c := fun j c => by unfold zL; rw [Z2]; exact y3 j c
    have ZR : ∀ j c, zR Z j c = if j = q + 5 ∧ c < 6 then zR S (1 + 5) c else zR S j c := fun j c => by unfold zR; rw [Z2]; exact y4 j c
    have ZA : zA Z = zA S := by unfold zA; rw [Z2, y5]
    have ZN : zN Z = zN S := by unfold zN; rw [Z2, y5]
    have Z75 : ∀ c, zI Z 75 c = if 5807 * k ≤ c ∧ c < 5807 * k + 5807 then zI S 74 (c - 5807 * k) else zI S 75 c := fun c => by
      rw [eZ, qIIo _ _ (by omega), qIIo _ _ (by omega), g3, eX, qIIo _ _ (by omega), qIIo _ _ (by omega), qIIo _ _ (by omega), qIIo _ _ (by omega), YI 74 _ (by omega), YI 75 _ (by omega), Nat.add_zero]
    have Z76 : zI Z 76 k = 1 := by rw [eZ, qIIo _ _ (by omega), qIIs]
    have Zrow : ∀ j, (j < q ∨ q + 4 < j) → j ≠ 75 → j ≠ 76 → j ≠ 72 → j ≠ 0 → zI Z j = zI S j := fun j h1 h2 h3 h4 h5 => by funext c; exact ZI j c h1 h2 (by omega) (by omega) (by omega)
    have Z98 : ∀ j, 98 ≤ j → zI Z j = zI S j ∧ zA Z j = zA S j := fun j hj => ⟨Zrow j (by omega) (by omega) (by omega) (by omega) (by omega), by rw [ZA]⟩
    refine ⟨0, X, Z, ?_, ?_, ⟨P, es, hP, ?_, ?_, ?_, ?_, ?_, ?_, ?_, ?_⟩, by rw [ZN]; exact Nat.le_refl _, by rw [ZN]; omega⟩
    · unfold f_E_image
      have r19Y : zR Y 19 k = some q := by rw [y4, if_neg (by omega)]; exact r19
      rw [if_neg (n_neg (by omega)), if_pos (show nI k < 2 from (n_lt (b := 2) (by omega) (by omega)).mpr hk), n_gd (by omega) hk, q_cl (by omega), qb1 r19, qgd kq, qb1 y1, qgd ⟨n_0 (by omega), hk⟩, qb1 r19Y, qgd kq, eX]
      rfl
    · unfold f_M_image
      have l1 : f_M_lies (nI k) 0 1 = some 1 := lies_yes (lo := 0) (hi := 1) (by omega) hk1 (by omega)
      rw [qb1 l1, if_neg (by decide)]
      refine Eq.trans g1 ?_
      unfold f_M_image_48
      rw [n_gd (by omega) hk, q_cl (by omega), eZ]
      rfl
    · exact cRep_f hc (fun j a b => Zrow j (by omega) (by omega) (by omega) (by omega) (by omega)) (by funext c; rw [ZL, if_neg (by omega)]) (by funext c; rw [ZR, if_neg (by omega)]) (by rw [ZN]; exact Nat.le_refl _) (fun j a b => Z98 j a)
    · exact mRep_f hm (fun c _ => by rw [Zrow 74 (by omega) (by omega) (by omega) (by omega) (by omega)]) hP
    · exact jRel_f hj (fun j a => Zrow j (by omega) (by omega) (by omega) (by omega) (by omega)) (ZI 72 32 (by omega) (by omega) (by omega) (by omega) (by omega)) (fun j a => by funext c; rw [ZL, if_neg (by omega)])
    · intro k' hk'
      by_cases e : k' = k
      · refine Or.inr ⟨?_, ?_, P, hP, ?_, ?_⟩
        · rw [e, ← eq]; exact Zq15
        · rw [e]; exact Z76
        · rw [e, ← eq]
          refine cRep_g hcY (fun c hc15 => Zq q c (by omega) (by omega) (by omega)) (fun j a b => by funext c; exact Zq j c (by omega) (by omega) (by omega)) (by unfold zL; rw [Z2]) Z2 (fun j a => ?_)
          funext c
          rw [ZI j c (by omega) (by omega) (by omega) (by omega) (by omega), YI j c (by omega)]
        · refine mRep_f hm (fun c hc5 => ?_) hP
          rw [e, Z75, if_pos (by omega)]
          congr 1
          omega
      · have rk : ∀ j, 20 + 6 * k' ≤ j → j ≤ 20 + 6 * k' + 4 → zI Z j = zI S j := fun j a b => Zrow j (by omega) (by omega) (by omega) (by omega) (by omega)
        have e76 : zI Z 76 k' = zI S 76 k' := ZI 76 k' (by omega) (by omega) (by omega) (by omega) (by omega)
        rw [rk (20 + 6 * k') (by omega) (by omega), e76]
        rcases hi k' hk' with h1 | ⟨h1, h2, P', h3, h4, h5⟩
        · exact Or.inl h1
        · refine Or.inr ⟨h1, h2, P', h3, cRep_f h4 rk (by funext c; rw [ZL, if_neg (by omega)]) (by funext c; rw [ZR, if_neg (by omega)]) (by rw [ZN]; exact Nat.le_refl _) (fun j a b => Z98 j a), mRep_f h5 (fun c hc5 => ?_) h3⟩
          rw [Z75, if_neg (by omega)]
    · obtain ⟨T, t1, t2, t3, t4⟩ := ht
      refine ⟨T, t1, ?_, ?_, fun c hcT => ?_⟩
      · rw [Zrow 44 (by omega) (by omega) (by omega) (by omega) (by omega)]; exact t2
      · rw [ZI 72 13 (by omega) (by omega) (by omega) (by omega) (by omega)]; exact t3
      · rw [Zrow 45 (by omega) (by omega) (by omega) (by omega) (by omega), Zrow 79 (by omega) (by omega) (by omega) (by omega) (by omega)]; exact t4 c hcT
    · refine gr_ms hms (fun c a b => ZI 0 c (by omega) (by omega) (by omega) (by omega) (by omega)) ?_ (Zrow 71 (by omega) (by omega) (by omega) (by omega) (by omega)) (by rw [eZ, qIIs]) (fun c a => ZI 72 c (by omega) (by omega) (by omega) (by omega) (by omega)) (Zrow 73 (by omega) (by omega) (by omega) (by omega) (by omega))
      rw [eZ, qIIo _ _ (by omega), qIIo _ _ (by omega), g2.2 0 19 (by omega), eX, qIIs]
    · unfold iDr
      have e13 : zL Z 13 = zL S 13 := by funext c; rw [ZL, if_neg (by omega)]
      rw [Zrow 13 (by omega) (by omega) (by omega) (by omega) (by omega), Zrow 97 (by omega) (by omega) (by omega) (by omega) (by omega), e13, ZI 72 49 (by omega) (by omega) (by omega) (by omega) (by omega)]
      exact hd
    · exact iSt_cp hs ZA ZN (fun c _ => ZI 54 c (by omega) (by omega) (by omega) (by omega) (by omega)) (fun c _ => ZI 69 c (by omega) (by omega) (by omega) (by omega) (by omega)) (Zrow 78 (by omega) (by omega) (by omega) (by omega) (by omega)) ZR (by omega) (Or.inl rfl)
  · refine cOk_ref h rf1 ?_ ?_
    · unfold f_E_image
      rcases rng_no (hi := 1) (by omega) ha with h1 | h1
      · rw [if_pos h1, zb2_eta]
      · by_cases h2 : a < 0
        · rw [if_pos h2, zb2_eta]
        · have h3 : ¬ a < 2 := fun h => h1 (by rw [q_le]; rw [q_lt, show (2 : Int32).toInt = 2 from rfl] at h; rw [q_nI (by omega)]; omega)
          rw [if_neg h2, if_neg h3, zb2_eta]
    · unfold f_M_image
      have l1 : f_M_lies a 0 1 = some 0 := lies_no (lo := 0) (hi := 1) (by omega) (by omega) ha
      rw [qb1 l1, if_pos rfl, zb2_eta]

theorem call_back (fu : Nat) (hfu : 10000 ≤ fu) {S : zSt} (h : Inv S) (a : Int32) : cOk (f_E_back fu a) (f_M_back fu a) S := by
  obtain ⟨P, es, hP, hc, hm, hj, hi, ht, hms, hd, hs⟩ := id h
  rcases rng_or a 0 1 with ⟨k, -, hk1, rfl⟩ | ha
  · have hk : k < 2 := by omega
    obtain ⟨q, eq⟩ : ∃ q, q = 20 + 6 * k := ⟨_, rfl⟩
    have hq2 : q = 20 ∨ q = 26 := by omega
    have r19 : zR S 19 k = some q := by
      rcases (by omega : k = 0 ∨ k = 1) with rfl | rfl
      · rw [eq]; exact hs.2.2.2.2.2.1
      · rw [eq]; exact hs.2.2.2.2.2.2.1
    have kq : zK q = 5 ∧ q < zN0 := by rcases hq2 with rfl | rfl <;> decide
    have l1 : f_M_lies (nI k) 0 1 = some 1 := lies_yes (lo := 0) (hi := 1) (by omega) hk1 (by omega)
    have hik := hi k hk
    rw [← eq] at hik
    rcases hik with ⟨h15, h76⟩ | ⟨h15, h76, P', hP', hc', hm'⟩
    · refine cOk_ref h rf2 ?_ ?_
      · unfold f_E_back
        rw [if_neg (n_neg (by omega)), if_pos (show nI k < 2 from (n_lt (b := 2) (by omega) (by omega)).mpr hk), n_gd (by omega) hk, q_cl (by omega), qb1 r19, qgd kq, if_pos h15, zb2_eta]
      · unfold f_M_back
        rw [qb1 l1, if_neg (by decide), n_gd (by omega) hk, q_cl (by omega), rS1_I _ _ _ (by omega), if_pos h76, zb2_eta]
    · obtain ⟨Y, y1, y2, y3, y4, y5⟩ := copy_ok fu (by omega) (S := S) (a0 := 1) (a1 := q) (by omega) (fun t x ht hx => hs.2.2.2.2.2.2.2.2 q (by omega) t x ht hx)
      have hcY : cRep Y 1 P' := cRep_copy hP' hc' y2 (by omega) y3 y4 y5
      have YI : ∀ j c, j < 1 ∨ 5 < j → zI Y j c = zI S j c := fun j c hj => (y2 j c).2 (fun x => by have := (y2 j c).1 x; omega)
      obtain ⟨X, eX⟩ : ∃ X, X = zwI (zwI Y 32 0 0) 0 19 0 := ⟨_, rfl⟩
      obtain ⟨S1, g1, g2, g3⟩ := back_33 fu hk 5807 0 fu X (by omega) (by omega)
      obtain ⟨Z, eZ⟩ : ∃ Z, Z = zwI (zwI S1 72 32 0) 72 0 0 := ⟨_, rfl⟩
      have ZY : ∀ j c, j ≠ 74 → ¬ (j = 72 ∧ (c = 32 ∨ c = 0)) → ¬ (j = 0 ∧ c = 19) → ¬ (j = 32 ∧ c = 0) → zI Z j c = zI Y j c := fun j c h1 h2 h3 h4 => by
        rw [eZ, qIIo _ _ (by omega), qIIo _ _ (by omega), g2.2 j c h1, eX, qIIo _ _ h3, qIIo _ _ h4]
      have ZI : ∀ j c, (j < 1 ∨ 5 < j) → j ≠ 74 → ¬ (j = 72 ∧ (c = 32 ∨ c = 0)) → ¬ (j = 0 ∧ c = 19) → ¬ (j = 32 ∧ c = 0) → zI Z j c = zI S j c := fun j c h0 h1 h2 h3 h4 => by rw [ZY j c h1 h2 h3 h4, YI j c h0]
      have Zrow : ∀ j, 5 < j → j ≠ 74 → j ≠ 72 → j ≠ 32 → zI Z j = zI S j := fun j h1 h2 h3 h4 => by funext c; exact ZI j c (by omega) h2 (by omega) (by omega) (by omega)
      have Z2 : Z.2 = Y.2 := by
        rw [eZ]
        show S1.2 = Y.2
        rw [g2.1, eX]
        rfl
      have ZL : ∀ j c, zL Z j c = if j = 1 ∧ (c = 3 ∨ c = 4) then zL S q c else zL S j c := fun j c => by unfold zL; rw [Z2]; exact y3 j c
      have ZR : ∀ j c, zR Z j c = if j = 1 + 5 ∧ c < 6 then zR S (q + 5) c else zR S j c := fun j c => by unfold zR; rw [Z2]; exact y4 j c
      have ZA : zA Z = zA S := by unfold zA; rw [Z2, y5]
      have ZN : zN Z = zN S := by unfold zN; rw [Z2, y5]
      have Z98 : ∀ j, 98 ≤ j → zI Z j = zI S j ∧ zA Z j = zA S j := fun j hj => ⟨Zrow j (by omega) (by omega) (by omega) (by omega), by rw [ZA]⟩
      refine ⟨0, X, Z, ?_, ?_, ⟨P', [], hP', ?_, ?_, ?_, ?_, ?_, ?_, ?_, ?_⟩, by rw [ZN]; exact Nat.le_refl _, by rw [ZN]; omega⟩
      · unfold f_E_back
        rw [if_neg (n_neg (by omega)), if_pos (show nI k < 2 from (n_lt (b := 2) (by omega) (by omega)).mpr hk), n_gd (by omega) hk, q_cl (by omega), qb1 r19, qgd kq, if_neg (by rw [h15]; decide), qgd ⟨n_0 (by omega), hk⟩, qb1 r19, qgd kq, qb1 y1, eX]
        rfl
      · unfold f_M_back
        have e76 : zI X 76 k = 1 := by rw [eX, qIIo _ _ (by omega), qIIo _ _ (by omega), YI 76 k (by omega)]; exact h76
        rw [qb1 l1, if_neg (by decide), n_gd (by omega) hk, q_cl (by omega), e76, if_neg (by decide)]
        refine Eq.trans g1 ?_
        rw [eZ]
        rfl
      · exact cRep_f hcY (fun j a b => by funext c; exact ZY j c (by omega) (by omega) (by omega) (by omega)) (by unfold zL; rw [Z2]) (by unfold zR; rw [Z2]) (by unfold zN; rw [Z2]; exact Nat.le_refl _) (fun j a b => ⟨by funext c; exact ZY j c (by omega) (by omega) (by omega) (by omega), by unfold zA; rw [Z2]⟩)
      · refine mRep_f hm' (fun c hc5 => ?_) hP'
        rw [eZ, qIIo _ _ (by omega), qIIo _ _ (by omega), Nat.zero_add, g3, if_pos (by omega), eX, qIIo _ _ (by omega), qIIo _ _ (by omega), YI 75 _ (by omega)]
      · refine jRel_nil _ ?_ ?_ ?_
        · rw [eZ, qIIo _ _ (by omega), qIIo _ _ (by omega), g2.2 32 0 (by omega), eX, qIIo _ _ (by omega), qIIs]
        · rw [eZ, qIIo _ _ (by omega), qIIs]
        · obtain ⟨nx, n1, n2⟩ := jRel_nx hj
          exact ⟨nx, n1, by rw [ZI 32 1 (by omega) (by omega) (by omega) (by omega) (by omega)]; exact n2⟩
      · intro k' hk'
        rw [Zrow (20 + 6 * k') (by omega) (by omega) (by omega) (by omega), Zrow 76 (by omega) (by omega) (by omega) (by omega)]
        rcases hi k' hk' with h1 | ⟨h1, h2, P2, h3, h4, h5⟩
        · exact Or.inl h1
        · refine Or.inr ⟨h1, h2, P2, h3, cRep_f h4 (fun j a b => Zrow j (by omega) (by omega) (by omega) (by omega)) (by funext c; rw [ZL, if_neg (by omega)]) (by funext c; rw [ZR, if_neg (by omega)]) (by rw [ZN]; exact Nat.le_refl _) (fun j a b => Z98 j a), mRep_f h5 (fun c hc5 => by rw [Zrow 75 (by omega) (by omega) (by omega) (by omega)]) h3⟩
      · obtain ⟨T, t1, t2, t3, t4⟩ := ht
        refine ⟨T, t1, ?_, ?_, fun c hcT => ?_⟩
        · rw [Zrow 44 (by omega) (by omega) (by omega) (by omega)]; exact t2
        · rw [ZI 72 13 (by omega) (by omega) (by omega) (by omega) (by omega)]; exact t3
        · rw [Zrow 45 (by omega) (by omega) (by omega) (by omega), Zrow 79 (by omega) (by omega) (by omega) (by omega)]; exact t4 c hcT
      · refine gr_ms hms (fun c a b => ZI 0 c (by omega) (by omega) (by omega) (by omega) (by omega)) ?_ (Zrow 71 (by omega) (by omega) (by omega) (by omega)) (by rw [eZ, qIIs]) (fun c a => ZI 72 c (by omega) (by omega) (by omega) (by omega) (by omega)) (Zrow 73 (by omega) (by omega) (by omega) (by omega))
        rw [eZ, qIIo _ _ (by omega), qIIo _ _ (by omega), g2.2 0 19 (by omega), eX, qIIs]
      · unfold iDr
        have e13 : zL Z 13 = zL S 13 := by funext c; rw [ZL, if_neg (by omega)]
        rw [Zrow 13 (by omega) (by omega) (by omega) (by omega), Zrow 97 (by omega) (by omega) (by omega) (by omega), e13, ZI 72 49 (by omega) (by omega) (by omega) (by omega) (by omega)]
        exact hd
      · exact iSt_cp hs ZA ZN (fun c _ => ZI 54 c (by omega) (by omega) (by omega) (by omega) (by omega)) (fun c _ => ZI 69 c (by omega) (by omega) (by omega) (by omega) (by omega)) (Zrow 78 (by omega) (by omega) (by omega) (by omega)) ZR (Or.inl rfl) (by omega)
  · refine cOk_ref h rf1 ?_ ?_
    · unfold f_E_back
      rcases rng_no (hi := 1) (by omega) ha with h1 | h1
      · rw [if_pos h1, zb2_eta]
      · by_cases h2 : a < 0
        · rw [if_pos h2, zb2_eta]
        · have h3 : ¬ a < 2 := fun h => h1 (by rw [q_le]; rw [q_lt, show (2 : Int32).toInt = 2 from rfl] at h; rw [q_nI (by omega)]; omega)
          rw [if_neg h2, if_neg h3, zb2_eta]
    · unfold f_M_back
      have l1 : f_M_lies a 0 1 = some 0 := lies_no (lo := 0) (hi := 1) (by omega) (by omega) ha
      rw [qb1 l1, if_pos rfl, zb2_eta]

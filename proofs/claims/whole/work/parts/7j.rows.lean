/-! orders, years: rows laid aside and taken back -/
theorem la_2 (fu : Nat) {t : Nat} (ht : t ≤ 1) : ∀ (m i n : Nat) (S : zSt), i + m = 92 → m + 1 ≤ n → ∃ S', f_M_laysAside_2 fu n (nI t) (nI i) S = some S' ∧ oR 77 S S' ∧ ∀ k, zI S' 77 k = if 92 * t + i ≤ k ∧ k < 92 * t + 92 then zI S 74 (k - 92 * t) else zI S 77 k := by
  intro m
  induction m with
  | zero =>
    intro i n S h1 h2
    obtain ⟨n', rfl⟩ : ∃ n', n = n' + 1 := ⟨n - 1, by omega⟩
    refine ⟨S, ?_, oR_r _ S, fun k => by rw [if_neg (by omega)]⟩
    unfold f_M_laysAside_2
    rw [if_pos (show (92 : Int32) ≤ nI i from (n_le (a := 92) (by omega) (by omega)).mpr (by omega))]
  | succ m ih =>
    intro i n S h1 h2
    obtain ⟨n', rfl⟩ : ∃ n', n = n' + 1 := ⟨n - 1, by omega⟩
    obtain ⟨S1, g1, g2, g3⟩ := ih (i + 1) n' (zwI S 77 (92 * t + i) (zI S 74 i)) (by omega) (by omega)
    refine ⟨S1, ?_, oR_t (oR_w _ _ _ _) g2, fun k => ?_⟩
    · rw [← g1]
      obtain ⟨K, eK⟩ : ∃ K, K = f_M_laysAside_2 fu n' := ⟨_, rfl⟩
      rw [← eK]
      have e1 : 92 * nI t + nI i = nI (92 * t + i) := by rw [show (92 : Int32) = nI 92 from rfl, n_mul, n_add]
      unfold f_M_laysAside_2
      rw [if_neg (show ¬ (92 : Int32) ≤ nI i from fun h => absurd ((n_le (a := 92) (by omega) (by omega)).mp h) (by omega)), n_gd (by omega) (by omega), e1, n_gd (by omega) (by omega), q_cl (by omega), q_cl (by omega), ← eK, n_1]
    · rw [g3 k]
      by_cases h : 92 * t + (i + 1) ≤ k ∧ k < 92 * t + 92
      · rw [if_pos h, if_pos (by omega), qIIo _ _ (by omega)]
      · rw [if_neg h]
        by_cases e : k = 92 * t + i
        · rw [e, qIIs, if_pos (by omega), Nat.add_sub_cancel_left]
        · rw [qIIo _ _ (by omega), if_neg (by omega)]
theorem tb_2 (fu : Nat) {t : Nat} (ht : t ≤ 1) : ∀ (m i n : Nat) (S : zSt), i + m = 92 → m + 1 ≤ n → ∃ S', f_M_takesBack_2 fu n (nI t) (nI i) S = some S' ∧ oR 74 S S' ∧ ∀ k, zI S' 74 k = if i ≤ k ∧ k < 92 then zI S 77 (92 * t + k) else zI S 74 k := by
  intro m
  induction m with
  | zero =>
    intro i n S h1 h2
    obtain ⟨n', rfl⟩ : ∃ n', n = n' + 1 := ⟨n - 1, by omega⟩
    refine ⟨S, ?_, oR_r _ S, fun k => by rw [if_neg (by omega)]⟩
    unfold f_M_takesBack_2
    rw [if_pos (show (92 : Int32) ≤ nI i from (n_le (a := 92) (by omega) (by omega)).mpr (by omega))]
  | succ m ih =>
    intro i n S h1 h2
    obtain ⟨n', rfl⟩ : ∃ n', n = n' + 1 := ⟨n - 1, by omega⟩
    obtain ⟨S1, g1, g2, g3⟩ := ih (i + 1) n' (zwI S 74 i (zI S 77 (92 * t + i))) (by omega) (by omega)
    refine ⟨S1, ?_, oR_t (oR_w _ _ _ _) g2, fun k => ?_⟩
    · rw [← g1]
      obtain ⟨K, eK⟩ : ∃ K, K = f_M_takesBack_2 fu n' := ⟨_, rfl⟩
      rw [← eK]
      have e1 : 92 * nI t + nI i = nI (92 * t + i) := by rw [show (92 : Int32) = nI 92 from rfl, n_mul, n_add]
      unfold f_M_takesBack_2
      rw [if_neg (show ¬ (92 : Int32) ≤ nI i from fun h => absurd ((n_le (a := 92) (by omega) (by omega)).mp h) (by omega)), e1, n_gd (by omega) (by omega), n_gd (by omega) (by omega), q_cl (by omega), q_cl (by omega), ← eK, n_1]
    · rw [g3 k]
      by_cases h : i + 1 ≤ k ∧ k < 92
      · rw [if_pos h, if_pos (by omega), qIIo _ _ (by omega)]
      · rw [if_neg h]
        by_cases e : k = i
        · rw [e, qIIs, if_pos (by omega)]
        · rw [qIIo _ _ (by omega), if_neg (by omega)]
theorem o27_is (fu : Nat) : ∀ (m i n : Nat) (S : zSt), i + m = 1488 → m + 1 ≤ n → ∃ S', f_M_orders_27 fu n (nI i) S = f_M_orders_52 fu S' ∧ oR 87 S S' ∧ ∀ k, zI S' 87 k = if i ≤ k ∧ k < 1488 then zI S 86 k else zI S 87 k := by
  intro m
  induction m with
  | zero =>
    intro i n S h1 h2
    obtain ⟨n', rfl⟩ : ∃ n', n = n' + 1 := ⟨n - 1, by omega⟩
    refine ⟨S, ?_, oR_r _ S, fun k => by rw [if_neg (by omega)]⟩
    unfold f_M_orders_27
    rw [if_pos (show (1488 : Int32) ≤ nI i from (n_le (a := 1488) (by omega) (by omega)).mpr (by omega))]
  | succ m ih =>
    intro i n S h1 h2
    obtain ⟨n', rfl⟩ : ∃ n', n = n' + 1 := ⟨n - 1, by omega⟩
    obtain ⟨S1, g1, g2, g3⟩ := ih (i + 1) n' (zwI S 87 i (zI S 86 i)) (by omega) (by omega)
    refine ⟨S1, ?_, oR_t (oR_w _ _ _ _) g2, fun k => ?_⟩
    · rw [← g1]
      obtain ⟨K, eK⟩ : ∃ K, K = f_M_orders_27 fu n' := ⟨_, rfl⟩
      rw [← eK]
      unfold f_M_orders_27
      rw [if_neg (show ¬ (1488 : Int32) ≤ nI i from fun h => absurd ((n_le (a := 1488) (by omega) (by omega)).mp h) (by omega)), n_gd (by omega) (by omega), n_gd (by omega) (by omega), q_cl (by omega), ← eK, n_1]
    · rw [g3 k]
      by_cases h : i + 1 ≤ k ∧ k < 1488
      · rw [if_pos h, if_pos (by omega), qIIo _ _ (by omega)]
      · rw [if_neg h]
        by_cases e : k = i
        · rw [e, qIIs, if_pos (by omega)]
        · rw [qIIo _ _ (by omega), if_neg (by omega)]
theorem o123_is (fu : Nat) (a1 a3 : Int32) : ∀ (m i n : Nat) (S : zSt), i + m = 1488 → m + 1 ≤ n → ∃ S', f_M_orders_123 fu n a1 a3 (nI i) S = f_M_orders_151 fu a1 a3 S' ∧ oR 86 S S' ∧ ∀ k, zI S' 86 k = if i ≤ k ∧ k < 1488 then zI S 87 k else zI S 86 k := by
  intro m
  induction m with
  | zero =>
    intro i n S h1 h2
    obtain ⟨n', rfl⟩ : ∃ n', n = n' + 1 := ⟨n - 1, by omega⟩
    refine ⟨S, ?_, oR_r _ S, fun k => by rw [if_neg (by omega)]⟩
    unfold f_M_orders_123
    rw [if_pos (show (1488 : Int32) ≤ nI i from (n_le (a := 1488) (by omega) (by omega)).mpr (by omega))]
  | succ m ih =>
    intro i n S h1 h2
    obtain ⟨n', rfl⟩ : ∃ n', n = n' + 1 := ⟨n - 1, by omega⟩
    obtain ⟨S1, g1, g2, g3⟩ := ih (i + 1) n' (zwI S 86 i (zI S 87 i)) (by omega) (by omega)
    refine ⟨S1, ?_, oR_t (oR_w _ _ _ _) g2, fun k => ?_⟩
    · rw [← g1]
      obtain ⟨K, eK⟩ : ∃ K, K = f_M_orders_123 fu n' := ⟨_, rfl⟩
      rw [← eK]
      unfold f_M_orders_123
      rw [if_neg (show ¬ (1488 : Int32) ≤ nI i from fun h => absurd ((n_le (a := 1488) (by omega) (by omega)).mp h) (by omega)), n_gd (by omega) (by omega), n_gd (by omega) (by omega), q_cl (by omega), ← eK, n_1]
    · rw [g3 k]
      by_cases h : i + 1 ≤ k ∧ k < 1488
      · rw [if_pos h, if_pos (by omega), qIIo _ _ (by omega)]
      · rw [if_neg h]
        by_cases e : k = i
        · rw [e, qIIs, if_pos (by omega)]
        · rw [qIIo _ _ (by omega), if_neg (by omega)]
/-- one journal copied into another one -/
theorem jo_copy {S : zSt} {a0 a1 : Nat} (hd : a1 + 5 < a0 ∨ a0 + 5 < a1) : ∃ S', f_Jo_copyFrom a0 a1 S = some S' ∧ S'.2.2 = S.2.2 ∧ (∀ j k, ¬ (a0 ≤ j ∧ j ≤ a0 + 3) → zI S' j k = zI S j k) ∧ (∀ k, k < 2 → zI S' a0 k = zI S a1 k) ∧ (∀ d k, 1 ≤ d → d ≤ 3 → k < 16 → zI S' (a0 + d) k = zI S (a1 + d) k) ∧ (∀ j k, ¬ (a0 + 4 ≤ j ∧ j ≤ a0 + 5) → zL S' j k = zL S j k) ∧ ∀ d k, 4 ≤ d → d ≤ 5 → k < 16 → zL S' (a0 + d) k = zL S (a1 + d) k := by
  have cI : ∀ (X : zSt) (a b n j k : Nat), zI (zcpI X a b n) j k = if j = b ∧ k < n then zI X a k else zI X j k := fun _ _ _ _ _ _ => rfl
  have cL : ∀ (X : zSt) (a b n j k : Nat), zL (zcpL X a b n) j k = if j = b ∧ k < n then zL X a k else zL X j k := fun _ _ _ _ _ _ => rfl
  have cIL : ∀ (X : zSt) (a b n : Nat), zI (zcpL X a b n) = zI X := fun _ _ _ _ => rfl
  have cLI : ∀ (X : zSt) (a b n : Nat), zL (zcpI X a b n) = zL X := fun _ _ _ _ => rfl
  obtain ⟨Y, eY⟩ : ∃ Y, Y = zwI (zwI S a0 0 (zI S a1 0)) a0 1 (zI (zwI S a0 0 (zI S a1 0)) a1 1) := ⟨_, rfl⟩
  have y1 : ∀ j k, j ≠ a0 → zI Y j k = zI S j k := fun j k hj => by rw [eY, qIIo _ _ (by omega), qIIo _ _ (by omega)]
  have yL : zL Y = zL S := by rw [eY]; rfl
  refine ⟨zcpL (zcpL (zcpI (zcpI (zcpI Y (a1 + 1) (a0 + 1) 16) (a1 + 2) (a0 + 2) 16) (a1 + 3) (a0 + 3) 16) (a1 + 4) (a0 + 4) 16) (a1 + 5) (a0 + 5) 16, ?_, ?_, fun j k hj => ?_, fun k hk => ?_, fun d k h1 h2 hk => ?_, fun j k hj => ?_, fun d k h1 h2 hk => ?_⟩
  · unfold f_Jo_copyFrom
    rw [← eY]
  · rw [eY]; rfl
  · rw [cIL, cIL, cI, if_neg (by omega), cI, if_neg (by omega), cI, if_neg (by omega), y1 _ _ (by omega)]
  · rw [cIL, cIL, cI, if_neg (by omega), cI, if_neg (by omega), cI, if_neg (by omega), eY]
    rcases (by omega : k = 0 ∨ k = 1) with rfl | rfl
    · rw [qIIo _ _ (by omega), qIIs]
    · rw [qIIs, qIIo _ _ (by omega)]
  · rw [cIL, cIL]
    rcases (by omega : d = 1 ∨ d = 2 ∨ d = 3) with rfl | rfl | rfl
    · rw [cI, if_neg (by omega), cI, if_neg (by omega), cI, if_pos ⟨rfl, hk⟩, y1 _ _ (by omega)]
    · rw [cI, if_neg (by omega), cI, if_pos ⟨rfl, hk⟩, cI, if_neg (by omega), y1 _ _ (by omega)]
    · rw [cI, if_pos ⟨rfl, hk⟩, cI, if_neg (by omega), cI, if_neg (by omega), y1 _ _ (by omega)]
  · rw [cL, if_neg (by omega), cL, if_neg (by omega), cLI, cLI, cLI, yL]
  · rcases (by omega : d = 4 ∨ d = 5) with rfl | rfl
    · rw [cL, if_neg (by omega), cL, if_pos ⟨rfl, hk⟩, cLI, cLI, cLI, yL]
    · rw [cL, if_pos ⟨rfl, hk⟩, cL, if_neg (by omega), cLI, cLI, cLI, yL]
theorem jC_16 {S S' : zSt} {P : zP} {es : List (Nat × zMv)} (h : jC S P es) (h0 : ∀ k, k < 2 → zI S' 32 k = zI S 32 k) (hI : ∀ j k, 33 ≤ j → j ≤ 35 → k < 16 → zI S' j k = zI S j k) (hL : ∀ j k, j = 36 ∨ j = 37 → k < 16 → zL S' j k = zL S j k) : jC S' P es := by
  obtain ⟨j1, nx, j2, j3, j4⟩ := h
  refine ⟨by rw [h0 0 (by omega)]; exact j1, nx, j2, by rw [h0 1 (by omega)]; exact j3, fun i e hi => ?_⟩
  have hm : (nx + 31 - i) % 16 < 16 := Nat.mod_lt _ (by omega)
  have := j4 i e hi
  rw [hI 33 _ (by omega) (by omega) hm, hI 34 _ (by omega) (by omega) hm, hI 35 _ (by omega) (by omega) hm, hL 36 _ (Or.inl rfl) hm, hL 37 _ (Or.inr rfl) hm]
  exact this
/-- what orders leave alone -/
def oFr (S S' : zSt) : Prop := zA S' = zA S ∧ zN S' = zN S ∧ (∀ j k, zR S' j k = if j = 12 ∧ k < 6 then zR S 6 k else zR S j k) ∧ (∀ j k, (13 ≤ j ∧ j ≤ 31) ∨ j = 75 ∨ j = 76 ∨ j = 78 ∨ 97 ≤ j ∨ (j = 54 ∧ 7 ≤ k) ∨ (j = 69 ∧ 23 ≤ k) ∨ (j = 72 ∧ k = 49) → zI S' j k = zI S j k) ∧ ∀ j k, 13 ≤ j ∧ j ≤ 31 → zL S' j k = zL S j k
theorem or_base {S S' : zSt} (hi : iIm S) (hd : iDr S) (hs : iSt S) (hf : oFr S S') : iIm S' ∧ iDr S' ∧ iSt S' := by
  obtain ⟨fA, fN, fR, fI, fL⟩ := hf
  obtain ⟨s1, s2, s3, s4, s5, s6, s7, s8⟩ := hs
  have rI : ∀ j, (13 ≤ j ∧ j ≤ 31) ∨ j = 75 ∨ j = 76 ∨ j = 78 ∨ 97 ≤ j → zI S' j = zI S j := fun j hj => funext fun k => fI j k (by omega)
  refine ⟨fun k hk => ?_, ?_, ⟨by rw [fA]; exact s1.1, fun k hk => by rw [fI 54 k (by omega)]; exact s1.2 k hk⟩, ?_, ?_, by rw [fA]; exact s4, fun k hk => by rw [fI 69 k (by omega)]; exact s5 k hk, by rw [fR, if_neg (by omega)]; exact s6, by rw [fR, if_neg (by omega)]; exact s7, by rw [fN]; exact s8.1, fun o ho t q ht hq => ?_⟩
  · rw [rI (20 + 6 * k) (by omega), rI 76 (by omega)]
    rcases hi k hk with h | ⟨h1, h2, P, h3, h4, h5⟩
    · exact Or.inl h
    · refine Or.inr ⟨h1, h2, P, h3, cRep_f h4 (fun j a b => rI j (by omega)) (by funext c; exact fL _ c (by omega)) (by funext c; rw [fR, if_neg (by omega)]) (by rw [fN]; exact Nat.le_refl _) (fun j a b => ⟨rI j (by omega), by rw [fA]⟩), mRep_f h5 (fun c _ => by rw [rI 75 (by omega)]) h3⟩
  · unfold iDr
    have e13 : zL S' 13 = zL S 13 := by funext c; exact fL 13 c (by omega)
    rw [rI 13 (by omega), rI 97 (by omega), e13, fI 72 49 (by omega)]
    exact hd
  · unfold zW8
    rw [rI 78 (by omega)]
    exact s2
  · refine zSR_same fN fA (fun i hi k => ?_) s3
    rw [fR, if_neg (fun e => by rw [e.1] at hi; exact absurd hi (by decide))]
  · rw [fN]
    rw [fR] at hq
    by_cases e : o + 5 = 12 ∧ t < 6
    · rw [if_pos e] at hq
      exact s8.2 1 (Or.inl rfl) t q ht hq
    · rw [if_neg e] at hq
      exact s8.2 o ho t q ht hq

/-! row: the tape's triples -/
def gdT (P : zP) (a b d : Int32) : Bool := decide (a = nI a.toNatClampNeg ∧ a.toNatClampNeg < pN P ∧ b = nI b.toNatClampNeg ∧ b.toNatClampNeg < pN P ∧ a.toNatClampNeg ≠ b.toNatClampNeg ∧ d = nI d.toNatClampNeg ∧ d.toNatClampNeg ≤ 50)
theorem gdT_yes {P : zP} (hP : pOK P) {x y v : Nat} (hx : x < pN P) (hy : y < pN P) (hxy : x ≠ y) (hv : v ≤ 50) : gdT P (nI x) (nI y) (nI v) = true := by
  have h9 := hP.1
  unfold gdT
  rw [q_cl (by omega), q_cl (by omega), q_cl (by omega)]
  exact decide_eq_true ⟨rfl, hx, rfl, hy, hxy, rfl, hv⟩
theorem gdT_or {P : zP} (hP : pOK P) (a b d : Int32) : (∃ x y v, x < pN P ∧ y < pN P ∧ x ≠ y ∧ v ≤ 50 ∧ a = nI x ∧ b = nI y ∧ d = nI v ∧ gdT P a b d = true) ∨ (gdT P a b d = false ∧ (((∀ s, s < pN P → a ≠ nI s) ∨ (∀ s, s < pN P → b ≠ nI s) ∨ a = b) ∨ ∀ v, 0 ≤ v → v ≤ 50 → d ≠ nI v)) := by
  by_cases h : gdT P a b d = true
  · have h2 := of_decide_eq_true h
    obtain ⟨h3, h4, h5, h6, h7, h8, h9⟩ := h2
    exact Or.inl ⟨_, _, _, h4, h6, h7, h9, h3, h5, h8, h⟩
  · have h0 : gdT P a b d = false := by revert h; cases gdT P a b d <;> simp
    refine Or.inr ⟨h0, ?_⟩
    rcases two_or P a b with ⟨x, y, hx, hy, hxy, rfl, rfl⟩ | hn
    · rcases rng_or d 0 50 with ⟨v, -, hv, rfl⟩ | hd
      · exact absurd (gdT_yes hP hx hy hxy hv) h
      · exact Or.inr hd
    · exact Or.inl hn
def rw1 (B : Nat → Int32) (i : Nat) (r : zP × Nat × Nat) : zP × Nat × Nat := if gdT r.1 (B i) (B (i + 1)) (B (i + 2)) = true then (pDig r.1 (B i).toNatClampNeg (B (i + 1)).toNatClampNeg (B (i + 2)), r.2.1 + 1, r.2.2) else (r.1, r.2.1, r.2.2 + 1)
def rwP (B : Nat → Int32) : Nat → Nat → zP × Nat × Nat → zP × Nat × Nat
  | 0, _, r => r
  | m + 1, i, r => rwP B m (i + 3) (rw1 B i r)
theorem rwP_u (B : Nat → Int32) (c : Nat) : ∀ (m i : Nat) (P : zP) (d u : Nat), rwP B m i (P, d, u + c) = ((rwP B m i (P, d, u)).1, (rwP B m i (P, d, u)).2.1, (rwP B m i (P, d, u)).2.2 + c) := by
  intro m
  induction m with
  | zero => intro i P d u; rfl
  | succ m ih =>
    intro i P d u
    unfold rwP rw1
    by_cases h : gdT P (B i) (B (i + 1)) (B (i + 2)) = true
    · rw [if_pos h, if_pos h]; exact ih _ _ _ _
    · rw [if_neg h, if_neg h]
      show rwP B m (i + 3) (P, d, u + c + 1) = _
      rw [show u + c + 1 = (u + 1) + c by omega]
      exact ih _ _ _ _
theorem rw1_ok {B : Nat → Int32} {i : Nat} {r : zP × Nat × Nat} (h : pOK r.1) : pOK (rw1 B i r).1 ∧ pN (rw1 B i r).1 = pN r.1 ∧ (rw1 B i r).2.1 ≤ r.2.1 + 1 ∧ (rw1 B i r).2.2 ≤ r.2.2 + 1 := by
  unfold rw1
  rcases gdT_or h (B i) (B (i + 1)) (B (i + 2)) with ⟨x, y, v, hx, hy, hxy, hv, e1, e2, e3, e4⟩ | ⟨e4, -⟩
  · have h9 := h.1
    rw [if_pos e4, e1, e2, e3, q_cl (by omega), q_cl (by omega)]
    exact ⟨pOK_dig h hx hy hv, rfl, Nat.le_refl _, Nat.le_succ _⟩
  · rw [if_neg (by rw [e4]; decide)]
    exact ⟨h, rfl, Nat.le_succ _, Nat.le_refl _⟩
theorem rwP_ok {B : Nat → Int32} : ∀ (m i : Nat) (r : zP × Nat × Nat), pOK r.1 → pOK (rwP B m i r).1 ∧ pN (rwP B m i r).1 = pN r.1 ∧ (rwP B m i r).2.1 ≤ r.2.1 + m ∧ (rwP B m i r).2.2 ≤ r.2.2 + m := by
  intro m
  induction m with
  | zero => intro i r h; exact ⟨h, rfl, Nat.le_refl _, Nat.le_refl _⟩
  | succ m ih =>
    intro i r h
    obtain ⟨h1, h2, h3, h4⟩ := rw1_ok (B := B) (i := i) h
    obtain ⟨g1, g2, g3, g4⟩ := ih (i + 3) (rw1 B i r) h1
    refine ⟨g1, g2.trans h2, ?_, ?_⟩
    · show (rwP B m (i + 3) (rw1 B i r)).2.1 ≤ _
      omega
    · show (rwP B m (i + 3) (rw1 B i r)).2.2 ≤ _
      omega
/-! a byte, signed or not -/
theorem by_ar : ∀ k, k < 256 → (128 ≤ k → (nI k - 128) &&& 255 = nI (k - 128) ∧ nI k - 128 = nI (k - 128)) ∧ (k < 128 → (nI k - 128) &&& 255 = nI (k + 128)) := by decide +kernel
theorem byte_or {v : Int32} (h1 : -128 ≤ v.toInt) (h2 : v.toInt ≤ 127) : (∃ x : Nat, x < 128 ∧ v = nI x ∧ v &&& 255 = nI x) ∨ (v.toInt < 0 ∧ ∃ y : Nat, 128 ≤ y ∧ y < 256 ∧ v &&& 255 = nI y) := by
  have e1 : (v + 128).toInt = v.toInt + 128 := q_add (by rw [show (128 : Int32).toInt = 128 from rfl]; omega)
  obtain ⟨k, hk, hk2, hk3⟩ := q_ex (a := v + 128) (by omega)
  have e2 : v = nI k - 128 := by rw [← hk, Int32.add_sub_cancel]
  obtain ⟨g1, g2⟩ := by_ar k (by omega)
  by_cases c : 128 ≤ k
  · refine Or.inl ⟨k - 128, by omega, ?_, ?_⟩
    · rw [e2]; exact (g1 c).2
    · rw [e2]; exact (g1 c).1
  · refine Or.inr ⟨by omega, k + 128, by omega, by omega, ?_⟩
    rw [e2]; exact g2 (by omega)
/-- signed or not, it is the same small number, or none -/
theorem byte_small {v : Int32} (h1 : -128 ≤ v.toInt) (h2 : v.toInt ≤ 127) {s : Nat} (hs : s < 128) : v &&& 255 = nI s ↔ v = nI s := by
  rcases byte_or h1 h2 with ⟨x, hx, e1, e2⟩ | ⟨hn, y, hy, hy2, e⟩
  · rw [e1] at e2 ⊢
    rw [e2]
  · constructor
    · intro h3
      rw [e] at h3
      have := (n_eq (by omega) (by omega)).mp h3
      omega
    · intro h3
      rw [h3, q_nI (by omega)] at hn
      omega
theorem by_at {S : zSt} {T k : Nat} (hT : T ≤ 400) (h : zI S 44 1 = nI T) (hk : k < 500) : f_Ta_byteAt (nI k) S = some (if k < T then zI S 45 k &&& 255 else 256) := by
  unfold f_Ta_byteAt
  rw [if_neg (n_neg (by omega)), h]
  by_cases c : k < T
  · rw [if_neg (fun h => absurd ((n_le (by omega) (by omega)).mp h) (by omega)), if_neg (show ¬ (400 : Int32) ≤ nI k from fun h => absurd ((n_le (a := 400) (by omega) (by omega)).mp h) (by omega)), n_gd (by omega) (by omega), q_cl (by omega), if_pos c]
  · rw [if_pos ((n_le (by omega) (by omega)).mpr (by omega)), if_neg c]
theorem dig_tape {S : zSt} {P : zP} (h : cRep S 1 P) (hP : pOK P) {T i : Nat} {B : Nat → Int32} (hT : T ≤ 400) (h44 : zI S 44 1 = nI T) (hB : ∀ k, k < T → zI S 45 k = B k ∧ -128 ≤ (B k).toInt ∧ (B k).toInt ≤ 127) (hi : i + 3 ≤ T) (d u : Nat) :
    ∃ X, f_E_digFromTape (nI i) S = some ((if gdT P (B i) (B (i + 1)) (B (i + 2)) = true then 1 else 0), X) ∧ cX S X ∧ cRep X 1 (rw1 B i (P, d, u)).1 ∧ ∀ j, j ≠ 3 → zI X j = zI S j := by
  have h9 := hP.1
  obtain ⟨b0, b1, b2⟩ := hB i (by omega)
  obtain ⟨c0, c1, c2⟩ := hB (i + 1) (by omega)
  obtain ⟨d0, d1, d2⟩ := hB (i + 2) (by omega)
  have e0 : f_Ta_byteAt (nI i) S = some (B i &&& 255) := by rw [by_at hT h44 (by omega), if_pos (by omega), b0]
  have e1 : f_Ta_byteAt (nI i + 1) S = some (B (i + 1) &&& 255) := by rw [n_1, by_at hT h44 (by omega), if_pos (by omega), c0]
  have e2 : f_Ta_byteAt (nI i + 2) S = some (B (i + 2) &&& 255) := by rw [show nI i + 2 = nI (i + 2) from n_add i 2, by_at hT h44 (by omega), if_pos (by omega), d0]
  unfold f_E_digFromTape rw1
  rw [qb1 e0, qb1 e1, qb1 e2]
  rcases gdT_or hP (B i) (B (i + 1)) (B (i + 2)) with ⟨x, y, v, hx, hy, hxy, hv, g1, g2, g3, g4⟩ | ⟨g4, hn⟩
  · obtain ⟨X, x1, x2, x3, x4⟩ := dig_ok (v := v) h hP hx hy hxy
    rw [if_pos g4, if_pos g4, (byte_small b1 b2 (s := x) (by omega)).mpr g1, (byte_small c1 c2 (s := y) (by omega)).mpr g2, (byte_small d1 d2 (s := v) (by omega)).mpr g3, qb1 (pair_yes h hP hx hy hxy), if_neg (nI_m1 (by have := pq_c x (by omega) y (by omega) hxy; omega)), if_pos (show nI v ≤ 50 from (n_le (b := 50) (by omega) (by omega)).mpr hv), qb2 x1]
    refine ⟨X, rfl, x2, ?_, x4⟩
    rw [g1, g2, g3, q_cl (by omega), q_cl (by omega)]
    exact x3
  · have n4 : ¬ gdT P (B i) (B (i + 1)) (B (i + 2)) = true := by rw [g4]; decide
    rw [if_neg n4, if_neg n4]
    refine ⟨S, ?_, cX_r S, h, fun _ _ => rfl⟩
    rcases two_or P (B i &&& 255) (B (i + 1) &&& 255) with ⟨x, y, hx, hy, hxy, k1, k2⟩ | hn2
    · rw [k1, k2, qb1 (pair_yes h hP hx hy hxy), if_neg (nI_m1 (by have := pq_c x (by omega) y (by omega) hxy; omega)), if_neg]
      intro h50
      have k1' := (byte_small b1 b2 (by omega)).mp k1
      have k2' := (byte_small c1 c2 (by omega)).mp k2
      rcases hn with hn | hn
      · rcases hn with hn | hn | hn
        · exact hn x hx k1'
        · exact hn y hy k2'
        · rw [k1', k2'] at hn
          exact hxy ((n_eq (by omega) (by omega)).mp hn)
      · rcases byte_or d1 d2 with ⟨z, hz, z1, z2⟩ | ⟨hz, z, z1, z2, z3⟩
        · rw [z2] at h50
          exact hn z (Nat.zero_le _) ((n_le (b := 50) (by omega) (by omega)).mp h50) z1
        · rw [z3] at h50
          have := (n_le (b := 50) (by omega) (by omega)).mp h50
          omega
    · rw [qb1 (pair_no h hP hn2), if_pos rfl]
theorem row_26 (fu : Nat) {T q : Nat} (hT : T ≤ 400) (hq : q < 3) {B : Nat → Int32} : ∀ (m i n : Nat) (r : zP × Nat × Nat) (S : zSt), i + 3 * m + q = T → m + 2 ≤ n → cRep S 1 r.1 → pOK r.1 → zI S 44 1 = nI T → (∀ k, k < T → zI S 45 k = B k ∧ -128 ≤ (B k).toInt ∧ (B k).toInt ≤ 127) →
    ∃ X, f_E_row_26 fu n (nI T) (nI r.2.1) (nI r.2.2) (nI i) S = f_E_row_56 fu (nI (rwP B m i r).2.1) (nI ((rwP B m i r).2.2 + (if q = 0 then 0 else 1))) X ∧ cX S X ∧ cRep X 1 (rwP B m i r).1 ∧ ∀ j, j ≠ 3 → zI X j = zI S j := by
  intro m
  induction m with
  | zero =>
    intro i n r S h1 h2 hc hP h44 hB
    obtain ⟨n', rfl⟩ : ∃ n', n = n' + 2 := ⟨n - 2, by omega⟩
    by_cases c : q = 0
    · refine ⟨S, ?_, cX_r S, hc, fun _ _ => rfl⟩
      rw [if_pos c]
      show f_E_row_26 fu ((n' + 1) + 1) _ _ _ _ _ = _
      unfold f_E_row_26
      rw [if_pos ((n_le (by omega) (by omega)).mpr (by omega))]
      rfl
    · have e2 : f_Ta_byteAt (nI i + 2) S = some 256 := by rw [show nI i + 2 = nI (i + 2) from n_add i 2, by_at hT h44 (by omega), if_neg (by omega)]
      have e3 : f_E_digFromTape (nI i) S = some (0, S) := by
        unfold f_E_digFromTape
        rw [qb1 (by_at hT h44 (by omega)), n_1, qb1 (by_at hT h44 (by omega)), qb1 e2]
        rcases two_or r.1 (if i < T then zI S 45 i &&& 255 else 256) (if i + 1 < T then zI S 45 (i + 1) &&& 255 else 256) with ⟨x, y, hx, hy, hxy, k1, k2⟩ | hn2
        · have h9 := hP.1
          rw [k1, k2, qb1 (pair_yes hc hP hx hy hxy), if_neg (nI_m1 (by have := pq_c x (by omega) y (by omega) hxy; omega)), if_neg (by decide)]
        · rw [qb1 (pair_no hc hP hn2), if_pos rfl]
      refine ⟨S, ?_, cX_r S, hc, fun _ _ => rfl⟩
      rw [if_neg c]
      show f_E_row_26 fu ((n' + 1) + 1) _ _ _ _ _ = _
      unfold f_E_row_26
      rw [if_neg (fun h => absurd ((n_le (by omega) (by omega)).mp h) (by omega)), qb2 e3, if_pos rfl, show nI i + 3 = nI (i + 3) from n_add i 3, n_1]
      unfold f_E_row_26
      rw [if_pos ((n_le (by omega) (by omega)).mpr (by omega))]
      rfl
  | succ m ih =>
    intro i n r S h1 h2 hc hP h44 hB
    obtain ⟨n', rfl⟩ : ∃ n', n = n' + 1 := ⟨n - 1, by omega⟩
    obtain ⟨X, x1, x2, x3, x4⟩ := dig_tape hc hP hT h44 hB (i := i) (by omega) r.2.1 r.2.2
    have x3' : cRep X 1 (rw1 B i r).1 := x3
    obtain ⟨X', y1, y2, y3, y4⟩ := ih (i + 3) n' (rw1 B i r) X (by omega) (by omega) x3' (rw1_ok hP).1 (by rw [x4 44 (by omega)]; exact h44) (fun k hk => by rw [x4 45 (by omega)]; exact hB k hk)
    refine ⟨X', ?_, cX_t x2 y2, y3, fun j hj => (y4 j hj).trans (x4 j hj)⟩
    show f_E_row_26 fu (n' + 1) _ _ _ _ _ = f_E_row_56 fu (nI (rwP B m (i + 3) (rw1 B i r)).2.1) (nI ((rwP B m (i + 3) (rw1 B i r)).2.2 + (if q = 0 then 0 else 1))) X'
    unfold f_E_row_26
    rw [if_neg (fun h => absurd ((n_le (by omega) (by omega)).mp h) (by omega)), qb2 x1, show nI i + 3 = nI (i + 3) from n_add i 3, n_1, n_1, ← y1]
    unfold rw1
    by_cases c : gdT r.1 (B i) (B (i + 1)) (B (i + 2)) = true
    · rw [if_pos c, if_pos c, if_neg (by decide)]
    · rw [if_neg c, if_neg c, if_pos rfl]

/-! the reference's loop -/
theorem m_row_40 (fu : Nat) {T q : Nat} (hT : T ≤ 400) (hq : q < 3) {B : Nat → Int32} : ∀ (m i n : Nat) (r : zP × Nat × Nat) (S : zSt), i + 3 * m + q = T → m + 1 ≤ n → mRep S 74 0 r.1 → pOK r.1 → zI S 72 6 = nI r.2.2 → (∀ k, k < T → zI S 79 k = B k) →
    ∃ Y, f_M_row_40 fu n (nI T) (nI r.2.1) (nI i) S = zb2 (f_M_settled (nI (rwP B m i r).2.1) Y) (fun r3 S4 => some (r3, S4)) ∧ mRep Y 74 0 (rwP B m i r).1 ∧ zI Y 72 6 = nI (rwP B m i r).2.2 ∧ (∀ j k, j ≠ 74 → ¬ (j = 72 ∧ k = 6) → zI Y j k = zI S j k) ∧ Y.2 = S.2 := by
  intro m
  induction m with
  | zero =>
    intro i n r S h1 h2 hm hP h6 hB
    obtain ⟨n', rfl⟩ : ∃ n', n = n' + 1 := ⟨n - 1, by omega⟩
    refine ⟨S, ?_, hm, h6, fun _ _ _ _ => rfl, rfl⟩
    unfold f_M_row_40
    rw [show nI i + 3 = nI (i + 3) from n_add i 3, if_pos ((n_lt (by omega) (by omega)).mpr (by omega))]
    rfl
  | succ m ih =>
    intro i n r S h1 h2 hm hP h6 hB
    obtain ⟨n', rfl⟩ : ∃ n', n = n' + 1 := ⟨n - 1, by omega⟩
    have h9 := hP.1
    have e0 : zI S 79 i = B i := hB i (by omega)
    have e1 : zI S 79 (i + 1) = B (i + 1) := hB (i + 1) (by omega)
    have e2 : zI S 79 (i + 2) = B (i + 2) := hB (i + 2) (by omega)
    have p2 : nI i + 2 = nI (i + 2) := n_add i 2
    have p3 : nI i + 3 = nI (i + 3) := n_add i 3
    obtain ⟨K, eK⟩ : ∃ K, K = f_M_row_40 fu n' := ⟨_, rfl⟩
    have st : ∃ Y1, f_M_row_40 fu (n' + 1) (nI T) (nI r.2.1) (nI i) S = K (nI T) (nI (rw1 B i r).2.1) (nI (i + 3)) Y1 ∧ mRep Y1 74 0 (rw1 B i r).1 ∧ zI Y1 72 6 = nI (rw1 B i r).2.2 ∧ (∀ j k, j ≠ 74 → ¬ (j = 72 ∧ k = 6) → zI Y1 j k = zI S j k) ∧ Y1.2 = S.2 := by
      unfold f_M_row_40 rw1
      rw [← eK, p3, if_neg (fun h => absurd ((n_lt (by omega) (by omega)).mp h) (by omega)), n_gd (by omega) (by omega), n_1, n_gd (by omega) (by omega), q_cl (by omega), q_cl (by omega), e0, e1, p2]
      rcases gdT_or hP (B i) (B (i + 1)) (B (i + 2)) with ⟨x, y, v, hx, hy, hxy, hv, g1, g2, g3, g4⟩ | ⟨g4, hn⟩
      · have c3 : f_M_lies (nI v) 0 50 = some 1 := lies_yes (lo := 0) (hi := 50) (by omega) hv (by omega)
        obtain ⟨Y, y1, y2, y3, y4⟩ := lays_ch (v := v) hm hP hx hy hxy
        have hu := (rY_w Y (j := 72) (k := 32) 0 (by omega))
        rw [if_pos g4]
        rw [g1, g2, g3, qb1 (m_two_yes hm hP hx hy hxy), if_neg (by decide), n_gd (by omega) (by omega), q_cl (by omega), e2, g3, qb1 c3, if_neg (by decide)]
        unfold f_M_row_90
        rw [if_neg (by decide), n_gd (by omega) (by omega), n_1, n_gd (by omega) (by omega), p2, n_gd (by omega) (by omega), q_cl (by omega), q_cl (by omega), q_cl (by omega), e0, e1, e2, g1, g2, g3, qb1 y1, if_neg (by decide)]
        unfold f_M_row_134
        rw [if_neg (by decide), n_1, p3, y4 72 (by omega), h6]
        refine ⟨_, rfl, ?_, ?_, fun j k h1 h2 => ?_, ?_⟩
        · rw [q_cl (by omega), q_cl (by omega)]
          exact mRep_f y3 (fun k _ => by rw [qIIo _ _ (by omega)]) (pOK_dig hP hx hy hv)
        · rw [qIIs]; exact n_add _ 0
        · rw [qIIo _ _ (by omega), y4 j h1]
        · show Y.2 = S.2
          exact Prod.ext y2.2.2.1 y2.1.1
      · have n4 : ¬ gdT r.1 (B i) (B (i + 1)) (B (i + 2)) = true := by rw [g4]; decide
        rw [if_neg n4]
        have e90 : f_M_row_90 fu K (nI T) (nI r.2.1) (nI i) 0 S = K (nI T) (nI r.2.1) (nI (i + 3)) (zwI S 72 6 (nI (r.2.2 + 1))) := by
          unfold f_M_row_90
          rw [if_pos rfl, if_pos rfl]
          unfold f_M_row_134
          rw [if_pos rfl, h6, n_1, p3, show nI r.2.1 + 0 = nI r.2.1 from n_add _ 0]
        refine ⟨zwI S 72 6 (nI (r.2.2 + 1)), ?_, mRep_f hm (fun k _ => by rw [qIIo _ _ (by omega)]) hP, qIIs _ _ _ _, fun j k h1 h2 => qIIo _ _ h2, rfl⟩
        rcases two_or r.1 (B i) (B (i + 1)) with ⟨x, y, hx, hy, hxy, k1, k2⟩ | hn2
        · have hd : ∀ v, 0 ≤ v → v ≤ 50 → B (i + 2) ≠ nI v := by
            rcases hn with hn | hn
            · rcases hn with hn | hn | hn
              · exact absurd k1 (hn x hx)
              · exact absurd k2 (hn y hy)
              · rw [k1, k2] at hn
                exact absurd ((n_eq (by omega) (by omega)).mp hn) hxy
            · exact hn
          have e5 : f_M_lies (B (i + 2)) 0 50 = some 0 := lies_no (lo := 0) (hi := 50) (by omega) (by omega) hd
          rw [k1, k2, qb1 (m_two_yes hm hP hx hy hxy), if_neg (by decide), n_gd (by omega) (by omega), q_cl (by omega), e2, qb1 e5, if_pos rfl]
          exact e90
        · rw [qb1 (m_two_no hm hP hn2), if_pos rfl]
          exact e90
    obtain ⟨Y1, s1, s2, s3, s4, s5⟩ := st
    obtain ⟨Y, y1, y2, y3, y4, y5⟩ := ih (i + 3) n' (rw1 B i r) Y1 (by omega) (by omega) s2 (rw1_ok hP).1 s3 (fun k hk => by rw [s4 79 k (by omega) (by omega)]; exact hB k hk)
    rw [eK] at s1
    exact ⟨Y, s1.trans y1, y2, y3, fun j k h1 h2 => (y4 j k h1 h2).trans (s4 j k h1 h2), y5.trans s5⟩
theorem zwI_id {S : zSt} {j k : Nat} {v : Int32} (h : zI S j k = v) : zwI S j k v = S := by
  have e : zI (zwI S j k v) = zI S := by
    funext a b
    rw [qII]
    by_cases c : a = j ∧ b = k
    · rw [if_pos c, c.1, c.2, h]
    · rw [if_neg c]
  exact Prod.ext e rfl
theorem t3_ar : ∀ T, T < 401 → (nI T - nI T / 3 * 3 = 0 ↔ T % 3 = 0) := by decide +kernel
theorem call_row (fu : Nat) (hfu : 1000 ≤ fu) {S : zSt} (h : Inv S) : cOk (f_E_row fu) (f_M_row fu) S := by
  obtain ⟨P, es, hP, hc, hm, hj, hi, ht, hms, hd, hs⟩ := id h
  obtain ⟨T, t1, t2, t3, t4⟩ := ht
  by_cases hT0 : T = 0
  · have e0 : zI S 72 13 = 0 := by rw [t3, hT0]; rfl
    refine cOk_ref h rf6 ?_ ?_
    · unfold f_E_row
      rw [if_pos (by rw [t2, hT0]; rfl), zb2_eta]
    · have e1 : zI (rS1 S (-6) 5) 72 13 = 0 := by rw [rS1_I _ _ _ (by omega)]; exact e0
      unfold f_M_row
      rw [if_pos e1, zwI_id e1, zb2_eta]
  · have n0 : ¬ nI T = 0 := fun h => hT0 ((n_eq (b := 0) (by omega) (by omega)).mp h)
    obtain ⟨m, q, hq, hmq⟩ : ∃ m q, q < 3 ∧ 0 + 3 * m + q = T := ⟨T / 3, T % 3, by omega, by omega⟩
    have hB : ∀ k, k < T → zI S 45 k = (zI S 79) k ∧ -128 ≤ ((zI S 79) k).toInt ∧ ((zI S 79) k).toInt ≤ 127 := fun k hk => by
      have := t4 k hk
      exact ⟨this.1, by rw [← this.1]; exact this.2.1, by rw [← this.1]; exact this.2.2⟩
    obtain ⟨X, x1, x2, x3, x4⟩ := row_26 fu t1 hq m 0 fu (P, 0, 0) S hmq (by omega) hc hP t2 hB
    obtain ⟨r1, r2, r3, r4⟩ := rwP_ok (B := zI S 79) m 0 (P, 0, 0) hP
    obtain ⟨R, eR⟩ : ∃ R, R = rwP (zI S 79) m 0 (P, 0, 0) := ⟨_, rfl⟩
    rw [← eR] at x1 x3 r1 r2 r3 r4
    obtain ⟨uu, euu⟩ : ∃ uu : Nat, uu = if q = 0 then 0 else 1 := ⟨_, rfl⟩
    obtain ⟨S1, eS1⟩ : ∃ S1, S1 = zwI (zwI (zwI (zwI X 44 1 0) 0 16 (nI (R.2.2 + uu))) 32 0 0) 0 19 0 := ⟨_, rfl⟩
    have E : f_E_row fu S = some (nI R.2.1, S1) := by
      unfold f_E_row
      rw [t2, if_neg n0]
      refine Eq.trans x1 ?_
      rw [← euu]
      unfold f_E_row_56
      rw [eS1]
      rfl
    have F1 : ∀ j k, j ≠ 3 → ¬ (j = 44 ∧ k = 1) → ¬ (j = 0 ∧ (k = 16 ∨ k = 19)) → ¬ (j = 32 ∧ k = 0) → zI S1 j k = zI S j k := fun j k h1 h2 h3 h4 => by
      rw [eS1, qIIo _ _ (by omega), qIIo _ _ (by omega), qIIo _ _ (by omega), qIIo _ _ h2, x4 j h1]
    obtain ⟨S2, eS2⟩ : ∃ S2, S2 = zwI (zwI S1 72 13 0) 72 6 (nI uu) := ⟨_, rfl⟩
    have F2 : ∀ j k, ¬ (j = 72 ∧ (k = 13 ∨ k = 6)) → zI S2 j k = zI S1 j k := fun j k h1 => by
      rw [eS2, qIIo _ _ (by omega), qIIo _ _ (by omega)]
    have hm2 : mRep S2 74 0 P := mRep_f hm (fun k _ => by rw [F2 74 _ (by omega), F1 74 _ (by omega) (by omega) (by omega) (by omega)]) hP
    obtain ⟨Y, y1, y2, y3, y4, y5⟩ := m_row_40 fu t1 hq m 0 fu (P, 0, 0 + uu) S2 hmq (by omega) hm2 hP (by rw [eS2, qIIs, Nat.zero_add]) (B := zI S 79) (fun k hk => by rw [F2 79 k (by omega), F1 79 k (by omega) (by omega) (by omega) (by omega)])
    rw [rwP_u, ← eR] at y1 y2 y3
    have M : f_M_row fu S1 = some (nI R.2.1, zwI (zwI Y 72 32 0) 72 0 0) := by
      have e13 : zI S1 72 13 = nI T := by rw [F1 72 13 (by omega) (by omega) (by omega) (by omega)]; exact t3
      unfold f_M_row
      rw [e13, if_neg n0]
      have ea := t3_ar T (by omega)
      have e16 : f_M_row_40 fu fu (nI T) 0 0 S2 = some (nI R.2.1, zwI (zwI Y 72 32 0) 72 0 0) := y1
      by_cases c : T % 3 = 0
      · have : uu = 0 := by rw [euu, if_pos (by omega)]
        rw [if_pos (ea.mpr c)]
        rw [eS2, this] at e16
        exact e16
      · have : uu = 1 := by rw [euu, if_neg (by omega)]
        rw [if_neg (fun h => c (ea.mp h))]
        rw [eS2, this] at e16
        exact e16
    have F3 : ∀ j k, j ≠ 74 → ¬ (j = 72 ∧ (k = 6 ∨ k = 13 ∨ k = 32 ∨ k = 0)) → zI (zwI (zwI Y 72 32 0) 72 0 0) j k = zI S1 j k := fun j k h1 h2 => by
      rw [qIIo _ _ (by omega), qIIo _ _ (by omega), y4 j k h1 (by omega), F2 j k (by omega)]
    have F4 : ∀ j k, j ≠ 3 → j ≠ 74 → j ≠ 72 → j ≠ 44 → j ≠ 0 → ¬ (j = 32 ∧ k = 0) → zI (zwI (zwI Y 72 32 0) 72 0 0) j k = zI S j k := fun j k h1 h2 h3 h4 h5 h6 => by
      rw [F3 j k h2 (by omega), F1 j k h1 (by omega) (by omega) h6]
    have L1 : (zwI (zwI Y 72 32 0) 72 0 0).2 = X.2 := by
      show Y.2 = X.2
      rw [y5, eS2, eS1]
      rfl
    have L2 : (zwI (zwI Y 72 32 0) 72 0 0).2.2 = S.2.2 := (congrArg (·.2) L1).trans x2.1.1
    have L3 : zL (zwI (zwI Y 72 32 0) 72 0 0) = zL X := congrArg (·.1) L1
    have G72 : ∀ k, k ≠ 6 → k ≠ 13 → k ≠ 32 → k ≠ 0 → zI (zwI (zwI Y 72 32 0) 72 0 0) 72 k = zI S 72 k := fun k h1 h2 h3 h4 => by
      rw [F3 72 k (by omega) (by omega), F1 72 k (by omega) (by omega) (by omega) (by omega)]
    have hq2 : zUq S (zwI (zwI Y 72 32 0) 72 0 0) := by
      refine ⟨L2, fun j hj => ?_, G72 49 (by omega) (by omega) (by omega) (by omega), fun k hk => F4 54 k (by omega) (by omega) (by omega) (by omega) (by omega) (by omega), fun k hk => F4 69 k (by omega) (by omega) (by omega) (by omega) (by omega) (by omega), fun j hj => ?_⟩
      · funext k; exact F4 j k (by omega) (by omega) (by omega) (by omega) (by omega) (by omega)
      · rw [L3]; exact x2.1.2.2.2.2.2.2.2 j hj
    refine ⟨nI R.2.1, S1, _, E, M, Inv_uq (P := R.1) (es := []) hi hd hs hq2 r1 ?_ ?_ ?_ ?_ ?_, ?_⟩
    · refine cRep_f x3 (fun j a b => ?_) (by rw [L3]) ?_ ?_ (fun j a b => ⟨?_, ?_⟩)
      · funext k
        rw [F3 j k (by omega) (by omega), eS1, qIIo _ _ (by omega), qIIo _ _ (by omega), qIIo _ _ (by omega), qIIo _ _ (by omega)]
      · unfold zR; rw [L2, x2.1.1]
      · unfold zN; rw [L2, x2.1.1]; exact Nat.le_refl _
      · funext k
        rw [F3 j k (by omega) (by omega), eS1, qIIo _ _ (by omega), qIIo _ _ (by omega), qIIo _ _ (by omega), qIIo _ _ (by omega)]
      · unfold zA; rw [L2, x2.1.1]
    · exact mRep_f y2 (fun k _ => by rw [qIIo _ _ (by omega), qIIo _ _ (by omega)]) r1
    · refine jRel_nil _ ?_ ?_ ?_
      · rw [F3 32 0 (by omega) (by omega), eS1, qIIo _ _ (by omega), qIIs]
      · rw [qIIo _ _ (by omega), qIIs]
      · obtain ⟨nx, g1, g2⟩ := jRel_nx hj
        exact ⟨nx, g1, by rw [F4 32 1 (by omega) (by omega) (by omega) (by omega) (by omega) (by omega)]; exact g2⟩
    · refine ⟨0, by omega, ?_, ?_, fun k hk => absurd hk (by omega)⟩
      · rw [F3 44 1 (by omega) (by omega), eS1, qIIo _ _ (by omega), qIIo _ _ (by omega), qIIo _ _ (by omega), qIIs]; rfl
      · rw [qIIo _ _ (by omega), qIIo _ _ (by omega), y4 72 13 (by omega) (by omega), eS2, qIIo _ _ (by omega), qIIs]; rfl
    · obtain ⟨m1, m2, m3, m4, m5, m6, m7, m8, m9⟩ := hms
      have k71 : ∀ k, zI (zwI (zwI Y 72 32 0) 72 0 0) 71 k = zI S 71 k := fun k => F4 71 k (by omega) (by omega) (by omega) (by omega) (by omega) (by omega)
      have k73 : ∀ k, zI (zwI (zwI Y 72 32 0) 72 0 0) 73 k = zI S 73 k := fun k => F4 73 k (by omega) (by omega) (by omega) (by omega) (by omega) (by omega)
      refine ⟨?_, ?_, ?_, ?_, ?_, ?_, ?_, ?_, ?_⟩
      · rw [F3 0 19 (by omega) (by omega), eS1, qIIs, qIIs]
      · rw [F3 0 16 (by omega) (by omega), eS1, qIIo _ _ (by omega), qIIo _ _ (by omega), qIIs, qIIo _ _ (by omega), qIIo _ _ (by omega), y3]
      · rw [F3 0 17 (by omega) (by omega), F1 0 17 (by omega) (by omega) (by omega) (by omega), G72 14 (by omega) (by omega) (by omega) (by omega)]; exact m3
      · rw [F3 0 18 (by omega) (by omega), F1 0 18 (by omega) (by omega) (by omega) (by omega), G72 41 (by omega) (by omega) (by omega) (by omega)]; exact m4
      · rw [k71, k73]; exact m5
      · rw [k71, k73]; exact m6
      · rw [k71, k73]; exact m7
      · rw [k71, k73]; exact m8
      · rw [k71, k73]; exact m9
    · have : zN (zwI (zwI Y 72 32 0) 72 0 0) = zN S := by unfold zN; rw [L2]
      rw [this]
      omega

/-! orders: the reference goes along a whole clause -/
def gG (S Z : zSt) : Prop := Z.2.2 = S.2.2 ∧ (∀ j k, ¬ (j = 72 ∧ ((22 ≤ k ∧ k ≤ 25) ∨ (43 ≤ k ∧ k ≤ 46))) → zI Z j k = zI S j k) ∧ ∀ j, j ≠ 96 → zL Z j = zL S j
theorem gG_r (S : zSt) : gG S S := ⟨rfl, fun _ _ _ => rfl, fun _ _ => rfl⟩
theorem gG_t {Z Z' Z'' : zSt} (h : gG Z Z') (h2 : gG Z' Z'') : gG Z Z'' := ⟨h2.1.trans h.1, fun j k a => (h2.2.1 j k a).trans (h.2.1 j k a), fun j a => (h2.2.2 j a).trans (h.2.2 j a)⟩
theorem gG_w (Z : zSt) {k : Nat} (v : Int32) (h : (22 ≤ k ∧ k ≤ 25) ∨ (43 ≤ k ∧ k ≤ 46)) : gG Z (zwI Z 72 k v) := ⟨rfl, fun j k' a => qIIo _ _ (fun e => a ⟨e.1, by rw [e.2]; exact h⟩), fun _ _ => rfl⟩
theorem gG_F {Z Z' : zSt} (h : gF Z Z') : gG Z Z' := ⟨h.1, fun j k a => h.2.1 j k (by omega), h.2.2⟩
theorem rE_0 (o : Option Int) : (rE o).2 = 0 ↔ o.isSome = true := by
  cases o with
  | none => exact ⟨fun h => absurd h (by decide), fun h => by cases h⟩
  | some v => exact ⟨fun _ => rfl, fun _ => rfl⟩
theorem rE_b (o : Option Int) : (if (rE o).2 = 0 then (1 : Int32) else 0) = b2 o.isSome := by
  cases o <;> rfl
section ALONG2
variable {A N : Nat} {C V : Nat → Int32} {P : zP} {dn lt : Int32} {so : Nat → Int32}
theorem ga_8 (fu : Nat) (hfu : 500 ≤ fu) (hP : pOK P) {S : zSt} (hw : mWd S P dn lt so) (hA : A ≤ 2400) (hN : N ≤ 400) (hC : ∀ k, k < N → zI S 74 (207 + (A + k)) = C k ∧ vR (zI S 74 (3007 + (A + k))) (V k)) (hC0 : ∀ k, N ≤ k → C k = 0) (hV0 : ∀ k, 0 ≤ (V k).toInt) {i q j q' n : Nat} {c : lC} (h42 : zI S 72 42 = nI (A + i)) (hi : i < N) (hn : 401 ≤ n) (hc : lclauseO C V n i q = .inr (j, q', c)) (live : Bool) :
    i < j ∧ j ≤ N ∧ c.1 ≤ 3 ∧ c.2.2.2.1 ≤ 20 ∧ (c.1 = 0 → c.2.2.1 = lone) ∧ (c.1 = 3 → c.2.1 = lone ∧ c.2.2.1 = lone) ∧ ∃ Z', f_M_goesAlong_8 fu (nI (A + N)) (b2 live) S = some Z' ∧ gG S Z' ∧ zI Z' 72 22 = nI (A + (j + 1)) ∧ zI Z' 72 43 = nI c.2.2.2.1 ∧ zI Z' 72 44 = nI (c.1 + 21) ∧ (live = true → zI Z' 72 46 = b2 (tOk (oEs P dn lt so) c.2.2.2.2) ∧ zI Z' 72 45 = b2 ((c.2.1 (oEs P dn lt so)).isSome && (c.2.2.1 (oEs P dn lt so)).isSome) ∧ (c.1 ≠ 3 → zL Z' 96 0 = (rE (c.2.1 (oEs P dn lt so))).1) ∧ (c.1 = 1 ∨ c.1 = 2 → zL Z' 96 1 = (rE (c.2.2.1 (oEs P dn lt so))).1)) := by
  obtain ⟨W1, eW1⟩ : ∃ W1, W1 = zwI (zwI (zwI S 72 25 1) 72 23 (nI (A + N))) 72 22 (nI (A + i)) := ⟨_, rfl⟩
  have g1 : gG S W1 := by rw [eW1]; exact gG_t (gG_w _ _ (by omega)) (gG_t (gG_w _ _ (by omega)) (gG_w _ _ (by omega)))
  have hE1 : gE W1 A N C V P dn lt so := by
    refine ⟨mWd_f hP hw (funext fun k => g1.2.1 74 k (by omega)) (funext fun k => g1.2.1 85 k (by omega)) (g1.2.1 72 27 (by omega)) (g1.2.1 72 28 (by omega)), ⟨hA, hN, ?_, fun k hk => ?_, hC0, hV0⟩, ?_⟩
    · rw [eW1, qIIo _ _ (by omega), qIIs]
    · rw [g1.2.1 74 _ (by omega), g1.2.1 74 _ (by omega)]; exact hC k hk
    · rw [eW1, qIIo _ _ (by omega), qIIo _ _ (by omega), qIIs]
  have h122 : zI W1 72 22 = nI (A + i) := by rw [eW1, qIIs]
  have hcode : f_M_codeAt (nI (A + i)) W1 = some (C i) := by
    rw [zEv_id h122]
    exact e_code hE1.2.1 (by omega) _ _
  obtain ⟨W, eW⟩ : ∃ W, W = zwI (zwI (zwI W1 72 44 (C i)) 72 22 (nI (A + (i + 1)))) 72 45 1 := ⟨_, rfl⟩
  have f1 : gF W1 W := by rw [eW]; exact gF_t (gF_w _ _ (by omega)) (gF_t (gF_w _ _ (by omega)) (gF_w _ _ (by omega)))
  have hE := gE_f hP hE1 f1
  have w44 : zI W 72 44 = C i := by rw [eW, qIIo _ _ (by omega), qIIo _ _ (by omega), qIIs]
  have w22 : zI W 72 22 = nI (A + (i + 1)) := by rw [eW, qIIo _ _ (by omega), qIIs]
  have w45 : zI W 72 45 = 1 := by rw [eW, qIIs]
  have gW : gG S W := gG_t g1 (gG_F f1)
  have red : f_M_goesAlong_8 fu (nI (A + N)) (b2 live) S = if C i = 24 then f_M_goesAlong_84 fu fu (b2 live) 0 0 W else if C i = 21 then f_M_goesAlong_84 fu fu (b2 live) 1 0 W else f_M_goesAlong_84 fu fu (b2 live) 2 0 W := by
    have e42 : zI (zwI (zwI S 72 25 1) 72 23 (nI (A + N))) 72 42 = nI (A + i) := by rw [qIIo _ _ (by omega), qIIo _ _ (by omega)]; exact h42
    have e22 : zI (zwI W1 72 44 (C i)) 72 22 + 1 = nI (A + (i + 1)) := by rw [qIIo _ _ (by omega), h122, n_1, Nat.add_assoc]
    unfold f_M_goesAlong_8
    rw [e42, ← eW1, h122, qb1 hcode, e22, ← eW, w44]
  obtain ⟨f', rfl⟩ : ∃ f', fu = f' + 3 := ⟨fu - 3, by omega⟩
  unfold lclauseO at hc
  by_cases c23 : C i = 22 ∨ C i = 23
  · rw [if_pos c23] at hc
    obtain ⟨k0, hk0, hck⟩ : ∃ k0, (k0 = 1 ∨ k0 = 2) ∧ C i = nI (k0 + 21) := by
      rcases c23 with h | h
      · exact ⟨1, by omega, h⟩
      · exact ⟨2, by omega, h⟩
    have hkk : (C i).toInt.toNat - 21 = k0 := by rw [hck, q_nI (by omega)]; omega
    rw [hkk] at hc
    have n24 : ¬ C i = 24 := by rw [hck]; exact fun h => absurd ((n_eq (b := 24) (by omega) (by omega)).mp h) (by omega)
    have n21 : ¬ C i = 21 := by rw [hck]; exact fun h => absurd ((n_eq (b := 21) (by omega) (by omega)).mp h) (by omega)
    rw [red, if_neg n24, if_neg n21]
    cases hp1 : lsum (lpart true C V n 8) C n (i + 1) q with
    | inl k => rw [hp1] at hc; cases hc
    | inr x =>
      obtain ⟨k1, q1, d1⟩ := x
      rw [hp1] at hc
      dsimp only at hc
      by_cases c10 : C k1 = 10
      · rw [if_pos c10] at hc
        cases hp2 : lsum (lpart true C V n 8) C n (k1 + 1) q1 with
        | inl k => rw [hp2] at hc; cases hc
        | inr x =>
          obtain ⟨k2, q2, d2⟩ := x
          rw [hp2] at hc
          have hc2 : ltimes C V n k2 q2 (k0, d1, d2) = .inr (j, q', c) := hc
          obtain ⟨a1, a2, Z1, z1, z2, z3, z4, z5, z6, z7⟩ := ga_sum (f' + 3) hfu hP hE w22 (by omega) hn hp1 live (m := 0) (by omega) (f_M_goesAlong_84 (f' + 3) (f' + 2)) 2
          have hk1 := e_in hE.2.1 (i := k1) (by rw [c10]; decide)
          obtain ⟨Y1, eY1⟩ : ∃ Y1, Y1 = zwI Z1 72 22 (nI (A + (k1 + 1))) := ⟨_, rfl⟩
          have fY : gF W Y1 := by rw [eY1]; exact gF_t z2 (gF_w _ _ (by omega))
          obtain ⟨b1, b2', Z2, y1, y2, y3, y4, y5, y6, y7⟩ := ga_sum (Z := Y1) (f' + 3) hfu hP (gE_f hP hE fY) (by rw [eY1, qIIs]) (by omega) hn hp2 live (m := 1) (by omega) (f_M_goesAlong_84 (f' + 3) (f' + 1)) 2
          have f2 : gF W Z2 := gF_t fY y2
          obtain ⟨d1', d2', d3, d4, d5, d6, Z3, x1, x2, x3, x4, x5, x6, x7, x8⟩ := ga_151 (Z := Z2) (f' + 3) hfu hP (gE_f hP hE f2) y3 (by omega) hn hc2 live
          have d3' : c.1 = k0 := d3
          have d4' : c.2.1 = d1 := d4
          have d5' : c.2.2.1 = d2 := d5
          refine ⟨by omega, d2', by omega, d6, fun h => by omega, fun h => by omega, Z3, ?_, gG_t gW (gG_F (gF_t f2 x2)), x3, x4, ?_, fun hl => ⟨x8 hl, ?_, fun _ => ?_, fun _ => ?_⟩⟩
          · rw [show f_M_goesAlong_84 (f' + 3) (f' + 3) (b2 live) 2 0 W = f_M_goesAlong_105 (f' + 3) (f_M_goesAlong_84 (f' + 3) (f' + 2)) (b2 live) 2 (nI 0) W from rfl, z1, show f_M_goesAlong_84 (f' + 3) (f' + 2) (b2 live) 2 (nI (0 + 1)) Z1 = f_M_goesAlong_105 (f' + 3) (f_M_goesAlong_84 (f' + 3) (f' + 1)) (b2 live) 2 (nI 1) (zwI Z1 72 22 (zI Z1 72 22 + 1)) from rfl, z3, n_1, show A + k1 + 1 = A + (k1 + 1) by omega, ← eY1, y1]
            exact x1
          · rw [x5, y5, eY1, qIIo _ _ (by omega), z5, w44, hck, d3']
          · obtain ⟨u1, u2⟩ := z7 hl
            obtain ⟨v1, v2⟩ := y7 hl
            rw [x6, v2, eY1, qIIo _ _ (by omega), u2, w45, if_neg (show ¬ (1 : Int32) = 0 by decide), d4', d5', rE_b, rE_b]
            cases (d1 (oEs P dn lt so)).isSome with
            | false => rw [if_pos (show b2 false = 0 from rfl)]; rfl
            | true => rw [if_neg (show ¬ b2 true = 0 by decide), Bool.true_and]
          · obtain ⟨u1, u2⟩ := z7 hl
            rw [x7, y6 0 (by omega), eY1, show zL (zwI Z1 72 22 (nI (A + (k1 + 1)))) 96 0 = zL Z1 96 0 from rfl, u1, d4']
          · obtain ⟨v1, v2⟩ := y7 hl
            rw [x7, v1, d5']
      · rw [if_neg c10] at hc
        cases hc
  · rw [if_neg c23] at hc
    by_cases c21 : C i = 21
    · rw [if_pos c21] at hc
      have n24 : ¬ C i = 24 := by rw [c21]; decide
      rw [red, if_neg n24, if_pos c21]
      cases hp1 : lsum (lpart true C V n 8) C n (i + 1) q with
      | inl k => rw [hp1] at hc; cases hc
      | inr x =>
        obtain ⟨k1, q1, d1⟩ := x
        rw [hp1] at hc
        have hc2 : ltimes C V n k1 q1 (0, d1, lone) = .inr (j, q', c) := hc
        obtain ⟨a1, a2, Z1, z1, z2, z3, z4, z5, z6, z7⟩ := ga_sum (f' + 3) hfu hP hE w22 (by omega) hn hp1 live (m := 0) (by omega) (f_M_goesAlong_84 (f' + 3) (f' + 2)) 1
        obtain ⟨d1', d2', d3, d4, d5, d6, Z3, x1, x2, x3, x4, x5, x6, x7, x8⟩ := ga_151 (Z := Z1) (f' + 3) hfu hP (gE_f hP hE z2) z3 (by omega) hn hc2 live
        have d3' : c.1 = 0 := d3
        have d4' : c.2.1 = d1 := d4
        have d5' : c.2.2.1 = lone := d5
        refine ⟨by omega, d2', by omega, d6, fun h => d5', fun h => by omega, Z3, ?_, gG_t gW (gG_F (gF_t z2 x2)), x3, x4, ?_, fun hl => ⟨x8 hl, ?_, fun _ => ?_, fun h => by omega⟩⟩
        · rw [show f_M_goesAlong_84 (f' + 3) (f' + 3) (b2 live) 1 0 W = f_M_goesAlong_105 (f' + 3) (f_M_goesAlong_84 (f' + 3) (f' + 2)) (b2 live) 1 (nI 0) W from rfl, z1, show f_M_goesAlong_84 (f' + 3) (f' + 2) (b2 live) 1 (nI (0 + 1)) Z1 = f_M_goesAlong_151 (f' + 3) (b2 live) Z1 from rfl]
          exact x1
        · rw [x5, z5, w44, c21, d3']; rfl
        · obtain ⟨u1, u2⟩ := z7 hl
          rw [x6, u2, w45, if_neg (show ¬ (1 : Int32) = 0 by decide), d4', d5', rE_b]
          show b2 (d1 (oEs P dn lt so)).isSome = b2 ((d1 (oEs P dn lt so)).isSome && true)
          rw [Bool.and_true]
        · obtain ⟨u1, u2⟩ := z7 hl
          rw [x7, u1, d4']
    · rw [if_neg c21] at hc
      by_cases c24 : C i = 24
      · rw [if_pos c24] at hc
        rw [red, if_pos c24]
        obtain ⟨d1', d2', d3, d4, d5, d6, Z3, x1, x2, x3, x4, x5, x6, x7, x8⟩ := ga_151 (Z := W) (f' + 3) hfu hP hE w22 (by omega) hn hc live
        have d3' : c.1 = 3 := d3
        have d4' : c.2.1 = lone := d4
        have d5' : c.2.2.1 = lone := d5
        refine ⟨by omega, d2', by omega, d6, fun h => d5', fun h => ⟨d4', d5'⟩, Z3, ?_, gG_t gW (gG_F x2), x3, x4, ?_, fun hl => ⟨x8 hl, ?_, fun h => absurd d3' h, fun h => by omega⟩⟩
        · rw [show f_M_goesAlong_84 (f' + 3) (f' + 3) (b2 live) 0 0 W = f_M_goesAlong_151 (f' + 3) (b2 live) W from rfl]
          exact x1
        · rw [x5, w44, c24, d3']; rfl
        · rw [x6, w45, d4', d5']; rfl
      · rw [if_neg c24] at hc
        cases hc
end ALONG2
/-- SOON for words -/
theorem oso_6 (fu : Nat) {P : zP} (hP : pOK P) (hat : 0 < pN P → pAt P < pN P) : ∀ (m s n : Nat) (S : zSt), s + m = pN P → m + 1 ≤ n → mRep S 74 0 P → mPp S P → (∀ t, t < s → zI S 85 t = soI P t) → ∃ S', f_M_laysOrderSoon_6 fu n (nI s) S = some S' ∧ oR 85 S S' ∧ ∀ t, t < pN P → zI S' 85 t = soI P t := by
  have h9 := hP.1
  intro m
  induction m with
  | zero =>
    intro s n S h1 h2 hm hM hr
    obtain ⟨n', rfl⟩ : ∃ n', n = n' + 1 := ⟨n - 1, by omega⟩
    refine ⟨S, ?_, oR_r _ S, by rw [← show s = pN P by omega]; exact hr⟩
    unfold f_M_laysOrderSoon_6
    rw [qb1 (m_many hm), if_pos ((n_le (by omega) (by omega)).mpr (by omega))]
  | succ m ih =>
    intro s n S h1 h2 hm hM hr
    obtain ⟨n', rfl⟩ : ∃ n', n = n' + 1 := ⟨n - 1, by omega⟩
    have hs : s < pN P := by omega
    have es : f_M_soonOr (nI (pAt P)) (nI s) S = some (soI P s) := by
      rw [m_soonOr hP hM (hat (by omega)) hs]
      unfold soI
      rw [if_pos hs]
    have e0 : zI S 74 0 = nI (pAt P) := hm.2.2.2.2.2.1
    have o1 : oR 85 S (zwI S 85 s (soI P s)) := oR_w _ _ _ _
    have c1 : zCo S (zwI S 85 s (soI P s)) := oR_co o1 (fun k => by unfold scI; omega)
    obtain ⟨S1, g1, g2, g3⟩ := ih (s + 1) n' (zwI S 85 s (soI P s)) (by omega) (by omega) (mRep_co hm c1 (Or.inl rfl) hP) ⟨fun x y hx hy => by rw [o1.2 90 _ (by omega)]; exact hM.1 x y hx hy, fun x y hx hy => by rw [o1.2 89 _ (by omega)]; exact hM.2 x y hx hy⟩ (fun t ht => by
      by_cases e : t = s
      · rw [e, qIIs]
      · rw [qIIo _ _ (by omega)]; exact hr t (by omega))
    refine ⟨S1, ?_, oR_t o1 g2, g3⟩
    rw [← g1]
    obtain ⟨K, eK⟩ : ∃ K, K = f_M_laysOrderSoon_6 fu n' := ⟨_, rfl⟩
    rw [← eK]
    unfold f_M_laysOrderSoon_6
    rw [qb1 (m_many hm), if_neg (fun h => absurd ((n_le (by omega) (by omega)).mp h) (by omega)), show (0 : Int32).toNatClampNeg = 0 from rfl, e0, qb1 es, n_gd (by omega) (by omega), q_cl (by omega), ← eK, n_1]
theorem oso_is (fu : Nat) (hfu : 1000 ≤ fu) {P : zP} (hP : pOK P) {S : zSt} (hm : mRep S 74 0 P) : ∃ S', f_M_laysOrderSoon fu S = some S' ∧ zCo S S' ∧ ∀ t, t < pN P → zI S' 85 t = soI P t := by
  have h9 := hP.1
  obtain ⟨S1, z1, z2, z3⟩ := lays_soon fu (by omega) hP hm
  obtain ⟨S2, g1, g2, g3⟩ := oso_6 fu hP (fun h => by have := hP.2.2.2.2.2.2.2.2.1; omega) (pN P) 0 fu S1 (by omega) (by omega) (mRep_co hm z2 (Or.inl rfl) hP) z3 (fun t ht => absurd ht (by omega))
  refine ⟨S2, ?_, zCo_t z2 (oR_co g2 (fun k => by unfold scI; omega)), g3⟩
  unfold f_M_laysOrderSoon
  rw [qb1 z1]
  exact g1

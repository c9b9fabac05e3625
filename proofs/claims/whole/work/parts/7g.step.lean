/-! orders: one time of a clause, both -/
def oWt (X : zSt) (cls : List lC) : Prop := zTx X 47 23 (cls.map xcO) ∧ zA X 69 = 23 ∧ (∀ k, 23 ≤ k → zI X 69 k = 0) ∧ zT7 X
theorem cK_co {S X : zSt} (h : zCo S X) : cK S X := ⟨h.1, fun j k a _ _ => h.2.1 j k a, fun j k a _ _ => h.2.2 j k a⟩
theorem cK_A {S X : zSt} (h : cK S X) : zA X = zA S := by unfold zA; rw [h.1]
theorem oWt_k {X X' : zSt} {cls : List lC} (h : oWt X cls) (hk : cK X X') : oWt X' cls := by
  obtain ⟨h1, h2, h3, h4⟩ := h
  refine ⟨zTx_f h1 (fun j a b => funext fun k => hk.2.1 j k (by unfold scI; omega) (by omega) (by omega)) (by rw [cK_A hk]), by rw [cK_A hk]; exact h2, fun k a => by rw [hk.2.1 69 k (by unfold scI; omega) (by omega) (by omega)]; exact h3 k a, by rw [cK_A hk]; exact h4.1, fun k a => by rw [hk.2.1 54 k (by unfold scI; omega) (by omega) (by omega)]; exact h4.2 k a⟩
theorem oWt_co {X X' : zSt} {cls : List lC} (h : oWt X cls) (hk : zCo X X') : oWt X' cls := oWt_k h (cK_co hk)
theorem c_step (fu : Nat) (hfu : 10000 ≤ fu) {P : zP} (hP : pOK P) (hG : lawG (pLaw P)) {cls : List lC} {i : Nat} {c : lC} (hci : cls[i]? = some c) (k16 : Int32 → Int32 → Int32 → zSt → Option (Int32 × zSt)) {X : zSt} (hc : cRep X 1 P) (hw : oWt X cls) (dn lt : Int32) {a7 : Nat} (ha7 : a7 < c.2.2.2.1) (n : Nat) : ∃ X2, zCo X X2 ∧
    (¬ tOk (oEv P dn lt) c.2.2.2.2 = true → f_E_run_36 fu k16 (n + 1) dn lt (nI i) (nI c.1) (nI a7) X = f_E_run_36 fu k16 n dn lt (nI i) (nI c.1) (nI (a7 + 1)) X2) ∧
    (tOk (oEv P dn lt) c.2.2.2.2 = true → (c.2.1 (oEv P dn lt) = none ∨ c.2.2.1 (oEv P dn lt) = none) → f_E_run_36 fu k16 (n + 1) dn lt (nI i) (nI c.1) (nI a7) X = some (-1, zwI X2 0 18 (nI i))) ∧
    (tOk (oEv P dn lt) c.2.2.2.2 = true → ∀ v0 v1, c.2.1 (oEv P dn lt) = some v0 → c.2.2.1 (oEv P dn lt) = some v1 → (-2147490000 ≤ v0 ∧ v0 ≤ 2147490000) ∧ (-2147490000 ≤ v1 ∧ v1 ≤ 2147490000) ∧ f_E_run_36 fu k16 (n + 1) dn lt (nI i) (nI c.1) (nI a7) X = zb2 (f_E_act fu (nI c.1) (Int64.ofInt v0).toInt32 (Int64.ofInt v1).toInt32 X2) (fun r S => f_E_run_168 fu k16 (f_E_run_36 fu k16 n) dn lt (nI i) (nI c.1) (nI a7) r S)) := by
  obtain ⟨hT, hA, h69, hT7⟩ := id hw
  have hx : (cls.map xcO)[i]? = some (xcO c) := by rw [List.getElem?_map, hci]; rfl
  have hi12 : i < 12 := by
    have h1 := hT.2.1
    rw [List.length_map] at h1
    have := (List.getElem?_eq_some_iff.mp hci).1
    omega
  have l12 : ¬ (12 : Int32) ≤ nI i := fun h => absurd ((n_le (a := 12) (by omega) (by omega)).mp h) (by omega)
  obtain ⟨t20, eT⟩ : c.2.2.2.1 ≤ 20 ∧ f_Tx_timesOf 47 (nI i) X = some (nI c.2.2.2.1) := by
    obtain ⟨h1, h2, l, h3, h4, h5, h6, h7, h8, h9⟩ := hT
    obtain ⟨b1, b2, b3, b4, b5⟩ := h8 i (xcO c) hx
    refine ⟨b4, ?_⟩
    unfold f_Tx_timesOf
    rw [if_neg (n_neg (by omega)), if_neg l12, n_gd (by omega) (by omega), q_cl (by omega)]
    exact congrArg some b2
  have hfill : ∃ X1, zCo X X1 ∧ (¬ zI X 47 3 = 0 → zPp X1 P (pLaw P)) ∧ f_E_run_36 fu k16 (n + 1) dn lt (nI i) (nI c.1) (nI a7) X = f_E_run_76 fu k16 (f_E_run_36 fu k16 n) dn lt (nI i) (nI c.1) (nI a7) X1 := by
    by_cases hz : zI X 47 3 = 0
    · refine ⟨X, zCo_r X, fun h => absurd hz h, ?_⟩
      rw [show f_E_run_36 fu k16 (n + 1) dn lt (nI i) (nI c.1) (nI a7) X = zb1 (f_Tx_timesOf 47 (nI i) X) (fun r2 => if r2 ≤ nI a7 then k16 dn lt (nI i + 1) X else if (zI X 47 3) = 0 then f_E_run_76 fu k16 (f_E_run_36 fu k16 n) dn lt (nI i) (nI c.1) (nI a7) X else zb1 (f_Ps_lawInForce 1 X) (fun r6 => zb1 (f_Pa_fill fu 1 r6 X) (fun S8 => f_E_run_76 fu k16 (f_E_run_36 fu k16 n) dn lt (nI i) (nI c.1) (nI a7) S8))) from rfl, qb1 eT, if_neg (fun h => absurd ((n_le (by omega) (by omega)).mp h) (by omega)), if_pos hz]
    · obtain ⟨x, h1, h2, h3⟩ := law_force hc hP
      obtain ⟨X1, x1, x2, x3⟩ := fill_is2 fu (by omega) hP (by omega) hG h3 hc hT7 h2
      refine ⟨X1, x2, fun _ => x3, ?_⟩
      rw [show f_E_run_36 fu k16 (n + 1) dn lt (nI i) (nI c.1) (nI a7) X = zb1 (f_Tx_timesOf 47 (nI i) X) (fun r2 => if r2 ≤ nI a7 then k16 dn lt (nI i + 1) X else if (zI X 47 3) = 0 then f_E_run_76 fu k16 (f_E_run_36 fu k16 n) dn lt (nI i) (nI c.1) (nI a7) X else zb1 (f_Ps_lawInForce 1 X) (fun r6 => zb1 (f_Pa_fill fu 1 r6 X) (fun S8 => f_E_run_76 fu k16 (f_E_run_36 fu k16 n) dn lt (nI i) (nI c.1) (nI a7) S8))) from rfl, qb1 eT, if_neg (fun h => absurd ((n_le (by omega) (by omega)).mp h) (by omega)), if_neg hz, qb1 h1, qb1 x1]
  obtain ⟨X1, c1, hp1, e1⟩ := hfill
  have hw1 := oWt_co hw c1
  obtain ⟨X2, w1, w2, w3, w4, w5⟩ := c_words fu (by omega) hP (fl := ¬ zI X 47 3 = 0) (cRep_co hc c1 (by omega)) hp1 hw1.2.2.1 dn lt
  have c12 : zCo X1 X2 := ⟨by rw [w2.1], fun j k a => by
    by_cases hj : j = 69
    · rw [hj] at a ⊢
      have hk : 23 ≤ k := by unfold scI at a; omega
      rw [w3 k hk, hw1.2.2.1 k hk]
    · exact w2.2 j k hj, fun j k _ => by unfold zL; rw [w2.1]⟩
  have c2 : zCo X X2 := zCo_t c1 c12
  obtain ⟨hT2, hA2, -, -⟩ := oWt_co hw c2
  have val : ∀ w, w < 3 → (xcO c).2.2 w (xe (zI X2 69)) = (xcO c).2.2 w (oEv P dn lt) := fun w hw' => by
    by_cases hz : zI X 47 3 = 0
    · obtain ⟨h1, h2, l, h3, h4, h5, h6, h7, h8, h9⟩ := hT
      refine h9 hz (xcO c) (List.mem_of_getElem? hx) w hw' _ _ (fun k hk => w4 k hk)
    · have : xe (zI X2 69) = oEv P dn lt := funext fun k => w5 hz k
      rw [this]
  have r : ∀ w, w < 3 → ∀ v, (xcO c).2.2 w (oEv P dn lt) = some v → -2147490000 ≤ v ∧ v ≤ 2147490000 := fun w hw' v hv => value_rg hT2 hx hw' (zI X2 69) (v := v) (by rw [val w hw']; exact hv)
  obtain ⟨g2, v1, v2⟩ := value_is fu 47 69 23 (by omega) hT2 (by omega) (by omega) hA2 hx (w := 2) (by omega)
  rw [val 2 (by omega)] at v1
  have v1' : f_Tx_value fu 47 69 (nI i) 2 X2 = _ := v1
  have cm1 := xE_cmp1 ((xcO c).2.2 2 (oEv P dn lt)) (r 2 (by omega))
  have c3 := zCo_t c2 (zCo_53 X2 v2)
  have hT3 := zTx_53 hT2 g2
  obtain ⟨g3, u1, u2⟩ := value_is fu 47 69 23 (by omega) hT3 (by omega) (by omega) hA2 hx (w := 0) (by omega)
  have hval3 : (xcO c).2.2 0 (xe (zI (X2.1, g2, X2.2.2) 69)) = c.2.1 (oEv P dn lt) := val 0 (by omega)
  rw [hval3] at u1
  have u1' : f_Tx_value fu 47 69 (nI i) 0 (X2.1, g2, X2.2.2) = some (xE (c.2.1 (oEv P dn lt)), (X2.1, g3, X2.2.2)) := u1
  have c4 := zCo_t c3 (zCo_53 (X2.1, g2, X2.2.2) u2)
  have hT4 : zTx (X2.1, g3, X2.2.2) 47 23 (cls.map xcO) := zTx_53 hT2 g3
  obtain ⟨g4, y1, y2⟩ := value_is fu 47 69 23 (by omega) hT4 (by omega) (by omega) hA2 hx (w := 1) (by omega)
  have hval4 : (xcO c).2.2 1 (xe (zI (X2.1, g3, X2.2.2) 69)) = c.2.2.1 (oEv P dn lt) := val 1 (by omega)
  rw [hval4] at y1
  have y1' : f_Tx_value fu 47 69 (nI i) 1 (X2.1, g3, X2.2.2) = some (xE (c.2.2.1 (oEv P dn lt)), (X2.1, g4, X2.2.2)) := y1
  have c5 := zCo_t c4 (zCo_53 (X2.1, g3, X2.2.2) y2)
  have cB0 := xE_cmpB (c.2.1 (oEv P dn lt)) (r 0 (by omega))
  have cB1 := xE_cmpB (c.2.2.1 (oEv P dn lt)) (r 1 (by omega))
  have k0 := test_ok1 c (oEv P dn lt)
  by_cases hok : tOk (oEv P dn lt) c.2.2.2.2 = true
  · refine ⟨(X2.1, g4, X2.2.2), c5, fun h => absurd hok h, fun _ hn => ?_, fun _ x0 x1 h0 h1 => ⟨r 0 (by omega) x0 h0, r 1 (by omega) x1 h1, ?_⟩⟩
    · rw [e1]
      unfold f_E_run_76
      rw [qb1 w1, qb2 v1', if_pos (cm1.mpr (k0.mpr hok)), qb2 u1', qb2 y1']
      rcases hn with hn | hn
      · rw [if_pos (cB0.mpr hn)]
        rfl
      · by_cases hn0 : c.2.1 (oEv P dn lt) = none
        · rw [if_pos (cB0.mpr hn0)]
          rfl
        · rw [if_neg (fun h => hn0 (cB0.mp h)), if_pos (cB1.mpr hn)]
          rfl
    · rw [e1]
      unfold f_E_run_76
      rw [qb1 w1, qb2 v1', if_pos (cm1.mpr (k0.mpr hok)), qb2 u1', qb2 y1', if_neg (fun h => by have := cB0.mp h; rw [h0] at this; cases this), if_neg (fun h => by have := cB1.mp h; rw [h1] at this; cases this), h0, h1]
      rfl
  · refine ⟨(X2.1, g2, X2.2.2), c3, fun _ => ?_, fun h => absurd h hok, fun h => absurd h hok⟩
    rw [e1]
    unfold f_E_run_76
    rw [qb1 w1, qb2 v1', if_neg (fun h => hok (k0.mp (cm1.mp h))), n_1]
/-- the reference's frames while orders run -/
def mR0 (Y Y' : zSt) : Prop := Y'.2.2 = Y.2.2 ∧ (∀ j k, ¬ scI j k → ¬ (j = 72 ∧ 43 ≤ k ∧ k ≤ 46) → zI Y' j k = zI Y j k) ∧ ∀ j k, ¬ scL j → j ≠ 96 → zL Y' j k = zL Y j k
def mRo (Y Y' : zSt) : Prop := Y'.2.2 = Y.2.2 ∧ (∀ j k, ¬ scI j k → ¬ (j = 74 ∧ k < 92) → j ≠ 86 → ¬ (j = 72 ∧ (k = 32 ∨ k = 27 ∨ k = 28 ∨ (42 ≤ k ∧ k ≤ 46))) → zI Y' j k = zI Y j k) ∧ ∀ j k, ¬ scL j → j ≠ 96 → zL Y' j k = zL Y j k
theorem mRo_r (Y : zSt) : mRo Y Y := ⟨rfl, fun _ _ _ _ _ _ => rfl, fun _ _ _ _ => rfl⟩
theorem mRo_t {S X Y : zSt} (h : mRo S X) (h2 : mRo X Y) : mRo S Y := ⟨h2.1.trans h.1, fun j k a b c d => (h2.2.1 j k a b c d).trans (h.2.1 j k a b c d), fun j k a b => (h2.2.2 j k a b).trans (h.2.2 j k a b)⟩
theorem mRo_0 {S X : zSt} (h : mR0 S X) : mRo S X := ⟨h.1, fun j k a _ _ d => h.2.1 j k a (by omega), h.2.2⟩
theorem mRo_k {S X : zSt} (h : rK S X) : mRo S X := ⟨h.1, fun j k a b c d => h.2.1 j k a b c (by omega), fun j k a _ => h.2.2 j k a⟩
theorem mRo_w (S : zSt) {k : Nat} (v : Int32) (h : k = 27 ∨ k = 28 ∨ (42 ≤ k ∧ k ≤ 46)) : mRo S (zwI S 72 k v) := ⟨rfl, fun j k' _ _ _ d => qIIo _ _ (fun e => d ⟨e.1, by rw [e.2]; omega⟩), fun _ _ _ _ => rfl⟩
theorem mR0_co {S X : zSt} (h : zCo S X) : mR0 S X := ⟨h.1, fun j k a _ => h.2.1 j k a, fun j k a _ => h.2.2 j k a⟩
theorem mR0_G {S X : zSt} (h : gG S X) : mR0 S X := ⟨h.1, fun j k a b => h.2.1 j k (by unfold scI at a; omega), fun j k a b => congrFun (h.2.2 j b) k⟩
theorem mR0_t {S X Y : zSt} (h : mR0 S X) (h2 : mR0 X Y) : mR0 S Y := ⟨h2.1.trans h.1, fun j k a b => (h2.2.1 j k a b).trans (h.2.1 j k a b), fun j k a b => (h2.2.2 j k a b).trans (h.2.2 j k a b)⟩
/-- the code of orders at hand -/
def oC (Y : zSt) (A N : Nat) (C V : Nat → Int32) : Prop := A = 2400 ∧ N ≤ 400 ∧ (∀ k, k < N → zI Y 74 (207 + (A + k)) = C k ∧ vR (zI Y 74 (3007 + (A + k))) (V k)) ∧ (∀ k, N ≤ k → C k = 0) ∧ ∀ k, 0 ≤ (V k).toInt
theorem oC_m {Y Y' : zSt} {A N : Nat} {C V : Nat → Int32} (h : oC Y A N C V) (hm : mRo Y Y') : oC Y' A N C V := by
  obtain ⟨h1, h2, h3, h4, h5⟩ := h
  exact ⟨h1, h2, fun k hk => by rw [hm.2.1 74 _ (by unfold scI; omega) (by omega) (by omega) (by omega), hm.2.1 74 _ (by unfold scI; omega) (by omega) (by omega) (by omega)]; exact h3 k hk, h4, h5⟩
section STEP
variable {A N : Nat} {C V : Nat → Int32} {P : zP} {dn lt : Int32}
theorem mRep_0 {Y Y' : zSt} (hP : pOK P) (h : mRep Y 74 0 P) (hm : mR0 Y Y') : mRep Y' 74 0 P := mRep_f h (fun k _ => hm.2.1 74 _ (by unfold scI; omega) (by omega)) hP
theorem m_dry (fu : Nat) (hfu : 1000 ≤ fu) (hP : pOK P) {Y : zSt} (hm : mRep Y 74 0 P) (hC : oC Y A N C V) {i q j q' : Nat} {c : lC} (h42 : zI Y 72 42 = nI (A + i)) (hi : i < N) (hc : lclauseO C V 401 i q = .inr (j, q', c)) : i < j ∧ j ≤ N ∧ c.1 ≤ 3 ∧ c.2.2.2.1 ≤ 20 ∧ (c.1 = 0 → c.2.2.1 = lone) ∧ (c.1 = 3 → c.2.1 = lone ∧ c.2.2.1 = lone) ∧ ∃ Y', f_M_goesAlong fu (nI (A + N)) 0 Y = some Y' ∧ mR0 Y Y' ∧ zI Y' 72 22 = nI (A + (j + 1)) ∧ zI Y' 72 43 = nI c.2.2.2.1 := by
  obtain ⟨a1, a2, a3, a4, a5⟩ := hC
  obtain ⟨b1, b2', b3, b4, b5, b6, Z, z1, z2, z3, z4, z5, z6⟩ := ga_8 fu (by omega) hP (S := Y) (dn := zI Y 72 27) (lt := zI Y 72 28) (so := fun s => zI Y 85 s) ⟨hm, rfl, rfl, fun _ _ => rfl⟩ (by omega) a2 a3 a4 a5 h42 hi (Nat.le_refl 401) hc false
  refine ⟨b1, b2', b3, b4, b5, b6, Z, ?_, mR0_G z2, z3, z4⟩
  unfold f_M_goesAlong
  rw [if_pos rfl]
  exact z1
theorem m_step (fu : Nat) (hfu : 1000 ≤ fu) (hP : pOK P) {Y : zSt} (hm : mRep Y 74 0 P) (hC : oC Y A N C V) {i q j q' : Nat} {c : lC} (h42 : zI Y 72 42 = nI (A + i)) (hi : i < N) (hc : lclauseO C V 401 i q = .inr (j, q', c)) (h27 : zI Y 72 27 = dn) (h28 : zI Y 72 28 = lt) {t a7 : Nat} (ht : t ≤ 20) (ha7 : a7 < t) (a3 : Int32) (n : Nat) : ∃ Y2, mR0 Y Y2 ∧ zI Y2 72 44 = nI (c.1 + 21) ∧ (c.1 ≠ 3 → zL Y2 96 0 = (rE (c.2.1 (oEv P dn lt))).1) ∧ (c.1 = 1 ∨ c.1 = 2 → zL Y2 96 1 = (rE (c.2.2.1 (oEv P dn lt))).1) ∧
    (¬ tOk (oEv P dn lt) c.2.2.2.2 = true → f_M_runs_19 fu (n + 1) (nI (A + N)) (nI t) a3 (nI a7) Y = f_M_runs_19 fu n (nI (A + N)) (nI t) a3 (nI (a7 + 1)) Y2) ∧
    (tOk (oEv P dn lt) c.2.2.2.2 = true → (c.2.1 (oEv P dn lt) = none ∨ c.2.2.1 (oEv P dn lt) = none) → f_M_runs_19 fu (n + 1) (nI (A + N)) (nI t) a3 (nI a7) Y = some (0, Y2)) ∧
    (tOk (oEv P dn lt) c.2.2.2.2 = true → ¬ (c.2.1 (oEv P dn lt) = none ∨ c.2.2.1 (oEv P dn lt) = none) → f_M_runs_19 fu (n + 1) (nI (A + N)) (nI t) a3 (nI a7) Y = zb2 (f_M_obeys fu Y2) (fun r S => if 0 ≤ r then f_M_runs_19 fu n (nI (A + N)) (nI t) a3 (nI (a7 + 1)) (zwI S 72 27 (zI S 72 27 + 1)) else some (0, S))) := by
  obtain ⟨a1, a2, a3', a4, a5⟩ := hC
  obtain ⟨S1, s1, s2, s3⟩ := oso_is fu hfu hP hm
  have f1 : ∀ j k, j = 72 ∧ (k = 27 ∨ k = 28 ∨ k = 42) ∨ j = 74 → zI S1 j k = zI Y j k := fun j k h => s2.2.1 j k (by unfold scI; omega)
  obtain ⟨b1, b2', b3, b4, b5, b6, Z, z1, z2, z3, z4, z5, z6⟩ := ga_8 (A := A) (N := N) (C := C) (V := V) fu (by omega) hP (S := S1) (dn := dn) (lt := lt) (so := fun s => pSo (pD P (pLaw P)) (pAt P) s) ⟨mRep_co hm s2 (Or.inl rfl) hP, by rw [f1 _ _ (by omega)]; exact h27, by rw [f1 _ _ (by omega)]; exact h28, fun s hs => by rw [s3 s hs]; unfold soI; rw [if_pos hs]⟩ (by omega) a2 (fun k hk => by rw [f1 _ _ (by omega), f1 _ _ (by omega)]; exact a3' k hk) a4 a5 (by rw [f1 _ _ (by omega)]; exact h42) hi (Nat.le_refl 401) hc true
  obtain ⟨w46, w45, w0, w1⟩ := z6 rfl
  have w46' : zI Z 72 46 = b2 (tOk (oEv P dn lt) c.2.2.2.2) := w46
  have w45' : zI Z 72 45 = b2 ((c.2.1 (oEv P dn lt)).isSome && (c.2.2.1 (oEv P dn lt)).isSome) := w45
  have eA : f_M_goesAlong fu (nI (A + N)) 1 Y = some Z := by
    unfold f_M_goesAlong
    rw [if_neg (by decide), qb1 s1]
    exact z1
  refine ⟨Z, mR0_t (mR0_co s2) (mR0_G z2), z5, w0, w1, fun hn => ?_, fun hk hn => ?_, fun hk hn => ?_⟩
  · obtain ⟨K, eK⟩ : ∃ K, K = f_M_runs_19 fu n := ⟨_, rfl⟩
    rw [← eK]
    unfold f_M_runs_19
    rw [if_neg (fun h => absurd ((n_le (by omega) (by omega)).mp h) (by omega)), qb1 eA, w46', if_pos (by cases h : tOk (oEv P dn lt) c.2.2.2.2 with
      | false => rfl
      | true => exact absurd h hn), ← eK, n_1]
  · unfold f_M_runs_19
    rw [if_neg (fun h => absurd ((n_le (by omega) (by omega)).mp h) (by omega)), qb1 eA, w46', hk, if_neg (show ¬ b2 true = 0 by decide), w45', if_pos (by
      rcases hn with hn | hn
      · rw [hn]; rfl
      · rw [hn]
        cases (c.2.1 (oEv P dn lt)).isSome <;> rfl)]
  · obtain ⟨K, eK⟩ : ∃ K, K = f_M_runs_19 fu n := ⟨_, rfl⟩
    rw [← eK]
    unfold f_M_runs_19
    rw [if_neg (fun h => absurd ((n_le (by omega) (by omega)).mp h) (by omega)), qb1 eA, w46', hk, if_neg (show ¬ b2 true = 0 by decide), w45', if_neg (by
      cases h0 : c.2.1 (oEv P dn lt) with
      | none => exact absurd (Or.inl h0) hn
      | some v0 =>
        cases h1 : c.2.2.1 (oEv P dn lt) with
        | none => exact absurd (Or.inr h1) hn
        | some v1 => exact (show ¬ b2 true = 0 by decide)), ← eK, n_1]
end STEP

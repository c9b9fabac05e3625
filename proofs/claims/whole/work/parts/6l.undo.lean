/-! acts of both, kept for undo; the four calls; undo -/
def actOk (fE fM : zSt → Option (Int32 × zSt)) (P : zP) (es : List (Nat × zMv)) (k : Nat) : Prop :=
  (∃ r p q, rfP r p q ∧ (∀ S, cRep S 1 P → zT7 S → ∃ X, fE S = some (r, X) ∧ zCo S X) ∧ ∀ S, mRep S 74 0 P → ∃ Y, fM S = some (r, Y) ∧ zCo S Y) ∨
  (∃ (r : Nat) (m : zMv), r < 1000 ∧ pOK (pSet P m) ∧ (∀ S, cRep S 1 P → zT7 S → jC S P es → ∃ X, fE S = some (nI r, X) ∧ cK S X ∧ cRep X 1 (pSet P m) ∧ jC X P (pushJ es (k, pMv P))) ∧ ∀ S, mRep S 74 0 P → jM S P es → ∃ Y, fM S = some (nI r, Y) ∧ rK S Y ∧ mRep Y 74 0 (pSet P m) ∧ jM Y P (pushJ es (k, pMv P)))
theorem act_122 (fu : Nat) {S X0 : zSt} {P P' : zP} {es : List (Nat × zMv)} (h : cRep S 1 P) (hP' : cRep X0 1 P') (hW : pW 1 S X0) (hj : jC S P es) (hl : es.length ≤ 16) (k : Nat) {r : Nat} (hr : r < 1000) : ∃ X, f_E_act_122 fu (nI k) (zI S 1 5) (zI S 1 6) (zL S 1 4) (zL S 1 3) (nI r) X0 = some (nI r, X) ∧ cK S X ∧ cRep X 1 P' ∧ jC X P (pushJ es (k, pMv P)) := by
  have j0 : jC X0 P es := jC_f hj (fun j a b => by funext q; exact hW.2.1 j q (by unfold scI; omega) (by omega)) (fun j a => by funext q; exact hW.2.2 j q (by unfold scL; omega) (by omega))
  obtain ⟨X, x1, x2, x3, x4, x5⟩ := jadd_ok j0 hl (k := k) (m := pMv P) (x := zL S 1 4) (y := zL S 1 3) h.2.2.2.2.1 h.2.2.2.2.2.1 h.2.2.2.1
  refine ⟨X, ?_, ⟨x5.trans hW.1, fun j q a b c => ?_, fun j q a b c => ?_⟩, ?_, x2⟩
  · unfold f_E_act_122
    have e5 : zI S 1 5 = nI (pMv P).1 := h.2.2.2.2.2.2.1
    have e6 : zI S 1 6 = nI (pMv P).2.1 := h.2.2.2.2.2.2.2.1
    rw [if_neg (n_neg (by omega)), e5, e6, qb1 x1]
  · rw [x3 j (by omega)]; exact hW.2.1 j q a b
  · rw [x4 j (by omega) (by omega)]; exact hW.2.2 j q a b
  · exact cRep_f hP' (fun j a b => x3 j (by omega)) (x4 1 (by omega) (by omega)) (by unfold zR; rw [x5]) (by unfold zN; rw [x5]; exact Nat.le_refl _) (fun j a b => ⟨x3 j (by omega), by unfold zA; rw [x5]⟩)
theorem act_122n (fu : Nat) {X0 : zSt} {v : Int32} {p q : Nat} (hv : rfP v p q) (k a4 a5 : Int32) (a6 a8 : Int64) : f_E_act_122 fu k a4 a5 a6 a8 v X0 = some (v, X0) := by
  have : v < 0 := by rcases hv with ⟨rfl, -⟩ | ⟨rfl, -⟩ | ⟨rfl, -⟩ | ⟨rfl, -⟩ | ⟨rfl, -⟩ <;> decide
  unfold f_E_act_122
  rw [if_pos this]
theorem rK_keeps {S Y : zSt} (h1 : Y.2 = S.2) (h2 : ∀ j, j ≠ 86 → j ≠ 72 → zI Y j = zI S j) (h3 : ∀ q, q ≠ 32 → zI Y 72 q = zI S 72 q) : rK S Y := by
  refine ⟨by rw [h1], fun j k _ _ c d => ?_, fun j k _ => by unfold zL; rw [h1]⟩
  by_cases e : j = 72
  · rw [e]; exact h3 k (by omega)
  · rw [h2 j c e]
theorem mRep_keeps {S Y : zSt} {P : zP} (h : mRep S 74 0 P) (hP : pOK P) (h2 : ∀ j, j ≠ 86 → j ≠ 72 → zI Y j = zI S j) : mRep Y 74 0 P := mRep_f h (fun k _ => by rw [h2 74 (by omega) (by omega)]) hP
theorem jM_mw {S Y : zSt} {P : zP} {es : List (Nat × zMv)} (h : jM S P es) (hW : mW S Y) : jM Y P es := jM_f h (by funext k; exact hW.2.1 86 k (by unfold scI; omega) (by omega)) (hW.2.1 72 32 (by unfold scI; omega) (by omega))
theorem act_swim (fu : Nat) (hfu : 10000 ≤ fu) {P : zP} {es : List (Nat × zMv)} (hP : pOK P) (hG : lawG (pLaw P)) (hl : es.length ≤ 16) (a : Int32) : actOk (f_E_act fu 0 a 0) (f_M_swimsKept fu a) P es 0 := by
  have h9 := hP.1
  rcases spr_or P a with ⟨s, hs, rfl⟩ | ha
  · have hat : pAt P < pN P := by
      rcases hP.2.2.2.2.2.2.2.2.1 with h | h <;> omega
    cases hp : pPs P (pLaw P) (pAt P) s with
    | true =>
      have hp2 := of_decide_eq_true hp
      obtain ⟨r, r1, r2, r3⟩ := takes_rg hP (pLaw P) (a := pAt P) (b := s) (by omega) (by omega) hp2.2.1
      refine Or.inr ⟨r, mvSwim P s, by omega, ok_swim hP hs, fun S hc hT hj => ?_, fun S hm hj => ?_⟩
      · obtain ⟨S1, c1, e1⟩ := goTo_ok fu (by omega) hc hP hG (by omega) hT hs
        rw [if_pos hp, r3] at e1
        obtain ⟨X, x1, x2, x3, x4⟩ := act_122 fu hc (cRep_swim hc (by omega) c1 s) (pW_t (pW_co c1) (pW_w S1 _ (Or.inl rfl))) hj hl 0 (r := r) (by omega)
        refine ⟨X, ?_, x2, x3, x4⟩
        unfold f_E_act
        rw [if_pos rfl, qb2 e1]
        exact x1
      · obtain ⟨S1, e1, f1⟩ := m_passed fu (by omega) hm hP hat hs
        rw [hp] at e1
        have hm1 := mRep_co hm f1.1 (Or.inl rfl) hP
        obtain ⟨S2, e2, c2, f2⟩ := m_takes_for fu (by omega) hm1 hP hat hs hp2.1
        have hm2 := mRep_co hm1 c2 (Or.inl rfl) hP
        have c12 := zCo_t f1.1 c2
        have j2 := jM_mw hj (mW_co c12)
        obtain ⟨Y, y1, y2, y3, y4, y5⟩ := keeps_ok fu hfu hm2 hP j2 hl 0
        have e74 : zI S 74 0 = nI (pAt P) := hm.2.2.2.2.2.1
        have e741 : zI S1 74 0 = nI (pAt P) := hm1.2.2.2.2.2.1
        have hW := mW_w (k := 0) Y (nI s) (by omega)
        refine ⟨zwI Y 74 0 (nI s), ?_, rK_t (rK_mw (mW_co c12)) (rK_t (rK_keeps y3 y4 y5) (rK_mw hW)), m_swim_w (mRep_keeps hm2 hP y4) hP s, jM_mw y2 hW⟩
        unfold f_M_swimsKept
        rw [qb1 (m_spr_yes hm hP hs), if_neg (by decide), show (0 : Int32).toNatClampNeg = 0 from rfl, e74, qb2 e1, if_neg (by decide), e741, qb2 e2, r3, qb1 (show f_M_keeps fu 0 S2 = some Y from y1)]
    | false =>
      refine Or.inl ⟨-3, 2, 3, rf3, fun S hc hT => ?_, fun S hm => ?_⟩
      · obtain ⟨S1, c1, e1⟩ := goTo_ok fu (by omega) hc hP hG (by omega) hT hs
        rw [if_neg (by rw [hp]; decide)] at e1
        refine ⟨S1, ?_, c1⟩
        unfold f_E_act
        rw [if_pos rfl, qb2 e1]
        exact act_122n fu rf3 _ _ _ _ _
      · obtain ⟨S1, e1, f1⟩ := m_passed fu (by omega) hm hP hat hs
        rw [hp] at e1
        have e74 : zI S 74 0 = nI (pAt P) := hm.2.2.2.2.2.1
        refine ⟨S1, ?_, f1.1⟩
        unfold f_M_swimsKept
        rw [qb1 (m_spr_yes hm hP hs), if_neg (by decide), show (0 : Int32).toNatClampNeg = 0 from rfl, e74, qb2 e1, if_pos (by decide)]
  · refine Or.inl ⟨-2, 1, 2, rf2, fun S hc hT => ⟨S, ?_, zCo_r S⟩, fun S hm => ⟨S, ?_, zCo_r S⟩⟩
    · unfold f_E_act
      rw [if_pos rfl, qb2 (goTo_no fu hc hP ha)]
      exact act_122n fu rf2 _ _ _ _ _
    · unfold f_M_swimsKept
      rw [qb1 (m_spr_no hm hP ha), if_pos rfl]
theorem act_gate (fu : Nat) (hfu : 10000 ≤ fu) {P : zP} {es : List (Nat × zMv)} (hP : pOK P) (hl : es.length ≤ 16) (a b : Int32) : actOk (f_E_act fu 1 a b) (f_M_gatesKept fu a b) P es 1 := by
  have h9 := hP.1
  have E : ∀ S, f_E_act fu 1 a b S = zb2 (f_Ps_turnGate 1 a b S) (fun r7 S8 => f_E_act_122 fu 1 (zI S 1 5) (zI S 1 6) (zL S 1 4) (zL S 1 3) r7 S8) := fun S => by
    unfold f_E_act
    rw [if_neg (by decide), if_pos rfl]
  by_cases hab : a = b
  · refine Or.inl ⟨-1, 0, 1, rf1, fun S hc hT => ⟨S, ?_, zCo_r S⟩, fun S hm => ⟨S, ?_, zCo_r S⟩⟩
    · rw [E, hab, qb2 (gate_eq b)]
      exact act_122n fu rf1 _ _ _ _ _
    · unfold f_M_gatesKept
      rw [if_pos hab]
  rcases two_or P a b with ⟨x, y, hx, hy, hxy, rfl, rfl⟩ | hn
  · by_cases hf : pFar P x y = 0
    · refine Or.inl ⟨-3, 2, 3, rf3, fun S hc hT => ⟨S, ?_, zCo_r S⟩, fun S hm => ⟨S, ?_, zCo_r S⟩⟩
      · have e := gate_ok hc hP hx hy hxy
        rw [if_pos hf] at e
        rw [E, qb2 e]
        exact act_122n fu rf3 _ _ _ _ _
      · unfold f_M_gatesKept
        rw [if_neg hab, qb1 (m_two_yes hm hP hx hy hxy), if_neg (by decide), qb1 (m_far hm (by omega) (by omega) hxy), if_pos hf]
    · obtain ⟨r, hr, er⟩ : ∃ r : Nat, r < 1000 ∧ b2 (!pSh P x y) = nI r := by
        cases pSh P x y with
        | true => exact ⟨0, by omega, rfl⟩
        | false => exact ⟨1, by omega, rfl⟩
      refine Or.inr ⟨r, mvGate P x y, hr, ok_gate hP hx hy hf, fun S hc hT hj => ?_, fun S hm hj => ?_⟩
      · have e := gate_ok hc hP hx hy hxy
        rw [if_neg hf, er] at e
        obtain ⟨X, x1, x2, x3, x4⟩ := act_122 fu hc (cRep_gate hc (by omega) (by omega) (by omega) hxy) (pW_wL S _ (Or.inr rfl)) hj hl 1 hr
        refine ⟨X, ?_, x2, x3, x4⟩
        rw [E, qb2 e]
        exact x1
      · obtain ⟨Y0, y1, y2, y3, y4, y5⟩ := keeps_ok fu hfu hm hP hj hl 1
        obtain ⟨Y, z1, z2, z3⟩ := m_gate_w (mRep_keeps hm hP y4) hP hx hy hxy
        refine ⟨Y, ?_, rK_t (rK_keeps y3 y4 y5) (rK_mw z3), z2, jM_mw y2 z3⟩
        rw [er] at z1
        unfold f_M_gatesKept
        rw [if_neg hab, qb1 (m_two_yes hm hP hx hy hxy), if_neg (by decide), qb1 (m_far hm (by omega) (by omega) hxy), if_neg hf, qb1 (show f_M_keeps fu 1 S = some Y0 from y1), qb2 z1]
  · refine Or.inl ⟨-2, 1, 2, rf2, fun S hc hT => ⟨S, ?_, zCo_r S⟩, fun S hm => ⟨S, ?_, zCo_r S⟩⟩
    · rw [E, qb2 (gate_no hc hP hab hn)]
      exact act_122n fu rf2 _ _ _ _ _
    · unfold f_M_gatesKept
      rw [if_neg hab, qb1 (m_two_no hm hP hn), if_pos rfl]
theorem act_stir (fu : Nat) (hfu : 10000 ≤ fu) {P : zP} {es : List (Nat × zMv)} (hP : pOK P) (hl : es.length ≤ 16) (a d : Int32) : actOk (f_E_act fu 2 a d) (f_M_stirsKept fu a d) P es 2 := by
  have h9 := hP.1
  have E : ∀ S, f_E_act fu 2 a d S = zb2 (f_Ps_muddy 1 a d S) (fun r7 S8 => f_E_act_122 fu 2 (zI S 1 5) (zI S 1 6) (zL S 1 4) (zL S 1 3) r7 S8) := fun S => by
    unfold f_E_act
    rw [if_neg (by decide), if_neg (by decide), if_pos rfl]
  rcases rng_or d 0 9 with ⟨v, -, hv, rfl⟩ | hd
  · have c3 : f_M_lies (nI v) 0 9 = some 1 := lies_yes (lo := 0) (hi := 9) (by omega) hv (by omega)
    rcases spr_or P a with ⟨s, hs, rfl⟩ | ha
    · have em : ∀ S, mRep S 74 0 P → zI S 74 (1 + s) = pMud P s := fun S hm => by
        have := hm.2.2.2.1 s hs
        rw [Nat.zero_add] at this
        exact this
      by_cases he : pMud P s = nI v
      · refine Or.inl ⟨-3, 2, 3, rf3, fun S hc hT => ⟨S, ?_, zCo_r S⟩, fun S hm => ⟨S, ?_, zCo_r S⟩⟩
        · have e := muddy_ok hc hP hv hs
          rw [if_pos he] at e
          rw [E, qb2 e]
          exact act_122n fu rf3 _ _ _ _ _
        · unfold f_M_stirsKept
          rw [qb1 c3, if_neg (by decide), qb1 (m_spr_yes hm hP hs), if_neg (by decide), show (1 : Int32) + nI s = nI (1 + s) from n_add 1 s, n_gd (by omega) (by omega), q_cl (by omega), em S hm, if_pos he]
      · obtain ⟨r, hr, er⟩ := hP.2.2.1 s hs
        refine Or.inr ⟨r, mvStir P s (nI v), by omega, ok_stir hP hv, fun S hc hT hj => ?_, fun S hm hj => ?_⟩
        · have e := muddy_ok hc hP hv hs
          rw [if_neg he, er] at e
          obtain ⟨X, x1, x2, x3, x4⟩ := act_122 fu hc (cRep_stir hc hP (by omega) hv hs) (pW_wL S _ (Or.inl rfl)) hj hl 2 (r := r) (by omega)
          refine ⟨X, ?_, x2, x3, x4⟩
          rw [E, qb2 e]
          exact x1
        · obtain ⟨Y0, y1, y2, y3, y4, y5⟩ := keeps_ok fu hfu hm hP hj hl 2
          have hW := mW_w (k := 1 + s) Y0 (nI v) (by omega)
          refine ⟨zwI Y0 74 (1 + s) (nI v), ?_, rK_t (rK_keeps y3 y4 y5) (rK_mw hW), m_stir_w (mRep_keeps hm hP y4) hP hs _, jM_mw y2 hW⟩
          unfold f_M_stirsKept
          rw [qb1 c3, if_neg (by decide), qb1 (m_spr_yes hm hP hs), if_neg (by decide), show (1 : Int32) + nI s = nI (1 + s) from n_add 1 s, n_gd (by omega) (by omega), q_cl (by omega), em S hm, if_neg he, qb1 (show f_M_keeps fu 2 S = some Y0 from y1), qgd ⟨n_0 (by omega), by omega⟩, er]
    · refine Or.inl ⟨-2, 1, 2, rf2, fun S hc hT => ⟨S, ?_, zCo_r S⟩, fun S hm => ⟨S, ?_, zCo_r S⟩⟩
      · rw [E, qb2 (muddy_no hc hP hv ha)]
        exact act_122n fu rf2 _ _ _ _ _
      · unfold f_M_stirsKept
        rw [qb1 c3, if_neg (by decide), qb1 (m_spr_no hm hP ha), if_pos rfl]
  · refine Or.inl ⟨-1, 0, 1, rf1, fun S hc hT => ⟨S, ?_, zCo_r S⟩, fun S hm => ⟨S, ?_, zCo_r S⟩⟩
    · rw [E, qb2 (muddy_out hd)]
      exact act_122n fu rf1 _ _ _ _ _
    · have e5 : f_M_lies d 0 9 = some 0 := lies_no (lo := 0) (hi := 9) (by omega) (by omega) hd
      unfold f_M_stirsKept
      rw [qb1 e5, if_pos rfl]
theorem act_pass (fu : Nat) (hfu : 10000 ≤ fu) {P : zP} {es : List (Nat × zMv)} (hP : pOK P) (hl : es.length ≤ 16) : actOk (f_E_act fu 3 0 0) (f_M_passesKept fu) P es 3 := by
  have h9 := hP.1
  have p10 := hP.2.2.2.2.2.2.2.2.2.1
  have E : ∀ S, f_E_act fu 3 0 0 S = zb2 (f_Ps_nextDay fu 1 S) (fun r7 S8 => f_E_act_122 fu 3 (zI S 1 5) (zI S 1 6) (zL S 1 4) (zL S 1 3) r7 S8) := fun S => by
    unfold f_E_act
    rw [if_neg (by decide), if_neg (by decide), if_neg (by decide)]
  have e91 : ∀ S, mRep S 74 0 P → zI S 74 91 = nI (pDay P) := fun S hm => by
    have := hm.2.2.2.2.2.2.1
    rw [Nat.zero_add] at this
    exact this
  by_cases hd : pDay P < 999
  · have hch := chN_le P (pN P)
    refine Or.inr ⟨chN P (pN P), mvPass P, by omega, ok_pass hP hd, fun S hc hT hj => ?_, fun S hm hj => ?_⟩
    · obtain ⟨S1, acc, c1, e1, r1⟩ := (day_ok fu (by omega) hc hP (by omega) hT).2 hd
      obtain ⟨X, x1, x2, x3, x4⟩ := act_122 fu hc r1 (pW_t (pW_co c1) (pW_t (pW_wL S1 _ (Or.inl rfl)) (pW_w _ _ (Or.inr rfl)))) hj hl 3 (r := chN P (pN P)) (by omega)
      refine ⟨X, ?_, x2, x3, x4⟩
      rw [E, qb2 e1]
      exact x1
    · obtain ⟨Y0, y1, y2, y3, y4, y5⟩ := keeps_ok fu hfu hm hP hj hl 3
      obtain ⟨Y, z1, z2, z3⟩ := m_day_ok fu (by omega) (mRep_keeps hm hP y4) hP
      refine ⟨Y, ?_, rK_t (rK_keeps y3 y4 y5) (rK_mw z3), z2, jM_mw y2 z3⟩
      unfold f_M_passesKept
      rw [show (91 : Int32).toNatClampNeg = 91 from rfl, e91 S hm, if_neg (show ¬ nI (pDay P) = 999 from fun h => absurd ((n_eq (b := 999) (by omega) (by omega)).mp h) (by omega)), qb1 (show f_M_keeps fu 3 S = some Y0 from y1), qb2 z1]
  · refine Or.inl ⟨-3, 2, 3, rf3, fun S hc hT => ⟨S, ?_, zCo_r S⟩, fun S hm => ⟨S, ?_, zCo_r S⟩⟩
    · rw [E, qb2 ((day_ok fu (by omega) hc hP (by omega) hT).1 (by omega))]
      exact act_122n fu rf3 _ _ _ _ _
    · unfold f_M_passesKept
      rw [show (91 : Int32).toNatClampNeg = 91 from rfl, e91 S hm, if_pos (show nI (pDay P) = 999 from (n_eq (b := 999) (by omega) (by omega)).mpr (by omega))]
theorem rf_neg {v : Int32} {p q : Nat} (hv : rfP v p q) : ¬ 0 ≤ v := by
  rcases hv with ⟨rfl, -⟩ | ⟨rfl, -⟩ | ⟨rfl, -⟩ | ⟨rfl, -⟩ | ⟨rfl, -⟩ <;> decide
theorem call_act {S : zSt} {P : zP} {es : List (Nat × zMv)} (h : Inv S) (hP : pOK P) (hc : cRep S 1 P) (hm : mRep S 74 0 P) (hj : jRel S P es) (hs : iSt S) {fE fM : zSt → Option (Int32 × zSt)} {k : Nat} (hk : k ≤ 3) (ha : actOk fE fM P es k) : cOk (fun S => zb2 (fE S) (fun r2 S3 => zb2 (f_E_answered r2 S3) (fun r5 S6 => some (r5, S6)))) (fun S => zb2 (fM S) (fun r2 S3 => zb2 (f_M_goodOr r2 S3) (fun r5 S6 => some (r5, S6)))) S := by
  obtain ⟨jo, jc, jm⟩ := jRel_is.mp hj
  rcases ha with ⟨r, p, q, hv, gE, gM⟩ | ⟨r, m, hr, hok, gE, gM⟩
  · obtain ⟨X, x1, x2⟩ := gE S hc hs.1
    obtain ⟨Y, y1, y2⟩ := gM (rS1 X r p) (rS1_m (mRep_co hm x2 (Or.inl rfl) hP) hP r p)
    refine cOk_ref2 h hv (X := X) (Y := Y) ?_ x2 ?_ y2
    · show zb2 (fE S) _ = _
      rw [qb2 x1, zb2_eta]
      unfold f_E_answered
      rw [if_neg (rf_neg hv), zb2_eta]
    · show zb2 (fM (rS1 X r p)) _ = _
      rw [qb2 y1, zb2_eta]
      unfold f_M_goodOr
      rw [if_neg (rf_neg hv), zb2_eta]
  · obtain ⟨X, x1, x2, x3, x4⟩ := gE S hc hs.1 jc
    have hm1 : mRep (zwI X 0 19 0) 74 0 P := mRep_f (mRep_ck hm x2 hP) (fun k _ => by rw [qIIo _ _ (by omega)]) hP
    have jm1 : jM (zwI X 0 19 0) P es := jM_f (jM_ck jm x2) (by funext k; exact qIIo _ _ (by omega)) (qIIo _ _ (by omega))
    obtain ⟨Y, y1, y2, y3, y4⟩ := gM _ hm1 jm1
    have hpo : pOK (pSet P (pMv P)) := hP
    refine cOk_act h (v := nI r) (X := X) (Y := Y) ?_ x2 ?_ y2 hok x3 y3 (jO_push jo hk hpo) x4 y4
    · show zb2 (fE S) _ = _
      rw [qb2 x1, zb2_eta]
      unfold f_E_answered
      rw [if_pos (n_0 (by omega)), zb2_eta]
      rfl
    · show zb2 (fM (zwI X 0 19 0)) _ = _
      rw [qb2 y1, zb2_eta]
      unfold f_M_goodOr
      rw [if_pos (n_0 (by omega)), zb2_eta]
      rfl
theorem inv_G {S : zSt} {P : zP} (hm : mRep S 74 0 P) (hP : pOK P) : lawG (pLaw P) := m_lawG hm _ hP.2.2.2.2.2.2.2.2.2.2.2.2.2.2.2
theorem call_swim (fu : Nat) (hfu : 10000 ≤ fu) {S : zSt} (h : Inv S) (a : Int32) : cOk (f_E_swim fu a) (f_M_swim fu a) S := by
  obtain ⟨P, es, hP, hc, hm, hj, hi, ht, hms, hd, hs⟩ := id h
  exact call_act h hP hc hm hj hs (by omega) (act_swim fu hfu hP (inv_G hm hP) hj.1 a)
theorem call_gate (fu : Nat) (hfu : 10000 ≤ fu) {S : zSt} (h : Inv S) (a b : Int32) : cOk (f_E_gate fu a b) (f_M_gate fu a b) S := by
  obtain ⟨P, es, hP, hc, hm, hj, hi, ht, hms, hd, hs⟩ := id h
  exact call_act h hP hc hm hj hs (by omega) (act_gate fu hfu hP hj.1 a b)
theorem call_stir (fu : Nat) (hfu : 10000 ≤ fu) {S : zSt} (h : Inv S) (a b : Int32) : cOk (f_E_stir fu a b) (f_M_stir fu a b) S := by
  obtain ⟨P, es, hP, hc, hm, hj, hi, ht, hms, hd, hs⟩ := id h
  exact call_act h hP hc hm hj hs (by omega) (act_stir fu hfu hP hj.1 a b)
theorem call_pass (fu : Nat) (hfu : 10000 ≤ fu) {S : zSt} (h : Inv S) : cOk (f_E_pass fu) (f_M_pass fu) S := by
  obtain ⟨P, es, hP, hc, hm, hj, hi, ht, hms, hd, hs⟩ := id h
  exact call_act h hP hc hm hj hs (by omega) (act_pass fu hfu hP hj.1)

/-! undo -/
theorem and15b : ∀ n, n < 40 → (nI n + 15) &&& 15 = nI ((n + 15) % 16) := by decide +kernel
theorem undo_34 (fu : Nat) {b : Nat} (hb : b + 92 ≤ 1488) : ∀ (m i n : Nat) (S : zSt), i + m = 92 → m + 1 ≤ n → ∃ S1, f_M_undo_34 fu n (nI b) (nI i) S = f_M_undo_60 fu (nI b) S1 ∧ oR 74 S S1 ∧ ∀ k, zI S1 74 k = if i ≤ k ∧ k < 92 then zI S 86 (b + k) else zI S 74 k := by
  intro m
  induction m with
  | zero =>
    intro i n S h1 h2
    obtain ⟨n', rfl⟩ : ∃ n', n = n' + 1 := ⟨n - 1, by omega⟩
    refine ⟨S, ?_, oR_r _ S, fun k => by rw [if_neg (by omega)]⟩
    unfold f_M_undo_34
    rw [if_pos (show (92 : Int32) ≤ nI i from (n_le (a := 92) (by omega) (by omega)).mpr (by omega))]
  | succ m ih =>
    intro i n S h1 h2
    obtain ⟨n', rfl⟩ : ∃ n', n = n' + 1 := ⟨n - 1, by omega⟩
    obtain ⟨S1, g1, g2, g3⟩ := ih (i + 1) n' (zwI S 74 i (zI S 86 (b + i))) (by omega) (by omega)
    refine ⟨S1, ?_, oR_t (oR_w _ _ _ _) g2, fun k => ?_⟩
    · rw [← g1]
      obtain ⟨K, eK⟩ : ∃ K, K = f_M_undo_34 fu n' := ⟨_, rfl⟩
      rw [← eK]
      unfold f_M_undo_34
      rw [if_neg (show ¬ (92 : Int32) ≤ nI i from fun h => absurd ((n_le (a := 92) (by omega) (by omega)).mp h) (by omega)), n_add, n_gd (by omega) (by omega), n_gd (by omega) (by omega), q_cl (by omega), q_cl (by omega), n_1, ← eK]
    · rw [g3]
      by_cases c : i + 1 ≤ k ∧ k < 92
      · rw [if_pos c, if_pos (by omega), qIIo _ _ (by omega)]
      · rw [if_neg c, qII]
        by_cases c2 : k = i
        · rw [if_pos ⟨rfl, c2⟩, if_pos (by omega), c2]
        · rw [if_neg (fun h => c2 h.2), if_neg (by omega)]
theorem call_undo (fu : Nat) (hfu : 10000 ≤ fu) {S : zSt} (h : Inv S) : cOk f_E_undo (f_M_undo fu) S := by
  obtain ⟨P, es, hP, hc, hm, hj, hi, ht, hms, hd, hs⟩ := id h
  have h9 := hP.1
  obtain ⟨jo, jc, jm⟩ := jRel_is.mp hj
  cases es with
  | nil =>
    refine cOk_ref h rf3 ?_ ?_
    · have e : f_Jo_takeBack 32 1 S = some (-3, S) := by
        unfold f_Jo_takeBack
        rw [jc.1, if_neg (show ¬ (0 : Int32) < nI ([] : List (Nat × zMv)).length by decide)]
      unfold f_E_undo
      rw [qb2 e, zb2_eta]
      unfold f_E_answered
      rw [if_neg (by decide), zb2_eta]
    · have e : zI (rS1 S (-3) 2) 72 32 = 0 := by rw [rS1_I _ _ _ (by omega), jm.1]; rfl
      unfold f_M_undo
      rw [if_pos e, zb2_eta]
  | cons e rest =>
    have hlen : (e :: rest).length = rest.length + 1 := rfl
    have hl16 : rest.length + 1 ≤ 16 := jo.1
    obtain ⟨c1, nx, c2, c3, c4⟩ := jc
    obtain ⟨ek, eok⟩ := jo.2 0 e rfl
    obtain ⟨a1, a2, a3, a4, a5, a6⟩ := c4 0 e rfl
    obtain ⟨q, eq⟩ : ∃ q, q = (nx + 15) % 16 := ⟨_, rfl⟩
    have eq2 : (nx + 31 - 0) % 16 = q := by omega
    rw [eq2] at a1 a2 a3 a4 a5 a6
    rw [hlen] at c1
    have ea : (nI nx + 15) &&& 15 = nI q := by rw [eq]; exact and15b nx (by omega)
    obtain ⟨S0, eS0⟩ : ∃ S0, S0 = zwI (zwI S 32 0 (nI rest.length)) 32 1 (nI q) := ⟨_, rfl⟩
    obtain ⟨X, eX⟩ : ∃ X, X = zwL (zwL (zwI (zwI S0 1 5 (nI e.2.1)) 1 6 (nI e.2.2.1)) 1 4 (zL S 36 q)) 1 3 (zL S 37 q) := ⟨_, rfl⟩
    have I0 : ∀ j, j ≠ 32 → zI S0 j = zI S j := fun j hj => by funext k; rw [eS0, qIIo _ _ (by omega), qIIo _ _ (by omega)]
    have hX0 : cX S S0 := by rw [eS0]; exact cX_t (cX_w _ _ (by omega)) (cX_w _ _ (by omega))
    have pX : pW 1 S0 X := by rw [eX]; exact pW_t (pW_w _ _ (Or.inl rfl)) (pW_t (pW_w _ _ (Or.inr rfl)) (pW_t (pW_wL _ _ (Or.inr rfl)) (pW_wL _ _ (Or.inl rfl))))
    have hc0 : cRep S0 1 P := cRep_up hc hX0.1 (fun j _ b => I0 j (by omega)) (by rw [eS0]; rfl)
    have XI : ∀ j k, zI X j k = if j = 1 ∧ k = 6 then nI e.2.2.1 else if j = 1 ∧ k = 5 then nI e.2.1 else zI S0 j k := fun j k => by rw [eX]; rfl
    have XL : ∀ j k, zL X j k = if j = 1 ∧ k = 3 then zL S 37 q else if j = 1 ∧ k = 4 then zL S 36 q else zL S j k := fun j k => by rw [eX, eS0]; rfl
    have hcX : cRep X 1 (pSet P e.2) := by
      refine cRep_pw hc0 (by omega) pX e.2 ?_ ?_ (fun s hss => ?_) (fun a b ha hb hab => ?_) (fun p hp => ?_)
      · rw [XI, if_neg (by omega), if_pos ⟨rfl, rfl⟩]
      · rw [XI, if_pos ⟨rfl, rfl⟩]
      · rw [XL, if_pos ⟨rfl, rfl⟩]; exact a6 s hss
      · rw [XL, if_neg (by omega), if_pos ⟨rfl, rfl⟩]; exact a4 a b ha hb hab
      · rw [XL, if_neg (by omega), if_pos ⟨rfl, rfl⟩]; exact a5 p hp
    have hcK : cK S X := by
      refine ⟨pX.1.trans hX0.1.1, fun j k a b c => ?_, fun j k a b c => ?_⟩
      · rw [XI, if_neg (by omega), if_neg (by omega), I0 j (by omega)]
      · rw [XL, if_neg (by omega), if_neg (by omega)]
    have E : f_Jo_takeBack 32 1 S = some (nI e.1, X) := by
      unfold f_Jo_takeBack
      rw [c1, if_pos (show (0 : Int32) < nI (rest.length + 1) from (n_lt (a := 0) (by omega) (by omega)).mpr (by omega)), c3, ea, n_gd (by omega) (by omega), n_gd (by omega) (by omega), n_gd (by omega) (by omega), n_gd (by omega) (by omega), n_gd (by omega) (by omega), q_cl (by omega), show nI (rest.length + 1) - 1 = nI rest.length from n_sub (b := 1) (by omega), ← eS0]
      have b1 : zI S0 (32 + 2) q = nI e.2.1 := by rw [I0 34 (by omega)]; exact a2
      rw [b1]
      have b2' : zI (zwI S0 1 5 (nI e.2.1)) (32 + 3) q = nI e.2.2.1 := by rw [qIIo _ _ (by omega), I0 35 (by omega)]; exact a3
      rw [b2']
      have b3 : zL (zwI (zwI S0 1 5 (nI e.2.1)) 1 6 (nI e.2.2.1)) (32 + 4) q = zL S 36 q := by rw [eS0]; rfl
      rw [b3]
      have b4 : zL (zwL (zwI (zwI S0 1 5 (nI e.2.1)) 1 6 (nI e.2.2.1)) 1 4 (zL S 36 q)) (32 + 5) q = zL S 37 q := by rw [qLL, if_neg (by omega), eS0]; rfl
      rw [b4, ← eX]
      have b5 : zI X (32 + 1) q = nI e.1 := by rw [XI, if_neg (by omega), if_neg (by omega), I0 33 (by omega)]; exact a1
      rw [b5]
    obtain ⟨X1, eX1⟩ : ∃ X1, X1 = zwI X 0 19 0 := ⟨_, rfl⟩
    have F1 : ∀ j, j ≠ 0 → zI X1 j = zI X j := fun j hj => by funext k; rw [eX1, qIIo _ _ (by omega)]
    have jm1 : jM X1 P (e :: rest) := jM_f (jM_ck jm hcK) (F1 86 (by omega)) (by rw [F1 72 (by omega)])
    obtain ⟨m1, m2⟩ := jM_is.mp jm1
    have m3 := m2 0 e rfl
    rw [hlen] at m1
    have e93 : (93 : Int32) * nI rest.length = nI (93 * rest.length) := n_mul 93 _
    obtain ⟨S2, eS2⟩ : ∃ S2, S2 = zwI X1 72 32 (nI rest.length) := ⟨_, rfl⟩
    obtain ⟨Y, y1, y2, y3⟩ := undo_34 fu (b := 93 * rest.length) (by omega) 92 0 fu S2 (by omega) (by omega)
    have R86 : zI S2 86 = zI X1 86 := by rw [eS2]; funext k; exact qIIo _ _ (by omega)
    have hm2 : mRep S2 74 0 P := mRep_f hm (fun k _ => by rw [eS2, qIIo _ _ (by omega), F1 74 (by omega)]; exact hcK.2.1 74 _ (by unfold scI; omega) (by omega) (by omega)) hP
    have hmW : mW S2 Y := by
      refine ⟨by rw [y2.1], fun j k a b => ?_, fun j k _ => by unfold zL; rw [y2.1]⟩
      by_cases c : j = 74
      · rw [c, y3, if_neg (by omega)]
      · exact y2.2 j k c
    have eb : 93 * ((e :: rest).length - 1 - 0) = 93 * rest.length := by rw [hlen]; rfl
    rw [eb] at m3
    obtain ⟨n1, n2, n3, n4, n5⟩ := m3
    have hmY : mRep Y 74 0 (pSet P e.2) := by
      refine mRep_mw hm2 hP hmW e.2 ?_ ?_ (fun s hss => ?_) (fun a b ha hb hab => ?_)
      · rw [y3, if_pos (by omega), R86]; exact n1
      · rw [y3, if_pos (by omega), R86]; exact n4
      · rw [y3, if_pos (by omega), R86]; exact n2 s hss
      · rw [y3, if_pos (by omega), R86]; exact n3 a b ha hb hab
    have M : f_M_undo fu X1 = some (nI e.1, zwI Y 72 0 0) := by
      unfold f_M_undo
      rw [m1, if_neg (show ¬ nI (rest.length + 1) = 0 from fun h => absurd ((n_eq (b := 0) (by omega) (by omega)).mp h) (by omega)), show nI (rest.length + 1) - 1 = nI rest.length from n_sub (b := 1) (by omega), ← eS2]
      have : zI S2 72 32 = nI rest.length := by rw [eS2, qIIs]
      rw [this, e93]
      refine Eq.trans y1 ?_
      unfold f_M_undo_60
      rw [show nI (93 * rest.length) + 92 = nI (93 * rest.length + 92) from n_add _ 92, n_gd (by omega) (by omega), q_cl (by omega)]
      have : zI Y 86 (93 * rest.length + 92) = nI e.1 := by rw [y2.2 86 _ (by omega), R86]; exact n5
      rw [this]
      rfl
    have hrK : rK X1 Y := by
      have r1 : rK X1 S2 := by
        rw [eS2]
        exact ⟨rfl, fun j k _ _ _ d => qIIo _ _ d, fun _ _ _ => rfl⟩
      exact rK_t r1 (rK_mw hmW)
    rw [eX1] at M hrK
    refine cOk_act h (v := nI e.1) (X := X) (Y := Y) (P' := pSet P e.2) (es' := rest) ?_ hcK M hrK eok hcX hmY ⟨by omega, fun i x hx => jo.2 (i + 1) x hx⟩ ⟨?_, q, by omega, ?_, fun i x hx => ?_⟩ (jM_is.mpr ⟨?_, fun i x hx => ?_⟩)
    · unfold f_E_undo
      rw [qb2 E, zb2_eta]
      unfold f_E_answered
      rw [if_pos (n_0 (by omega)), zb2_eta]
      rfl
    · rw [XI, if_neg (by omega), if_neg (by omega), eS0, qIIo _ _ (by omega), qIIs]
    · rw [XI, if_neg (by omega), if_neg (by omega), eS0, qIIs]
    · have hx' := c4 (i + 1) x hx
      have hil : i < rest.length := (List.getElem?_eq_some_iff.mp hx).1
      have ei : (nx + 31 - (i + 1)) % 16 = (q + 31 - i) % 16 := by omega
      rw [ei] at hx'
      have L36 : ∀ j, j = 36 ∨ j = 37 → zL X j = zL S j := fun j hj => by funext k; rw [XL, if_neg (by omega), if_neg (by omega)]
      have L33 : ∀ j, j ≠ 1 → j ≠ 32 → zI X j = zI S j := fun j h1 h2 => by funext k; rw [XI, if_neg (by omega), if_neg (by omega), I0 j h2]
      rw [L33 33 (by omega) (by omega), L33 34 (by omega) (by omega), L33 35 (by omega) (by omega), L36 36 (by omega), L36 37 (by omega)]
      exact hx'
    · have : zI Y 72 32 = nI rest.length := by rw [y2.2 72 32 (by omega), eS2, qIIs]
      exact this
    · have hil : i < rest.length := (List.getElem?_eq_some_iff.mp hx).1
      refine jE_f (b := 93 * ((e :: rest).length - 1 - (i + 1))) h9 (m2 (i + 1) x hx) (fun k hk => ?_)
      rw [y2.2 86 _ (by omega), R86, hlen, show rest.length + 1 - 1 - (i + 1) = rest.length - 1 - i by omega]

/-! orders: acts by told numbers, what both come to -/
def oAct (fE fM : zSt → Option (Int32 × zSt)) (P : zP) (es : List (Nat × zMv)) (k : Nat) : Prop :=
  (∃ r1 r2 : Int32, r1 < 0 ∧ r2 < 0 ∧ (∀ S, cRep S 1 P → zT7 S → ∃ X, fE S = some (r1, X) ∧ zCo S X) ∧ ∀ S, mRep S 74 0 P → ∃ Y, fM S = some (r2, Y) ∧ zCo S Y) ∨
  (∃ (r : Nat) (m : zMv), r < 1000 ∧ pOK (pSet P m) ∧ (∀ S, cRep S 1 P → zT7 S → jC S P es → ∃ X, fE S = some (nI r, X) ∧ cK S X ∧ cRep X 1 (pSet P m) ∧ jC X P (pushJ es (k, pMv P))) ∧ ∀ S, mRep S 74 0 P → jM S P es → ∃ Y, fM S = some (nI r, Y) ∧ rK S Y ∧ mRep Y 74 0 (pSet P m) ∧ jM Y P (pushJ es (k, pMv P)))
theorem oa_of {fE fM : zSt → Option (Int32 × zSt)} {P : zP} {es : List (Nat × zMv)} {k : Nat} (h : actOk fE fM P es k) : oAct fE fM P es k := by
  rcases h with ⟨r, p, q, hv, gE, gM⟩ | h
  · have : r < 0 := by rcases hv with ⟨rfl, -⟩ | ⟨rfl, -⟩ | ⟨rfl, -⟩ | ⟨rfl, -⟩ | ⟨rfl, -⟩ <;> decide
    exact Or.inl ⟨r, r, this, this, gE, gM⟩
  · exact Or.inr h
/-- the same small number, or both none that a spring has -/
def gdA (a a' : Int32) : Prop := a = a' ∨ ((∀ s : Nat, s < 1000000 → a ≠ nI s) ∧ ∀ s : Nat, s < 1000000 → a' ≠ nI s)
theorem oa_swim (fu : Nat) (hfu : 10000 ≤ fu) {P : zP} {es : List (Nat × zMv)} (hP : pOK P) (hG : lawG (pLaw P)) (hl : es.length ≤ 16) {a a' : Int32} (h : gdA a a') (b : Int32) : oAct (f_E_act fu 0 a b) (f_M_swimsKept fu a') P es 0 := by
  have h9 := hP.1
  have eb : f_E_act fu 0 a b = f_E_act fu 0 a 0 := by
    funext S
    unfold f_E_act
    rw [if_pos rfl, if_pos rfl]
  rw [eb]
  rcases h with rfl | ⟨h1, h2⟩
  · exact oa_of (act_swim fu hfu hP hG hl a)
  · refine Or.inl ⟨-2, -2, by decide, by decide, fun S hc hT => ⟨S, ?_, zCo_r S⟩, fun S hm => ⟨S, ?_, zCo_r S⟩⟩
    · have e : f_Ps_goTo fu 1 a S = some (-2, S) := goTo_no fu hc hP (fun s hs => h1 s (by omega))
      unfold f_E_act
      rw [if_pos rfl, qb2 e]
      exact act_122n fu rf2 _ _ _ _ _
    · unfold f_M_swimsKept
      rw [qb1 (m_spr_no hm hP (fun s hs => h2 s (by omega))), if_pos rfl]
theorem oa_gate (fu : Nat) (hfu : 10000 ≤ fu) {P : zP} {es : List (Nat × zMv)} (hP : pOK P) (hl : es.length ≤ 16) {a a' b b' : Int32} (ha : gdA a a') (hb : gdA b b') : oAct (f_E_act fu 1 a b) (f_M_gatesKept fu a' b') P es 1 := by
  have h9 := hP.1
  by_cases hs : a = a' ∧ b = b'
  · rw [hs.1, hs.2]
    exact oa_of (act_gate fu hfu hP hl a' b')
  · have hbad : ((∀ s, s < pN P → a ≠ nI s) ∨ (∀ s, s < pN P → b ≠ nI s) ∨ a = b) ∧ ((∀ s, s < pN P → a' ≠ nI s) ∨ (∀ s, s < pN P → b' ≠ nI s) ∨ a' = b') := by
      rcases ha with ha | ⟨ha1, ha2⟩
      · rcases hb with hb | ⟨hb1, hb2⟩
        · exact absurd ⟨ha, hb⟩ hs
        · exact ⟨Or.inr (Or.inl (fun s h => hb1 s (by omega))), Or.inr (Or.inl (fun s h => hb2 s (by omega)))⟩
      · exact ⟨Or.inl (fun s h => ha1 s (by omega)), Or.inl (fun s h => ha2 s (by omega))⟩
    have gC : ∃ r1 : Int32, r1 < 0 ∧ ∀ S, cRep S 1 P → f_E_act fu 1 a b S = some (r1, S) := by
      by_cases e : a = b
      · refine ⟨-1, by decide, fun S hc => ?_⟩
        have e1 : f_Ps_turnGate 1 a b S = some (-1, S) := by rw [e]; exact gate_eq b
        unfold f_E_act
        rw [if_neg (by decide), if_pos rfl, qb2 e1]
        exact act_122n fu rf1 _ _ _ _ _
      · refine ⟨-2, by decide, fun S hc => ?_⟩
        have e1 : f_Ps_turnGate 1 a b S = some (-2, S) := gate_no hc hP e hbad.1
        unfold f_E_act
        rw [if_neg (by decide), if_pos rfl, qb2 e1]
        exact act_122n fu rf2 _ _ _ _ _
    have gM : ∃ r2 : Int32, r2 < 0 ∧ ∀ S, mRep S 74 0 P → f_M_gatesKept fu a' b' S = some (r2, S) := by
      by_cases e : a' = b'
      · refine ⟨-1, by decide, fun S hm => ?_⟩
        unfold f_M_gatesKept
        rw [if_pos e]
      · refine ⟨-2, by decide, fun S hm => ?_⟩
        unfold f_M_gatesKept
        rw [if_neg e, qb1 (m_two_no hm hP hbad.2), if_pos rfl]
    obtain ⟨r1, n1, g1⟩ := gC
    obtain ⟨r2, n2, g2⟩ := gM
    exact Or.inl ⟨r1, r2, n1, n2, fun S hc _ => ⟨S, g1 S hc, zCo_r S⟩, fun S hm => ⟨S, g2 S hm, zCo_r S⟩⟩
theorem oa_stir (fu : Nat) (hfu : 10000 ≤ fu) {P : zP} {es : List (Nat × zMv)} (hP : pOK P) (hl : es.length ≤ 16) {a a' b b' : Int32} (ha : gdA a a') (hb : gdA b b') : oAct (f_E_act fu 2 a b) (f_M_stirsKept fu a' b') P es 2 := by
  have h9 := hP.1
  by_cases hs : a = a' ∧ b = b'
  · rw [hs.1, hs.2]
    exact oa_of (act_stir fu hfu hP hl a' b')
  · have key : ∃ r1 r2 : Int32, r1 < 0 ∧ r2 < 0 ∧ (∀ S, cRep S 1 P → f_E_act fu 2 a b S = some (r1, S)) ∧ ∀ S, mRep S 74 0 P → f_M_stirsKept fu a' b' S = some (r2, S) := by
      by_cases hbb : b = b'
      · have ha2 : (∀ s : Nat, s < 1000000 → a ≠ nI s) ∧ ∀ s : Nat, s < 1000000 → a' ≠ nI s := by
          rcases ha with ha | ha
          · exact absurd ⟨ha, hbb⟩ hs
          · exact ha
        subst hbb
        rcases rng_or b 0 9 with ⟨v, -, hv, rfl⟩ | hbo
        · refine ⟨-2, -2, by decide, by decide, fun S hc => ?_, fun S hm => ?_⟩
          · have e1 : f_Ps_muddy 1 a (nI v) S = some (-2, S) := muddy_no hc hP hv (fun s h => ha2.1 s (by omega))
            unfold f_E_act
            rw [if_neg (by decide), if_neg (by decide), if_pos rfl, qb2 e1]
            exact act_122n fu rf2 _ _ _ _ _
          · have l1 : f_M_lies (nI v) 0 9 = some 1 := lies_yes (lo := 0) (hi := 9) (by omega) hv (by omega)
            unfold f_M_stirsKept
            rw [qb1 l1, if_neg (by decide), qb1 (m_spr_no hm hP (fun s h => ha2.2 s (by omega))), if_pos rfl]
        · refine ⟨-1, -1, by decide, by decide, fun S hc => ?_, fun S hm => ?_⟩
          · have e1 : f_Ps_muddy 1 a b S = some (-1, S) := muddy_out hbo
            unfold f_E_act
            rw [if_neg (by decide), if_neg (by decide), if_pos rfl, qb2 e1]
            exact act_122n fu rf1 _ _ _ _ _
          · have l1 : f_M_lies b 0 9 = some 0 := lies_no (lo := 0) (hi := 9) (by omega) (by omega) hbo
            unfold f_M_stirsKept
            rw [qb1 l1, if_pos rfl]
      · have hb2 : (∀ s : Nat, s < 1000000 → b ≠ nI s) ∧ ∀ s : Nat, s < 1000000 → b' ≠ nI s := by
          rcases hb with hb | hb
          · exact absurd hb hbb
          · exact hb
        refine ⟨-1, -1, by decide, by decide, fun S hc => ?_, fun S hm => ?_⟩
        · have e1 : f_Ps_muddy 1 a b S = some (-1, S) := muddy_out (fun v _ hv => hb2.1 v (by omega))
          unfold f_E_act
          rw [if_neg (by decide), if_neg (by decide), if_pos rfl, qb2 e1]
          exact act_122n fu rf1 _ _ _ _ _
        · have l1 : f_M_lies b' 0 9 = some 0 := lies_no (lo := 0) (hi := 9) (by omega) (by omega) (fun v _ hv => hb2.2 v (by omega))
          unfold f_M_stirsKept
          rw [qb1 l1, if_pos rfl]
    obtain ⟨r1, r2, n1, n2, g1, g2⟩ := key
    exact Or.inl ⟨r1, r2, n1, n2, fun S hc _ => ⟨S, g1 S hc, zCo_r S⟩, fun S hm => ⟨S, g2 S hm, zCo_r S⟩⟩
theorem oa_pass (fu : Nat) (hfu : 10000 ≤ fu) {P : zP} {es : List (Nat × zMv)} (hP : pOK P) (hl : es.length ≤ 16) (a b : Int32) : oAct (f_E_act fu 3 a b) (f_M_passesKept fu) P es 3 := by
  have eb : f_E_act fu 3 a b = f_E_act fu 3 0 0 := by
    funext S
    unfold f_E_act
    rw [if_neg (by decide), if_neg (by decide), if_neg (by decide), if_neg (by decide), if_neg (by decide), if_neg (by decide)]
  rw [eb]
  exact oa_of (act_pass fu hfu hP hl)
/-! numbers as told -/
theorem l2i_in (v : Int) (h : -2147490000 ≤ v ∧ v ≤ 2147490000) : (Int64.ofInt v).toInt32.toInt = (if v < -2147483648 then v + 4294967296 else if v ≤ 2147483647 then v else v - 4294967296) := by
  rw [Int64.toInt_toInt32, Int64.toInt_ofInt_of_le (by omega) (by omega)]
  have e : v.bmod (2 ^ 32) = (if v < -2147483648 then v + 4294967296 else if v ≤ 2147483647 then v else v - 4294967296) := by
    unfold Int.bmod
    have e2 : ((2 : Nat) ^ 32 : Nat) = 4294967296 := by decide
    simp only [e2]
    split <;> split <;> (try split) <;> omega
  exact e
theorem small_is (v : Int) (h : -2147490000 ≤ v ∧ v ≤ 2147490000) : ∃ x, f_M_small (Int64.ofInt v) = some x ∧ gdA (Int64.ofInt v).toInt32 x := by
  have hl := l2i_in v h
  unfold f_M_small
  have c0 : lg_cmp (Int64.ofInt v) (0 : Int64) < 0 ↔ v < 0 := by
    have := w_cmp (y := v) (z := 0) (by omega) (by omega)
    rw [show (0 : Int64) = Int64.ofInt 0 from rfl, this]
    by_cases h1 : 0 < v
    · rw [if_pos h1]; exact ⟨fun h => absurd h (by decide), fun h => by omega⟩
    · rw [if_neg h1]
      by_cases h2 : v = 0
      · rw [if_pos h2]; exact ⟨fun h => absurd h (by decide), fun h => by omega⟩
      · rw [if_neg h2]; exact ⟨fun _ => by omega, fun _ => by decide⟩
  have c1 : lg_cmp (Int64.ofInt v) (1000000 : Int64) ≤ 0 ↔ v ≤ 1000000 := w_le (y := v) (z := 1000000) (by omega) (by omega)
  have m1 : ∀ s : Nat, s < 1000000 → (-1 : Int32) ≠ nI s := fun s hs e => nI_m1 hs e.symm
  by_cases h0 : v < 0
  · rw [if_pos (c0.mpr h0)]
    refine ⟨_, rfl, Or.inr ⟨fun s hs e => ?_, m1⟩⟩
    rw [e, q_nI (by omega)] at hl
    split at hl <;> (try split at hl) <;> omega
  · rw [if_neg (fun h => h0 (c0.mp h))]
    by_cases h1 : v ≤ 1000000
    · rw [if_pos (c1.mpr h1)]
      exact ⟨_, rfl, Or.inl rfl⟩
    · rw [if_neg (fun h => h1 (c1.mp h))]
      refine ⟨_, rfl, Or.inr ⟨fun s hs e => ?_, m1⟩⟩
      rw [e, q_nI (by omega)] at hl
      split at hl <;> (try split at hl) <;> omega

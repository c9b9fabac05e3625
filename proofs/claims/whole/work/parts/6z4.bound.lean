/-! bound -/
theorem ls_ne {P : zP} (hP : pOK P) (a b : Nat) : ∀ (m s : Nat) (r : Option Nat × Nat), (r.1 = none → r.2 = 1000000) → (r.1 ≠ none ∨ ∃ s', s ≤ s' ∧ s' < s + m ∧ inS (nI s') a = true ∧ inS (nI s') b = false) → (lsS P a b m s r).1 ≠ none := by
  intro m
  induction m with
  | zero =>
    intro s r _ h
    rcases h with h | ⟨s', h1, h2, -⟩
    · exact h
    · omega
  | succ m ih =>
    intro s r h0 h
    refine ih (s + 1) _ (fun e => ?_) ?_
    · by_cases c : inS (nI s) a = true ∧ inS (nI s) b = false ∧ coP P (nI s) < r.2
      · rw [if_pos c] at e; cases e
      · rw [if_neg c] at e ⊢; exact h0 e
    · by_cases c : inS (nI s) a = true ∧ inS (nI s) b = false ∧ coP P (nI s) < r.2
      · rw [if_pos c]; exact Or.inl (fun e => by cases e)
      · rw [if_neg c]
        rcases h with h | ⟨s', h1, h2, h3, h4⟩
        · exact Or.inl h
        · by_cases e : s' = s
          · refine Or.inl (fun e2 => c ⟨by rw [← e]; exact h3, by rw [← e]; exact h4, ?_⟩)
            have := co_le hP (nI s)
            rw [h0 e2]; omega
          · exact Or.inr ⟨s', by omega, by omega, h3, h4⟩
theorem ls_ok {P : zP} (hP : pOK P) (a b : Nat) : ∀ (m s : Nat) (r : Option Nat × Nat), s + m ≤ 512 → lsOk P r → lsOk P (lsS P a b m s r) := by
  intro m
  induction m with
  | zero => intro s r _ h; exact h
  | succ m ih => intro s r h1 h; exact ih (s + 1) _ (by omega) (ls_step hP a b (by omega) h)
theorem call_bound (fu : Nat) (hfu : 1000 ≤ fu) {S : zSt} (h : Inv S) (a b w : Int32) : cOk (f_E_bound fu a b w) (f_M_bound fu a b w) S := by
  obtain ⟨P, es, hP, hc, hm, hj, hi, ht, hms, hd, hs⟩ := id h
  have h9 := hP.1
  have h2p := pow_le9 (pN P) h9
  rcases two_or P a b with ⟨x, y, hx, hy, hxy, rfl, rfl⟩ | hn
  · have nab : ¬ nI x = nI y := fun h => hxy ((n_eq (by omega) (by omega)).mp h)
    rcases rng_or w 0 1 with ⟨k, -, hk, rfl⟩ | hw
    · have l1 : f_M_lies (nI k) 0 1 = some 1 := lies_yes (lo := 0) (hi := 1) (by omega) hk (by omega)
      obtain ⟨S1, e1, c1, w1⟩ := cuts_ok fu hfu hP hc hs.1
      have hm1 := mRep_co hm c1 (Or.inl rfl) hP
      obtain ⟨S2, e2, c2, w2⟩ := lw_ok fu hfu hP hm1
      have hm2 := mRep_co hm1 c2 (Or.inl rfl) hP
      have b0 : lsOk P (none, 1000000) := ⟨Nat.le_refl _, fun e he => by cases he⟩
      have eC := c_light_9 fu (by omega) hP w1 hx hy (2 ^ pN P) 0 fu (none, 1000000) (by omega) (by omega) b0
      have eM := m_bound_34 fu (by omega) hm2 hP w2 hx hy (nI k) (2 ^ pN P) 0 fu (none, 1000000) (by omega) (by omega) b0
      have bk := ls_ok hP x y (2 ^ pN P) 0 (none, 1000000) (by omega) b0
      have hne := ls_ne hP x y (2 ^ pN P) 0 (none, 1000000) (fun _ => rfl) (Or.inr ⟨2 ^ x, Nat.zero_le _, by rw [Nat.zero_add]; exact Nat.pow_lt_pow_right (by omega) hx, by
        rw [← sh_n x (by omega), inS_bt _ (by omega), bt_bit (by omega) (by omega)]; simp, by
        rw [← sh_n x (by omega), inS_bt _ (by omega), bt_bit (by omega) (by omega)]; exact decide_eq_false (fun h => hxy h.symm)⟩)
      obtain ⟨B, eB⟩ : ∃ B, B = lsS P x y (2 ^ pN P) 0 (none, 1000000) := ⟨_, rfl⟩
      rw [← eB] at eC eM bk hne
      cases hB : B.1 with
      | none => exact absurd hB hne
      | some s =>
        obtain ⟨hs5, hl⟩ := bk.2 s hB
        rw [hB] at eC eM
        have ecut : f_Pa_cutOf fu (ocI (some s)) S1 = some (nI (coP P (nI s))) := c_cut fu (by omega) hP w1 (nI s)
        refine cOk_q h (v := if nI k = 0 then nI B.2 else ocI (some s)) (S1 := S1) ?_ c1 (S2 := S2) ?_ c2
        · unfold f_E_bound
          have el : f_Pa_lightestSet fu (nI x) (nI y) S1 = some (ocI (some s)) := eC
          rw [if_neg nab, qb1 (has_yes hc hP hx), if_neg (by decide), qb1 (has_yes hc hP hy), if_neg (by decide), if_neg (n_neg (by omega)), if_pos (show nI k ≤ 1 from (n_le (b := 1) (by omega) (by omega)).mpr hk), qb1 e1, qb1 el]
          by_cases h0 : nI k = 0
          · rw [if_pos h0, qb1 ecut, if_pos h0, hl]
          · rw [if_neg h0, if_neg h0]
        · unfold f_M_bound
          rw [qb1 (m_two_yes hm1 hP hx hy hxy), if_neg (by decide), qb1 l1, if_neg (by decide), qb1 e2]
          refine Eq.trans eM ?_
          unfold f_M_bound_98
          by_cases h0 : nI k = 0
          · rw [if_pos h0, if_pos h0]
          · rw [if_neg h0, if_neg h0]
    · refine cOk_0 h (v := -1) ?_ ?_
      · unfold f_E_bound
        rw [if_neg nab, qb1 (has_yes hc hP hx), if_neg (by decide), qb1 (has_yes hc hP hy), if_neg (by decide)]
        rcases rng_no (hi := 1) (by omega) hw with h1 | h1
        · rw [if_pos h1]
        · by_cases h2 : w < 0
          · rw [if_pos h2]
          · rw [if_neg h2, if_neg (show ¬ w ≤ 1 from h1)]
      · have l1 : f_M_lies w 0 1 = some 0 := lies_no (lo := 0) (hi := 1) (by omega) (by omega) hw
        unfold f_M_bound
        rw [qb1 (m_two_yes hm hP hx hy hxy), if_neg (by decide), qb1 l1, if_pos rfl]
  · refine cOk_0 h (v := -1) ?_ ?_
    · unfold f_E_bound
      by_cases hab : a = b
      · rw [if_pos hab]
      · rw [if_neg hab]
        rcases spr_or P a with ⟨x, hx, rfl⟩ | ha
        · have hb : ∀ s, s < pN P → b ≠ nI s := by
            rcases hn with h1 | h1 | h1
            · exact absurd rfl (h1 x hx)
            · exact h1
            · exact absurd h1 hab
          rw [qb1 (has_yes hc hP hx), if_neg (by decide), qb1 (has_no hc hP hb), if_pos rfl]
        · rw [qb1 (has_no hc hP ha), if_pos rfl]
    · unfold f_M_bound
      rw [qb1 (m_two_no hm hP hn), if_pos rfl]

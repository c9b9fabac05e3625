/-! the reference evaluates: parts -/
theorem i2l (x : Int32) : x.toInt64 = Int64.ofInt x.toInt := rfl
/-- what the words of a law are -/
def eL (S : zSt) (E : lE) : Prop := zI S 72 25 = 0 ∧ (∀ k, k < 4 → (zI S 84 k).toInt = E k) ∧ (zI S 84 4).toInt = E 6 ∧ (zI S 84 5).toInt = E 4 ∧ (zI S 84 6).toInt = E 5
/-- what the words of orders are -/
def eO (fu : Nat) (S : zSt) (E : lE) : Prop := zI S 72 25 = 1 ∧ (∀ g b n k, n < 5 → ∃ x, f_M_orderValue fu (nI (15 + n)) k (zEv S g b) = some x ∧ x.toInt = E n) ∧ (∀ g b k, k < 9 → ∃ x, f_M_orderValue fu 14 (nI k) (zEv S g b) = some x ∧ x.toInt = E (5 + k)) ∧ (∀ g b k, k < 9 → ∃ x, f_M_orderValue fu 20 (nI k) (zEv S g b) = some x ∧ x.toInt = E (14 + k))
def eW (ord : Bool) (fu : Nat) (S : zSt) (E : lE) : Prop := if ord = true then eO fu S E else eL S E
section MEP
variable {S : zSt} {A N : Nat} {C V : Nat → Int32} {E : lE}
theorem e_94 (fu : Nat) (cS : Int32 → zSt → Option (Int64 × zSt)) {c k g : Int32} {d : lD} {v : Int} (hd : d E = some v) (h : f_M_partOf_94 cS fu 1 c k (zEv S g 0) = some (Int64.ofInt v, zEv S g 0)) (μ : eM) : f_M_partOf_94 cS fu (eLv μ) c k (zEv S g (eB μ)) = some ((eDen E μ d).1, zEv S g (eDen E μ d).2) := by
  rcases μ with (_ | _) | b
  · show f_M_partOf_94 cS fu 1 c k (zEv S g 1) = some (0, zEv S g 1)
    unfold f_M_partOf_94
    rw [if_neg (by decide), zEv_24, if_neg (by decide)]
  · show f_M_partOf_94 cS fu 1 c k (zEv S g 0) = some ((rE (d E)).1, zEv S g (rE (d E)).2)
    rw [hd]
    exact h
  · show f_M_partOf_94 cS fu 0 c k (zEv S g (b2 b)) = some (0, zEv S g (b2 b))
    unfold f_M_partOf_94
    rw [if_pos rfl]
theorem e_leaf (fu : Nat) (cS : Int32 → zSt → Option (Int64 × zSt)) (hS : zES S A N C V) {ord : Bool} (hW : eW ord fu S E) {i q j q' : Nat} {d : lD} (hi : i ≤ N) (h191 : C i ≠ 191) (h : lleaf ord C V i q = .inr (j, q', d)) :
    i < j ∧ j ≤ N ∧ dRg E d ∧ ∀ μ, f_M_partOf_o cS fu (eLv μ) (zEv S (nI (A + i)) (eB μ)) = some ((eDen E μ d).1, zEv S (nI (A + j)) (eDen E μ d).2) := by
  have hN := hS.2.1
  have hA := hS.1
  have e91 : f_M_sign 91 = some 191 := rfl
  have U : ∀ a b, f_M_partOf_o cS fu a (zEv S (nI (A + i)) b) = if zI S 72 25 = 0 then f_M_partOf_94 cS fu a (C i) 0 (zEv S (nI (A + (i + 1))) b) else if C i = 14 then f_M_partOf_70 cS fu a (C i) (zEv S (nI (A + (i + 1))) b) else if C i = 20 then f_M_partOf_70 cS fu a (C i) (zEv S (nI (A + (i + 1))) b) else f_M_partOf_94 cS fu a (C i) 0 (zEv S (nI (A + (i + 1))) b) := by
    intro a b
    have hp := e_pass hS (i := i) (by omega) b 191
    rw [if_neg h191] at hp
    unfold f_M_partOf_o
    rw [e91, qb1s, qb2 hp, if_pos rfl, zEv_22, qb1 (e_code hS (by omega) _ _), n_1, zEv_w22, zEv_o _ _ _ (Or.inr ⟨by omega, by omega⟩)]
    rfl
  have U70 : ∀ a b, i + 1 < N → f_M_partOf_70 cS fu a (C i) (zEv S (nI (A + (i + 1))) b) = f_M_partOf_94 cS fu a (C i) (zI S 74 (3007 + (A + (i + 1)))) (zEv S (nI (A + (i + 2))) b) := by
    intro a b hlt
    unfold f_M_partOf_70
    rw [zEv_22, show (3007 : Int32) = nI 3007 from rfl, n_add, n_gd (by omega) (by omega), q_cl (by omega), zEv_o _ _ _ (Or.inl (by omega)), n_1, zEv_w22]
    rfl
  -- numbers
  have NUM : C i = 50 → V i ≤ 1000 → i < N → ∀ g, g = A + (i + 1) → f_M_partOf_94 cS fu 1 (C i) 0 (zEv S (nI g) 0) = some (Int64.ofInt (V i).toInt, zEv S (nI g) 0) := by
    intro hc hv hlt g hg
    unfold f_M_partOf_94
    rw [if_neg (by decide), zEv_24, if_pos rfl, if_pos hc, zEv_22, show (3007 : Int32) = nI 3007 from rfl, n_add, show (1 : Int32) = nI 1 from rfl, n_sub (by omega), n_gd (by omega) (by omega), q_cl (by omega), zEv_o _ _ _ (Or.inl (by omega)), show 3007 + g - 1 = 3007 + (A + i) by omega, (hS.2.2.2.1 i hlt).2.1 hv, i2l]
  have rgV : dRg E (fun _ => some (V i).toInt) := by
    intro v hv
    injection hv with hv
    have := q_rg (V i)
    omega
  unfold lleaf at h
  by_cases hq : 50 ≤ q
  · rw [if_pos hq] at h; cases h
  rw [if_neg hq] at h
  by_cases hc : C i = 50 ∧ V i ≤ 1000
  · rw [if_pos hc] at h
    injection h with h
    injection h with h h2
    injection h2 with h2 h3
    subst h
    subst h3
    have hlt := e_in hS (i := i) (by rw [hc.1]; decide)
    refine ⟨by omega, by omega, rgV, fun μ => ?_⟩
    rw [U, if_neg (show ¬ C i = 14 by rw [hc.1]; decide), if_neg (show ¬ C i = 20 by rw [hc.1]; decide), ite_self]
    exact e_94 fu cS rfl (NUM hc.1 hc.2 hlt _ rfl) μ
  rw [if_neg hc] at h
  have W94 : ∀ (c k : Int32) (g : Nat) (x : Int32) (m : Nat), c ≠ 50 → zI S 72 25 = 1 → f_M_orderValue fu c k (zEv S (nI g) 0) = some x → x.toInt = E m → f_M_partOf_94 cS fu 1 c k (zEv S (nI g) 0) = some (Int64.ofInt (E m), zEv S (nI g) 0) := by
    intro c k g x m hc h25 hx hm
    unfold f_M_partOf_94
    rw [if_neg (by decide), zEv_24, if_pos rfl, if_neg hc, zEv_o _ _ _ (Or.inr ⟨by omega, by omega⟩), h25, if_neg (by decide), qb1 hx, i2l, hm]
  have RG : ∀ (x : Int32) (m : Nat), x.toInt = E m → dRg E (fun E => some (E m)) := by
    intro x m hm v hv
    injection hv with hv
    have := q_rg x
    omega
  cases ord with
  | true =>
    rw [if_pos rfl] at h
    obtain ⟨w1, w2, w3, w4⟩ : eO fu S E := by unfold eW at hW; rw [if_pos rfl] at hW; exact hW
    have n25 : ¬ zI S 72 25 = 0 := by rw [w1]; decide
    have TW : ∀ base, (∀ g b k, k < 9 → ∃ x, f_M_orderValue fu (C i) (nI k) (zEv S g b) = some x ∧ x.toInt = E (base + k)) → (C i = 14 ∨ C i = 20) → (if C (i + 1) = 50 ∧ V (i + 1) ≤ 8 then (.inr (i + 2, q + 1, fun E => some (E (base + (V (i + 1)).toInt.toNat))) : lR) else .inl (i + 1)) = .inr (j, q', d) → 0 ≤ (V (i + 1)).toInt → i < j ∧ j ≤ N ∧ dRg E d ∧ ∀ μ, f_M_partOf_o cS fu (eLv μ) (zEv S (nI (A + i)) (eB μ)) = some ((eDen E μ d).1, zEv S (nI (A + j)) (eDen E μ d).2) := by
      intro base hx hcc h2 hge
      by_cases hv : C (i + 1) = 50 ∧ V (i + 1) ≤ 8
      · rw [if_pos hv] at h2
        injection h2 with h2
        injection h2 with h2 h3
        injection h3 with h3 h4
        subst h2
        subst h4
        have hlt := e_in hS (i := i + 1) (by rw [hv.1]; decide)
        have e8 : (8 : Int32).toInt = 8 := rfl
        have v8 := hv.2
        rw [q_le, e8] at v8
        obtain ⟨vn, hvn, hvi, hvb⟩ := q_ex hge
        have e1000 : (1000 : Int32).toInt = 1000 := rfl
        have hrow : zI S 74 (3007 + (A + (i + 1))) = nI vn := by
          rw [(hS.2.2.2.1 (i + 1) hlt).2.1 (by rw [q_le, e1000]; omega), hvn]
        have evn : (V (i + 1)).toInt.toNat = vn := by omega
        obtain ⟨x0, hx0, hx1⟩ := hx (nI (A + (i + 2))) 0 vn (by omega)
        rw [evn]
        refine ⟨by omega, by omega, RG x0 _ hx1, fun μ => ?_⟩
        have e70 := U70 (eLv μ) (eB μ) hlt
        rw [U, if_neg n25, e70]
        have n50 : C i ≠ 50 := by rcases hcc with h | h <;> rw [h] <;> decide
        have eif : (if C i = 14 then f_M_partOf_94 cS fu (eLv μ) (C i) (zI S 74 (3007 + (A + (i + 1)))) (zEv S (nI (A + (i + 2))) (eB μ)) else if C i = 20 then f_M_partOf_94 cS fu (eLv μ) (C i) (zI S 74 (3007 + (A + (i + 1)))) (zEv S (nI (A + (i + 2))) (eB μ)) else f_M_partOf_94 cS fu (eLv μ) (C i) 0 (zEv S (nI (A + (i + 1))) (eB μ))) = f_M_partOf_94 cS fu (eLv μ) (C i) (zI S 74 (3007 + (A + (i + 1)))) (zEv S (nI (A + (i + 2))) (eB μ)) := by
          rcases hcc with h | h
          · rw [if_pos h]
          · rw [if_neg (show ¬ C i = 14 by rw [h]; decide), if_pos h]
        rw [eif, hrow]
        exact e_94 fu cS rfl (W94 (C i) (nI vn) (A + (i + 2)) x0 _ n50 w1 hx0 hx1) μ
      · rw [if_neg hv] at h2; cases h2
    by_cases c14 : C i = 14
    · rw [if_pos c14] at h
      exact TW 5 (fun g b k hk => by rw [c14]; exact w3 g b k hk) (Or.inl c14) h (hS.2.2.2.2.2 (i + 1))
    rw [if_neg (c := C i = 14) c14] at h
    by_cases c20 : C i = 20
    · rw [if_pos c20] at h
      exact TW 14 (fun g b k hk => by rw [c20]; exact w4 g b k hk) (Or.inr c20) h (hS.2.2.2.2.2 (i + 1))
    rw [if_neg (c := C i = 20) c20] at h
    by_cases c15 : 15 ≤ C i ∧ C i ≤ 19
    · rw [if_pos c15] at h
      injection h with h
      injection h with h h2
      injection h2 with h2 h3
      subst h
      subst h3
      have e15 : (15 : Int32).toInt = 15 := rfl
      have e19 : (19 : Int32).toInt = 19 := rfl
      have hr := c15
      rw [q_le, q_le, e15, e19] at hr
      obtain ⟨cn, hcn, hci, hcb⟩ := q_ex (a := C i) (by omega)
      have hlt := e_in hS (i := i) (by rw [hcn]; exact fun h => absurd ((n_eq (b := 0) (by omega) (by omega)).mp h) (by omega))
      have em : (C i).toInt.toNat - 15 = cn - 15 := by omega
      obtain ⟨x0, hx0, hx1⟩ := w2 (nI (A + (i + 1))) 0 (cn - 15) 0 (by omega)
      rw [show 15 + (cn - 15) = cn by omega, ← hcn] at hx0
      rw [em]
      refine ⟨by omega, by omega, RG x0 _ hx1, fun μ => ?_⟩
      rw [U, if_neg n25, if_neg c14, if_neg c20]
      have n50 : C i ≠ 50 := by rw [hcn]; exact fun h => absurd ((n_eq (b := 50) (by omega) (by omega)).mp h) (by omega)
      exact e_94 fu cS rfl (W94 (C i) 0 (A + (i + 1)) x0 _ n50 w1 hx0 hx1) μ
    · rw [if_neg c15] at h; cases h
  | false =>
    rw [if_neg (show ¬ false = true by decide)] at h
    obtain ⟨w1, w2, w3, w4, w5⟩ : eL S E := by unfold eW at hW; rw [if_neg (by decide)] at hW; exact hW
    have LW : ∀ (c : Nat) (m k : Nat), C i = nI c → 9 ≤ c → c ≤ 15 → k = c - 9 → (zI S 84 k).toInt = E m → j = i + 1 → d = (fun E => some (E m)) → i < j ∧ j ≤ N ∧ dRg E d ∧ ∀ μ, f_M_partOf_o cS fu (eLv μ) (zEv S (nI (A + i)) (eB μ)) = some ((eDen E μ d).1, zEv S (nI (A + j)) (eDen E μ d).2) := by
      intro c m k hc h9 h15 hk hm hj hd
      have hlt := e_in hS (i := i) (by rw [hc]; exact fun h => absurd ((n_eq (b := 0) (by omega) (by omega)).mp h) (by omega))
      subst hj
      subst hd
      refine ⟨by omega, by omega, RG _ _ hm, fun μ => ?_⟩
      rw [U, if_pos w1]
      refine e_94 fu cS rfl ?_ μ
      have n50 : ¬ C i = 50 := by rw [hc]; exact fun h => absurd ((n_eq (b := 50) (by omega) (by omega)).mp h) (by omega)
      unfold f_M_partOf_94
      rw [if_neg (by decide), zEv_24, if_pos rfl, if_neg n50, zEv_o _ _ _ (Or.inr ⟨by omega, by omega⟩), if_pos w1, hc, show (9 : Int32) = nI 9 from rfl, n_sub h9, n_gd (by omega) (by omega), q_cl (by omega), zEv_o _ _ _ (Or.inl (by omega)), ← hk, i2l, hm]
    have e9 : (9 : Int32).toInt = 9 := rfl
    have e12 : (12 : Int32).toInt = 12 := rfl
    by_cases c9 : 9 ≤ C i ∧ C i ≤ 12
    · rw [if_pos c9] at h
      injection h with h
      injection h with h h2
      injection h2 with h2 h3
      have hr := c9
      rw [q_le, q_le, e9, e12] at hr
      obtain ⟨cn, hcn, hci, hcb⟩ := q_ex (a := C i) (by omega)
      have em : (C i).toInt.toNat - 9 = cn - 9 := by omega
      rw [em] at h3
      exact LW cn (cn - 9) (cn - 9) hcn (by omega) (by omega) rfl (w2 _ (by omega)) h.symm h3.symm
    rw [if_neg (c := 9 ≤ C i ∧ C i ≤ 12) c9] at h
    by_cases c13 : C i = 13
    · rw [if_pos c13] at h
      injection h with h
      injection h with h h2
      injection h2 with h2 h3
      exact LW 13 6 4 c13 (by omega) (by omega) rfl w3 h.symm h3.symm
    rw [if_neg (c := C i = 13) c13] at h
    by_cases c14 : C i = 14
    · rw [if_pos c14] at h
      injection h with h
      injection h with h h2
      injection h2 with h2 h3
      exact LW 14 4 5 c14 (by omega) (by omega) rfl w4 h.symm h3.symm
    rw [if_neg (c := C i = 14) c14] at h
    by_cases c15 : C i = 15
    · rw [if_pos c15] at h
      injection h with h
      injection h with h h2
      injection h2 with h2 h3
      exact LW 15 5 6 c15 (by omega) (by omega) rfl w5 h.symm h3.symm
    · rw [if_neg c15] at h; cases h
theorem e_part_ok (fu : Nat) (cS : Int32 → zSt → Option (Int64 × zSt)) (hS : zES S A N C V) {ord : Bool} (hW : eW ord fu S E) {n r : Nat} (hs : ∀ r', r = r' + 1 → eOk S A N E cS (fun i q => lsum (lpart ord C V n r') C n i q)) : eOk S A N E (f_M_partOf_o cS fu) (fun i q => lpart ord C V n r i q) := by
  have hN := hS.2.1
  have e91 : f_M_sign 91 = some 191 := rfl
  intro i q j q' d hi h
  by_cases c : C i = 191
  · cases r with
    | zero =>
      have h' : (if C i = 191 then (.inl i : lR) else lleaf ord C V i q) = .inr (j, q', d) := h
      rw [if_pos c] at h'; cases h'
    | succ r' =>
      have h' : (if C i = 191 then (match lsum (lpart ord C V n r') C n (i + 1) q with
        | .inl j => .inl j
        | .inr (j, q', d) => if C j = 193 then .inr (j + 1, q', d) else .inl j) else lleaf ord C V i q) = .inr (j, q', d) := h
      rw [if_pos c] at h'
      have hlt := e_in hS (i := i) (by rw [c]; decide)
      cases hpt : lsum (lpart ord C V n r') C n (i + 1) q with
      | inl k => rw [hpt] at h'; cases h'
      | inr x =>
        obtain ⟨k, q2, d2⟩ := x
        rw [hpt] at h'
        have h'' : (if C k = 193 then (.inr (k + 1, q2, d2) : lR) else .inl k) = .inr (j, q', d) := h'
        by_cases c2 : C k = 193
        · rw [if_pos c2] at h''
          injection h'' with h1
          injection h1 with h1 h2
          injection h2 with h2 h3
          subst h1
          subst h3
          obtain ⟨g0, g1, g2, g3⟩ := hs r' rfl (i + 1) q k q2 d2 (by omega) hpt
          have hlt2 := e_in hS (i := k) (by rw [c2]; decide)
          refine ⟨by omega, by omega, g2, fun μ => ?_⟩
          have hp := e_pass hS (i := i) (by omega) (eB μ) 191
          rw [if_pos c] at hp
          unfold f_M_partOf_o
          rw [e91, qb1s, qb2 hp, if_neg (by decide), qb2 (g3 μ), zEv_22, n_1, zEv_w22]
          rfl
        · rw [if_neg c2] at h''; cases h''
  · have h' : lleaf ord C V i q = .inr (j, q', d) := by
      cases r with
      | zero =>
        have h' : (if C i = 191 then (.inl i : lR) else lleaf ord C V i q) = .inr (j, q', d) := h
        rw [if_neg c] at h'; exact h'
      | succ r' =>
        have h' : (if C i = 191 then _ else lleaf ord C V i q) = .inr (j, q', d) := h
        rw [if_neg c] at h'; exact h'
    exact e_leaf fu cS hS hW hi c h'
theorem esums_ok (fu : Nat) (hfu : 500 ≤ fu) (hS : zES S A N C V) {ord : Bool} (hW : eW ord fu S E) {n : Nat} (hn : 401 ≤ n) :
    ∀ r, ∀ d, 3 * r + 3 ≤ d → eOk S A N E (f_M_sumOf fu d) (fun i q => lsum (lpart ord C V n r) C n i q) := by
  intro r
  induction r with
  | zero =>
    intro d hd
    obtain ⟨d, rfl⟩ : ∃ d', d = d' + 3 := ⟨d - 3, by omega⟩
    exact es_ok fu hfu hS (f_M_termOf fu (d + 2)) hn (et_ok fu hfu hS (f_M_partOf fu (d + 1)) hn (e_part_ok fu (f_M_sumOf fu d) hS hW (fun r' h => by omega)))
  | succ r ih =>
    intro d hd
    obtain ⟨d, rfl⟩ : ∃ d', d = d' + 3 := ⟨d - 3, by omega⟩
    refine es_ok fu hfu hS (f_M_termOf fu (d + 2)) hn (et_ok fu hfu hS (f_M_partOf fu (d + 1)) hn (e_part_ok fu (f_M_sumOf fu d) hS hW (fun r' h => ?_)))
    have e : r' = r := by omega
    rw [e]
    exact ih d (by omega)
end MEP

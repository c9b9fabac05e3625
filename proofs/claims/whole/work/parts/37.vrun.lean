/-! the class's value() is the run -/
theorem qLLs (S : zSt) (i k : Nat) (v : Int64) : zL (zwL S i k v) i k = v := by rw [qLL, if_pos ⟨rfl, rfl⟩]
theorem qIIs (S : zSt) (i k : Nat) (v : Int32) : zI (zwI S i k v) i k = v := by rw [qII, if_pos ⟨rfl, rfl⟩]
def zS53 (S : zSt) (g : Nat → Nat → Int64) : Prop := ∀ j, j ≠ 53 → g j = S.2.1 j
theorem k15 (x : Int32) (h : x &&& 15 ≤ 13) (h1 : 1 < x &&& 15) : x &&& 15 = 2 ∨ x &&& 15 = 3 ∨ x &&& 15 = 4 ∨ x &&& 15 = 13 ∨ (x &&& 15 = 5 ∨ x &&& 15 = 6 ∨ x &&& 15 = 7 ∨ x &&& 15 = 8 ∨ x &&& 15 = 9 ∨ x &&& 15 = 10 ∨ x &&& 15 = 11 ∨ x &&& 15 = 12) := by
  generalize x &&& 15 = w at *
  have e13 : (13 : Int32).toInt = 13 := rfl
  have e1 : (1 : Int32).toInt = 1 := rfl
  rw [q_le, e13] at h
  rw [q_lt, e1] at h1
  obtain ⟨n, rfl, hn, hb⟩ := q_ex (a := w) (by omega)
  have h16 : n < 16 := by omega
  have h13 : n ≤ 13 := by omega
  rcases w13 n h16 h13 with h2 | h2 | h2 | h2 | h2 | h2
  · exact absurd (show (1 : Int32) < nI n by rw [q_lt, e1]; omega) h2
  · exact Or.inl (by rw [h2]; rfl)
  · exact Or.inr (Or.inl (by rw [h2]; rfl))
  · exact Or.inr (Or.inr (Or.inl (by rw [h2]; rfl)))
  · exact Or.inr (Or.inr (Or.inr (Or.inl (by rw [h2]; rfl))))
  · exact Or.inr (Or.inr (Or.inr (Or.inr h2)))
set_option maxHeartbeats 2000000 in
theorem value_run (fu t a3 len W : Nat) (c E : Nat → Int32) (hlen : len < 1000) (hW : W < 2 ^ 31) (ht53 : t ≠ 53) (hwh : ∀ k, k < len → c k &&& 15 ≤ 13) :
    ∀ (n m a : Nat) (st : List Int) (steps : Nat) (S : zSt), zI S (t + 4) = c → zI S t 1 = nI len → len ≤ zA S (t + 4) → zA S (t + 4) < 2 ^ 31 → zA S a3 = W → zI S a3 = E →
    steps ≤ a → a < 2 ^ 31 → st.length ≤ 50 → SK (zL S 53) st → (∀ v ∈ st, -2147483648 - (steps : Int) ≤ v ∧ v ≤ 2147483648 + (steps : Int)) → 1 ≤ n → 1 ≤ m → len + 1 ≤ n + a → len + 1 ≤ m + a →
    ∃ g, f_Tx_value_21 fu t a3 n (nI a) (nI st.length) (nI steps) S = some (xE (xrun c len W E m a st), (S.1, g, S.2.2)) ∧ zS53 S g := by
  intro n
  induction n with
  | zero => intro m a st steps S _ _ _ _ _ _ _ _ _ _ _ h; exact absurd h (by omega)
  | succ n ih =>
    intro m a st steps S hc hl hcap hcap2 hWA hE hst ha31 hs50 hSK hB hn1 hm1 hn hm
    obtain ⟨m, rfl⟩ : ∃ m', m = m' + 1 := ⟨m - 1, by omega⟩
    rw [f_Tx_value_21, xrun_s]
    rw [hl, hc]
    have eA : (zA S (t + 4)).toInt32 = nI (zA S (t + 4)) := rfl
    have e1 : (1 : Int32).toInt = 1 := rfl
    by_cases ha : len ≤ a
    · rw [if_pos ha]
      by_cases h2 : len < steps
      · rw [if_pos ((n_lt (by omega) (by omega)).mpr h2)]
        exact ⟨S.2.1, rfl, fun _ _ => rfl⟩
      · rw [if_neg (fun h => h2 ((n_lt (by omega) (by omega)).mp h)), if_pos ((n_le (by omega) ha31).mpr ha)]
        exact ⟨S.2.1, rfl, fun _ _ => rfl⟩
    · rw [if_neg ha, if_neg (fun h => absurd ((n_lt (by omega) (by omega)).mp h) (by omega)), if_neg (fun h => ha ((n_le (by omega) ha31).mp h)), eA, if_neg (fun h => absurd ((n_le hcap2 ha31).mp h) (by omega)), n_gd ha31 (by omega), n_gd ha31 (by omega), q_cl ha31, n_1]
      have hwa := hwh a (by omega)
      have H : ∀ (a' : Nat) (st' : List Int) (f : Nat → Nat → Int64), a < a' → a' < 2 ^ 31 → st'.length ≤ 50 → (∀ j, j ≠ 53 → f j = S.2.1 j) → SK (f 53) st' → (∀ v ∈ st', -2147483648 - ((steps + 1 : Nat) : Int) ≤ v ∧ v ≤ 2147483648 + ((steps + 1 : Nat) : Int)) →
          ∃ g, f_Tx_value_21 fu t a3 n (nI a') (nI st'.length) (nI steps + 1) (S.1, f, S.2.2) = some (xE (xrun c len W E m a' st'), (S.1, g, S.2.2)) ∧ zS53 S g := by
        intro a' st' f h1 h2 h3 h4 h5 h6
        rw [n_1]
        obtain ⟨g, hg, hg2⟩ := ih m a' st' (steps + 1) (S.1, f, S.2.2) hc hl hcap hcap2 hWA hE (by omega) h2 h3 h5 h6 (by omega) (by omega) (by omega) (by omega)
        exact ⟨g, hg, fun j hj => (hg2 j hj).trans (h4 j hj)⟩
      have HB : ∀ v ∈ st, -2147483648 - ((steps + 1 : Nat) : Int) ≤ v ∧ v ≤ 2147483648 + ((steps + 1 : Nat) : Int) := fun v hv => by have := hB v hv; omega
      generalize hgw : c a >>> ((4 : Int32) &&& 31) = gw
      by_cases hw1 : 1 < c a &&& 15
      · rw [if_pos hw1, if_pos hw1]
        cases st with
        | nil =>
          rw [if_pos (show nI ([] : List Int).length < (1 : Int32) by decide)]
          exact ⟨S.2.1, rfl, fun _ _ => rfl⟩
        | cons v r =>
          have hlr : (v :: r).length = r.length + 1 := rfl
          have hr : r.length < 50 := by rw [hlr] at hs50; omega
          have l1 : ¬ nI (r.length + 1) < (1 : Int32) := fun h => absurd ((n_lt (b := 1) (by omega) (by omega)).mp h) (by omega)
          have l2 : ¬ (50 : Int32) < nI (r.length + 1) := fun h => absurd ((n_lt (a := 50) (by omega) (by omega)).mp h) (by omega)
          rw [hlr, if_neg l1, if_neg l2]
          have hv := hB v (by simp)
          have hB2 : ∀ u ∈ r, -2147483648 - (steps : Int) ≤ u ∧ u ≤ 2147483648 + (steps : Int) := fun u hu => hB u (by simp [hu])
          have hB3 : ∀ u ∈ r, -2147483648 - ((steps + 1 : Nat) : Int) ≤ u ∧ u ≤ 2147483648 + ((steps + 1 : Nat) : Int) := fun u hu => HB u (by simp [hu])
          have hm1 : nI (r.length + 1) - 1 = nI r.length := n_sub (a := r.length + 1) (b := 1) (by omega)
          have hS0 : zL S 53 r.length = Int64.ofInt v := hSK.1
          have hBs := fun u hu => HB u hu
          have z0 : lg_cmp (Int64.ofInt v) ((0 : Int32).toInt64) = 0 ↔ v = 0 := w_cmp0 (y := v) (z := 0) (by omega) (by omega)
          have z1 : lg_cmp (Int64.ofInt v) ((1 : Int32).toInt64) = 0 ↔ v = 1 := w_cmp0 (y := v) (z := 1) (by omega) (by omega)
          have T1 : ∃ g, f_Tx_value_250 fu t a3 (f_Tx_value_21 fu t a3 n) (nI (a + 1)) (nI (r.length + 1)) (nI steps) gw 1 S = some (xE (xrun c len W E m (if a + 1 < gw.toNatClampNeg then gw.toNatClampNeg else a + 1) (v :: r)), (S.1, g, S.2.2)) ∧ zS53 S g := by
            rw [f_Tx_value_250, if_neg (by decide)]
            by_cases hj : gw ≤ nI (a + 1)
            · have : ¬ a + 1 < gw.toNatClampNeg := by
                rw [q_le, q_nI (by omega)] at hj
                show ¬ a + 1 < gw.toInt.toNat
                omega
              rw [if_pos hj, f_Tx_value_271, if_neg (by decide), if_neg this]
              exact H (a + 1) (v :: r) S.2.1 (by omega) (by omega) hs50 (fun _ _ => rfl) hSK HB
            · have h2 : (a : Int) + 1 < gw.toInt := by
                rw [q_le, q_nI (by omega)] at hj
                omega
              obtain ⟨gn, rfl, hgn, hgb⟩ := q_ex (a := gw) (by omega)
              rw [if_neg hj, f_Tx_value_271, if_neg (by decide), q_cl hgb, if_pos (by omega)]
              exact H gn (v :: r) S.2.1 (by omega) hgb hs50 (fun _ _ => rfl) hSK HB
          have T0 : ∃ g, f_Tx_value_250 fu t a3 (f_Tx_value_21 fu t a3 n) (nI (a + 1)) (nI (r.length + 1)) (nI steps) gw 0 S = some (xE (xrun c len W E m (a + 1) r), (S.1, g, S.2.2)) ∧ zS53 S g := by
            rw [f_Tx_value_250, if_pos rfl, f_Tx_value_271, if_pos rfl, hm1]
            exact H (a + 1) r S.2.1 (by omega) (by omega) (by omega) (fun _ _ => rfl) hSK.2 hB3
          rcases k15 _ hwa hw1 with hk | hk | hk | hk | hk
          · -- and
            rw [hk]
            rw [if_pos (by decide), f_Tx_value_176, if_neg (by decide), if_neg (by decide), if_neg (by decide), hm1, n_gd (by omega) hr, q_cl (by omega), hS0, if_neg (by decide)]
            show ∃ g, _ = some (xE (if v = 0 then xrun c len W E m (if a + 1 < gw.toNatClampNeg then gw.toNatClampNeg else a + 1) (v :: r) else xrun c len W E m (a + 1) r), S.1, g, S.2.2) ∧ _
            by_cases hv0 : v = 0
            · rw [if_pos (z0.mpr hv0), if_pos hv0]; exact T1
            · rw [if_neg (fun h => hv0 (z0.mp h)), if_neg hv0]; exact T0
          · -- or
            rw [hk]
            rw [if_pos (by decide), f_Tx_value_176, if_neg (by decide), if_neg (by decide), if_neg (by decide), hm1, n_gd (by omega) hr, q_cl (by omega), hS0, if_pos rfl]
            show ∃ g, _ = some (xE (if v = 1 then xrun c len W E m (if a + 1 < gw.toNatClampNeg then gw.toNatClampNeg else a + 1) (v :: r) else xrun c len W E m (a + 1) r), S.1, g, S.2.2) ∧ _
            by_cases hv0 : v = 1
            · rw [if_pos (z1.mpr hv0), if_pos hv0]; exact T1
            · rw [if_neg (fun h => hv0 (z1.mp h)), if_neg hv0]; exact T0
          · -- not
            rw [hk]
            rw [if_pos (by decide), f_Tx_value_176, if_neg (by decide), if_pos rfl, hm1, n_gd (by omega) hr, n_gd (by omega) hr, q_cl (by omega), hS0]
            show ∃ g, _ = some (xE (xrun c len W E m (a + 1) ((1 - v) :: r)), S.1, g, S.2.2) ∧ _
            rw [show (1 : Int64) - Int64.ofInt v = Int64.ofInt (1 - v) from (Int64.ofInt_sub 1 v).symm]
            refine H (a + 1) ((1 - v) :: r) (zup S.2.1 53 r.length (Int64.ofInt (1 - v))) (by omega) (by omega) hs50 (fun j hj => by funext l; exact zup_row _ hj _ _ _) ⟨by rw [zup_self], SK_up hSK.2 (fun k hk => by rw [zup_upd, if_neg (by omega)]; rfl)⟩ ?_
            intro u hu
            rcases List.mem_cons.mp hu with rfl | hu
            · omega
            · exact hB3 u hu
          · -- end
            rw [hk]
            rw [if_neg (by decide), if_pos (by decide), f_Tx_value_176, if_pos rfl, f_Tx_value_183, hm1, n_gd (by omega) hr, q_cl (by omega), hS0]
            exact ⟨S.2.1, rfl, fun _ _ => rfl⟩
          · -- joined
            have k4 : ¬ c a &&& 15 ≤ 4 := by rcases hk with h | h | h | h | h | h | h | h <;> rw [h] <;> decide
            have k13 : ¬ 13 ≤ c a &&& 15 := by rcases hk with h | h | h | h | h | h | h | h <;> rw [h] <;> decide
            have n13 : ¬ c a &&& 15 = 13 := by rcases hk with h | h | h | h | h | h | h | h <;> rw [h] <;> decide
            have n4 : ¬ c a &&& 15 = 4 := by rcases hk with h | h | h | h | h | h | h | h <;> rw [h] <;> decide
            have n3 : 3 < c a &&& 15 := by rcases hk with h | h | h | h | h | h | h | h <;> rw [h] <;> decide
            rw [if_neg k4, if_neg k13]
            cases r with
            | nil =>
              rw [if_neg (show ¬ (2 : Int32) ≤ nI (([] : List Int).length + 1) by decide)]
              show ∃ g, _ = some (xE (if c a &&& 15 = 13 then some v else if c a &&& 15 = 4 then xrun c len W E m (a + 1) ((1 - v) :: []) else if 3 < c a &&& 15 then none else _), S.1, g, S.2.2) ∧ _
              rw [if_neg n13, if_neg n4, if_pos n3]
              exact ⟨S.2.1, rfl, fun _ _ => rfl⟩
            | cons x r =>
              have hlr2 : (x :: r).length = r.length + 1 := rfl
              have l4 : (2 : Int32) ≤ nI ((x :: r).length + 1) := (n_le (a := 2) (by omega) (by omega)).mpr (by rw [hlr2]; omega)
              have ea : nI ((x :: r).length + 1) + (-1 : Int32) = nI ((x :: r).length) := by
                rw [← hm1, Int32.sub_eq_add_neg]
              have eb : nI ((x :: r).length) - (1 : Int32) = nI r.length := n_sub (a := r.length + 1) (b := 1) (by omega)
              have hS1 : zL S 53 r.length = Int64.ofInt x := hSK.2.1
              have hx := hB2 x (by simp)
              have hjn := f_joined_eq (w := c a &&& 15) (x := x) (y := v) hk (by omega) (by omega)
              rw [if_pos l4, f_Tx_value_176, if_neg n13, if_neg n4, if_pos n3, ea, eb, n_gd (by omega) (by omega), n_gd (by omega) hr, q_cl (by omega), q_cl (by omega), hS0, hS1, qb1 hjn, qgd ⟨n_0 (by omega), by omega⟩, qgd ⟨n_0 (by omega), by omega⟩]
              show ∃ g, _ = some (xE (if c a &&& 15 = 13 then some v else if c a &&& 15 = 4 then xrun c len W E m (a + 1) ((1 - v) :: x :: r) else if 3 < c a &&& 15 then (match xop (c a &&& 15) x v with
                | none => none
                | some z => xrun c len W E m (a + 1) (z :: r)) else _), S.1, g, S.2.2) ∧ _
              rw [if_neg n13, if_neg n4, if_pos n3, qLLs]
              cases hz : xop (c a &&& 15) x v with
              | none =>
                rw [if_pos (show lg_cmp (xE none) (-9000000000000000000 : Int64) = 0 by decide +kernel)]
                exact ⟨_, rfl, fun j hj => by funext l; exact zup_row _ hj _ _ _⟩
              | some z =>
                have hzr := xop_rg hz
                have nB : ¬ lg_cmp (xE (some z)) (-9000000000000000000 : Int64) = 0 := by
                  rw [show (-9000000000000000000 : Int64) = Int64.ofInt (-9000000000000000000) from xB_i]
                  intro h
                  have := (w_cmp0 (y := z) (z := -9000000000000000000) (by omega) (by omega)).mp h
                  omega
                rw [if_neg nB]
                refine H (a + 1) (z :: r) (zup S.2.1 53 r.length (xE (some z))) (by omega) (by omega) (by simp; omega) (fun j hj => by funext l; exact zup_row _ hj _ _ _) ⟨by rw [zup_self]; rfl, SK_up hSK.2.2 (fun k hk => by rw [zup_upd, if_neg (by omega)]; rfl)⟩ ?_
                intro u hu
                rcases List.mem_cons.mp hu with rfl | hu
                · omega
                · exact hB3 u (by simp [hu])
      · rw [if_neg hw1, if_neg hw1]
        have l3 : (50 : Int32) ≤ nI st.length ↔ 50 ≤ st.length := n_le (a := 50) (by omega) (by omega)
        by_cases h50 : 50 ≤ st.length
        · rw [if_pos h50, if_pos (l3.mpr h50)]
          exact ⟨S.2.1, rfl, fun _ _ => rfl⟩
        · rw [if_neg h50, if_neg (fun h => h50 (l3.mp h))]
          have hput : ∀ (x : Int32), SK ((zup S.2.1 53 st.length x.toInt64) 53) (x.toInt :: st) := fun x => ⟨by rw [zup_self, w_as], SK_up hSK (fun k hk => by rw [zup_upd, if_neg (by omega)]; rfl)⟩
          have hrow : ∀ (x : Int32) j, j ≠ 53 → zup S.2.1 53 st.length x.toInt64 j = S.2.1 j := fun x j hj => by funext l; exact zup_row _ hj _ _ _
          have hbd : ∀ (x : Int32), ∀ v ∈ (x.toInt :: st), -2147483648 - ((steps + 1 : Nat) : Int) ≤ v ∧ v ≤ 2147483648 + ((steps + 1 : Nat) : Int) := by
            intro x v hv
            rcases List.mem_cons.mp hv with rfl | hv
            · have := q_rg x; omega
            · exact HB v hv
          by_cases hk1 : c a &&& 15 = 1
          · rw [if_pos hk1, if_pos hk1]
            have eW : (zA S a3).toInt32 = nI W := by rw [hWA]; rfl
            rw [eW]
            by_cases hg0 : 0 ≤ gw.toInt ∧ gw.toInt < (W : Int)
            · obtain ⟨gn, rfl, hgn, hgb⟩ := q_ex hg0.1
              rw [if_pos hg0, if_neg (n_neg hgb), if_pos ((n_lt hgb hW).mpr (by omega)), f_Tx_value_111, if_pos hk1, hWA, n_gd hgb (by omega), n_gd (by omega) (by omega), q_cl (by omega), q_cl hgb, hE, n_1]
              exact H (a + 1) ((E gn).toInt :: st) _ (by omega) (by omega) (by simp; omega) (hrow _) (hput _) (hbd _)
            · rw [if_neg hg0]
              by_cases hneg : gw < 0
              · rw [if_pos hneg]; exact ⟨S.2.1, rfl, fun _ _ => rfl⟩
              · rw [if_neg hneg]
                have h0 : ¬ gw.toInt < 0 := fun h => hneg (q_lt.mpr h)
                rw [if_neg (fun h => hg0 (by rw [q_lt, q_nI hW] at h; omega))]
                exact ⟨S.2.1, rfl, fun _ _ => rfl⟩
          · rw [if_neg hk1, if_neg hk1, f_Tx_value_111, if_neg hk1, n_gd (by omega) (by omega), q_cl (by omega), n_1]
            exact H (a + 1) (gw.toInt :: st) _ (by omega) (by omega) (by simp; omega) (hrow _) (hput _) (hbd _)

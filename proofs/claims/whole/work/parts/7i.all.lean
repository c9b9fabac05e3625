/-! orders: all clauses, both -/
theorem lcO_pos {C V : Nat → Int32} {n i q j q' : Nat} {c : lC} (h : lclauseO C V n i q = .inr (j, q', c)) : C i ≠ 0 := by
  intro h0
  unfold lclauseO at h
  rw [h0, if_neg (by decide), if_neg (by decide), if_neg (by decide)] at h
  cases h
theorem ltxO_s (C V : Nat → Int32) (n N m i q : Nat) (acc : List lC) : ltx true C V n N (m + 1) i q acc = (match lclauseO C V n i q with
    | .inl j => .inl j
    | .inr (j, q', cl) => if C j = 159 then ltx true C V n N m (j + 1) q' (acc ++ [cl]) else if N ≤ j then .inr (acc ++ [cl]) else .inl j) := by
  rw [ltx, if_pos rfl]
  cases lclauseO C V n i q with
  | inl j => rfl
  | inr x => rfl
theorem ltxO_pre {C V : Nat → Int32} {n N : Nat} : ∀ (m i q : Nat) (acc cls : List lC), ltx true C V n N m i q acc = .inr cls → ∃ c rest, cls = acc ++ c :: rest := by
  intro m
  induction m with
  | zero => intro i q acc cls h; cases h
  | succ m ih =>
    intro i q acc cls h
    rw [ltxO_s] at h
    cases hc : lclauseO C V n i q with
    | inl j => rw [hc] at h; cases h
    | inr x =>
      obtain ⟨j, q', cl⟩ := x
      rw [hc] at h
      dsimp only at h
      by_cases h1 : C j = 159
      · rw [if_pos h1] at h
        obtain ⟨c, rest, e⟩ := ih _ _ _ _ h
        exact ⟨cl, c :: rest, by rw [e, List.append_assoc]; rfl⟩
      · rw [if_neg h1] at h
        by_cases h2 : N ≤ j
        · rw [if_pos h2] at h
          injection h with h
          exact ⟨cl, [], by rw [← h]⟩
        · rw [if_neg h2] at h
          cases h
def cGood (c : lC) : Prop := c.1 ≤ 3 ∧ c.2.2.2.1 ≤ 20 ∧ ∀ (row : Nat → Int32) (v : Int), (c.2.1 (xe row) = some v ∨ c.2.2.1 (xe row) = some v) → -2147490000 ≤ v ∧ v ≤ 2147490000
theorem cGood_of {X : zSt} {cls : List lC} (hT : zTx X 47 23 (cls.map xcO)) : ∀ (i : Nat) c, cls[i]? = some c → cGood c := by
  intro i c hci
  have hx : (cls.map xcO)[i]? = some (xcO c) := by rw [List.getElem?_map, hci]; rfl
  have hr0 := fun (row : Nat → Int32) (v : Int) hv => value_rg hT hx (w := 0) (by omega) row (v := v) hv
  have hr1 := fun (row : Nat → Int32) (v : Int) hv => value_rg hT hx (w := 1) (by omega) row (v := v) hv
  obtain ⟨h1, h2, l, h3, h4, h5, h6, h7, h8, h9⟩ := hT
  obtain ⟨b1, b2, b3, b4, b5⟩ := h8 i (xcO c) hx
  refine ⟨b3, b4, fun row v hv => ?_⟩
  rcases hv with hv | hv
  · exact hr0 row v hv
  · exact hr1 row v hv
theorem sim_all (fu : Nat) (hfu : 10000 ≤ fu) {P0 : zP} (hG : lawG (pLaw P0)) {cls : List lC} (hcg : ∀ (i : Nat) c, cls[i]? = some c → cGood c) {A N : Nat} {C V : Nat → Int32} (hA : A = 2400) (hN : N ≤ 400) (hC0 : ∀ k, N ≤ k → C k = 0) (a1 : Int32) : ∀ (mf i0 q : Nat) (acc : List lC) (m : zMv) (es : List (Nat × zMv)) (d : Nat) (lt : Int32), ltx true C V 401 N mf i0 q acc = .inr cls → pOK (pSet P0 m) → jO P0 es →
    (∃ ci : Nat, (∀ X, cIn X P0 cls m es → ∀ n, mf + 1 ≤ n → ∃ X', f_E_run_16 fu n (nI d) lt (nI acc.length) X = some (-1, zwI X' 0 18 (nI ci)) ∧ cK X X') ∧
     (∀ Y, mIn Y P0 A N C V i0 m es d lt → ∀ n, mf + 1 ≤ n → ∃ Y', f_M_orders_96 fu n a1 (nI (A + N)) (nI acc.length) Y = f_M_orders_115 fu a1 (nI ci) Y' ∧ mRo Y Y')) ∨
    (∃ (m' : zMv) (es' : List (Nat × zMv)) (d' : Nat), pOK (pSet P0 m') ∧ jO P0 es' ∧ d' ≤ d + 20 * mf ∧
     (∀ X, cIn X P0 cls m es → ∀ n, mf + 1 ≤ n → ∃ X', f_E_run_16 fu n (nI d) lt (nI acc.length) X = some (nI d', X') ∧ cK X X' ∧ cIn X' P0 cls m' es') ∧
     (∀ Y, mIn Y P0 A N C V i0 m es d lt → ∀ n, mf + 1 ≤ n → ∃ Y', f_M_orders_96 fu n a1 (nI (A + N)) (nI acc.length) Y = f_M_orders_174 fu Y' ∧ mRo Y Y' ∧ mRep Y' 74 0 (pSet P0 m') ∧ jM Y' P0 es' ∧ zI Y' 72 27 = nI d')) := by
  intro mf
  induction mf with
  | zero => intro i0 q acc m es d lt h; cases h
  | succ mf ih =>
    intro i0 q acc m es d lt h hOK hJ
    have hpre := ltxO_pre _ _ _ _ _ h
    rw [ltxO_s] at h
    cases hc : lclauseO C V 401 i0 q with
    | inl j => rw [hc] at h; cases h
    | inr x =>
      obtain ⟨j, q', c⟩ := x
      rw [hc] at h
      dsimp only at h
      have hi0 : i0 < N := Nat.lt_of_not_le (fun h2 => lcO_pos hc (hC0 i0 h2))
      have hcat : ∃ rest, cls = (acc ++ [c]) ++ rest := by
        by_cases h1 : C j = 159
        · rw [if_pos h1] at h
          obtain ⟨c', rest, e⟩ := ltxO_pre _ _ _ _ _ h
          exact ⟨c' :: rest, e⟩
        · rw [if_neg h1] at h
          by_cases h2 : N ≤ j
          · rw [if_pos h2] at h
            injection h with h
            exact ⟨[], by rw [← h, List.append_nil]⟩
          · rw [if_neg h2] at h
            cases h
      obtain ⟨rest, ecat⟩ := hcat
      have hci : cls[acc.length]? = some c := by
        rw [ecat, List.append_assoc, List.getElem?_append_right (Nat.le_refl _), Nat.sub_self]
        rfl
      have hlen : cls.length = acc.length + 1 + rest.length := by rw [ecat, List.length_append, List.length_append]; rfl
      obtain ⟨g1, g2, g3⟩ := hcg _ _ hci
      have elen : (acc ++ [c]).length = acc.length + 1 := by rw [List.length_append]; rfl
      have cgo : ∀ X, cIn X P0 cls m es → ∀ n, f_E_run_16 fu (n + 1) (nI d) lt (nI acc.length) X = f_E_run_36 fu (f_E_run_16 fu n) fu (nI d) lt (nI acc.length) (nI c.1) (nI 0) X := fun X hX n => by
        obtain ⟨k1, -, -, -, k5⟩ := c_times hX.2.1 hci
        have e2 : zI X 47 2 = nI cls.length := by
          have := hX.2.1.1.1
          rw [List.length_map] at this
          exact this
        have h12 : cls.length ≤ 12 := by
          have := hX.2.1.1.2.1
          rw [List.length_map] at this
          exact this
        rw [show f_E_run_16 fu (n + 1) (nI d) lt (nI acc.length) X = if (zI X 47 2) ≤ nI acc.length then some (nI d, X) else zb1 (f_Tx_kindOf 47 (nI acc.length) X) (fun r3 => f_E_run_36 fu (f_E_run_16 fu n) fu (nI d) lt (nI acc.length) r3 0 X) from rfl, e2, if_neg (fun h => absurd ((n_le (by omega) (by omega)).mp h) (by omega)), qb1 k5]
        rfl
      have mgo : ∀ Y, mIn Y P0 A N C V i0 m es d lt → ∀ n, i0 < j ∧ j ≤ N ∧ ∃ Y2, f_M_orders_96 fu (n + 1) a1 (nI (A + N)) (nI acc.length) Y = zb2 (f_M_runs_19 fu fu (nI (A + N)) (nI c.2.2.2.1) (nI (A + (j + 1))) (nI 0) Y2) (fun r3 S4 => if r3 = 0 then f_M_orders_115 fu a1 (nI acc.length) S4 else f_M_orders_96 fu n a1 (nI (A + N)) (nI (acc.length + 1)) S4) ∧ mRo Y Y2 ∧ mIn Y2 P0 A N C V i0 m es d lt := fun Y hY n => by
        obtain ⟨y1, y2, y3, y4, y5, y6⟩ := hY
        obtain ⟨b1, b2', b3, b4, b5, b6, Y2, z1, z2, z3, z4⟩ := m_dry fu (by omega) hOK y1 y3 y6 hi0 hc
        refine ⟨b1, b2', Y2, ?_, mRo_0 z2, mRep_0 hOK y1 z2, jM_0 y2 z2, oC_m y3 (mRo_0 z2), by rw [z2.2.1 72 27 (by unfold scI; omega) (by omega)]; exact y4, by rw [z2.2.1 72 28 (by unfold scI; omega) (by omega)]; exact y5, by rw [z2.2.1 72 42 (by unfold scI; omega) (by omega)]; exact y6⟩
        have eR : f_M_runs fu (nI (A + N)) Y = f_M_runs_19 fu fu (nI (A + N)) (nI c.2.2.2.1) (nI (A + (j + 1))) (nI 0) Y2 := by
          unfold f_M_runs
          rw [qb1 z1, z4, z3]
          rfl
        rw [show f_M_orders_96 fu (n + 1) a1 (nI (A + N)) (nI acc.length) Y = if nI (A + N) ≤ (zI Y 72 42) then f_M_orders_174 fu Y else zb2 (f_M_runs fu (nI (A + N)) Y) (fun r3 S4 => if r3 = 0 then f_M_orders_115 fu a1 (nI acc.length) S4 else f_M_orders_96 fu n a1 (nI (A + N)) (nI acc.length + 1) S4) from rfl, y6, if_neg (fun h => absurd ((n_le (by omega) (by omega)).mp h) (by omega)), eR, n_1]
      rcases sim_time fu hfu hG hci g1 g2 g3 hc hi0 c.2.2.2.1 0 m es d lt (by omega) hOK hJ with ⟨gA, gB⟩ | ⟨m1, es1, d1, lt1, k1, k2, k3, gA, gB⟩
      · refine Or.inl ⟨acc.length, fun X hX n hn => ?_, fun Y hY n hn => ?_⟩
        · obtain ⟨n', rfl⟩ : ∃ n', n = n' + 1 := ⟨n - 1, by omega⟩
          obtain ⟨X', x1, x2⟩ := gA X hX (f_E_run_16 fu n') fu (by omega)
          exact ⟨X', (cgo X hX n').trans x1, x2⟩
        · obtain ⟨n', rfl⟩ : ∃ n', n = n' + 1 := ⟨n - 1, by omega⟩
          obtain ⟨-, -, Y2, z1, z2, z3⟩ := mgo Y hY n'
          obtain ⟨Y', x1, x2⟩ := gB Y2 z3 (nI (A + (j + 1))) fu (by omega)
          refine ⟨Y', ?_, mRo_t z2 x2⟩
          rw [z1, qb2 x1, if_pos rfl]
      · have c2 : ∀ X, cIn X P0 cls m es → ∀ n, ∃ X', f_E_run_16 fu (n + 1) (nI d) lt (nI acc.length) X = f_E_run_16 fu n (nI d1) lt1 (nI (acc.length + 1)) X' ∧ cK X X' ∧ cIn X' P0 cls m1 es1 := fun X hX n => by
          obtain ⟨X', x1, x2, x3⟩ := gA X hX (f_E_run_16 fu n) fu (by omega)
          exact ⟨X', (cgo X hX n).trans x1, x2, x3⟩
        have m2 : ∀ Y, mIn Y P0 A N C V i0 m es d lt → ∀ n, j ≤ N ∧ ∃ Y', f_M_orders_96 fu (n + 1) a1 (nI (A + N)) (nI acc.length) Y = f_M_orders_96 fu n a1 (nI (A + N)) (nI (acc.length + 1)) Y' ∧ mRo Y Y' ∧ mIn Y' P0 A N C V (j + 1) m1 es1 d1 lt1 := fun Y hY n => by
          obtain ⟨-, b2', Y2, z1, z2, z3⟩ := mgo Y hY n
          obtain ⟨Y3, x1, x2, x3⟩ := gB Y2 z3 (nI (A + (j + 1))) fu (by omega)
          obtain ⟨y1, y2, y3, y4, y5, y6⟩ := x3
          have mw := mRo_w Y3 (k := 42) (nI (A + (j + 1))) (by omega)
          refine ⟨b2', zwI Y3 72 42 (nI (A + (j + 1))), ?_, mRo_t z2 (mRo_t x2 mw), mRep_f y1 (fun k _ => by rw [qIIo _ _ (by omega)]) k1, jM_f y2 (by funext k; rw [qIIo _ _ (by omega)]) (qIIo _ _ (by omega)), oC_m y3 mw, by rw [qIIo _ _ (by omega)]; exact y4, by rw [qIIo _ _ (by omega)]; exact y5, qIIs _ _ _ _⟩
          rw [z1, x1]
          unfold f_M_runs_73
          rw [qb2s, if_neg (by decide)]
        by_cases h1 : C j = 159
        · rw [if_pos h1] at h
          have := ih (j + 1) q' (acc ++ [c]) m1 es1 d1 lt1 h k1 k2
          rw [elen] at this
          rcases this with ⟨ci, gA', gB'⟩ | ⟨m', es', d', k1', k2', k3', gA', gB'⟩
          · refine Or.inl ⟨ci, fun X hX n hn => ?_, fun Y hY n hn => ?_⟩
            · obtain ⟨n', rfl⟩ : ∃ n', n = n' + 1 := ⟨n - 1, by omega⟩
              obtain ⟨X1, x1, x2, x3⟩ := c2 X hX n'
              obtain ⟨X', w1, w2⟩ := gA' X1 x3 n' (by omega)
              exact ⟨X', x1.trans w1, cK_t x2 w2⟩
            · obtain ⟨n', rfl⟩ : ∃ n', n = n' + 1 := ⟨n - 1, by omega⟩
              obtain ⟨-, Y1, x1, x2, x3⟩ := m2 Y hY n'
              obtain ⟨Y', w1, w2⟩ := gB' Y1 x3 n' (by omega)
              exact ⟨Y', x1.trans w1, mRo_t x2 w2⟩
          · refine Or.inr ⟨m', es', d', k1', k2', by omega, fun X hX n hn => ?_, fun Y hY n hn => ?_⟩
            · obtain ⟨n', rfl⟩ : ∃ n', n = n' + 1 := ⟨n - 1, by omega⟩
              obtain ⟨X1, x1, x2, x3⟩ := c2 X hX n'
              obtain ⟨X', w1, w2, w3⟩ := gA' X1 x3 n' (by omega)
              exact ⟨X', x1.trans w1, cK_t x2 w2, w3⟩
            · obtain ⟨n', rfl⟩ : ∃ n', n = n' + 1 := ⟨n - 1, by omega⟩
              obtain ⟨-, Y1, x1, x2, x3⟩ := m2 Y hY n'
              obtain ⟨Y', w1, w2, w3⟩ := gB' Y1 x3 n' (by omega)
              exact ⟨Y', x1.trans w1, mRo_t x2 w2, w3⟩
        · rw [if_neg h1] at h
          by_cases h2 : N ≤ j
          · rw [if_pos h2] at h
            injection h with h
            have elc : cls.length = acc.length + 1 := by rw [← h]; exact elen
            refine Or.inr ⟨m1, es1, d1, k1, k2, by omega, fun X hX n hn => ?_, fun Y hY n hn => ?_⟩
            · obtain ⟨n', rfl⟩ : ∃ n', n = n' + 1 + 1 := ⟨n - 2, by omega⟩
              obtain ⟨X1, x1, x2, x3⟩ := c2 X hX (n' + 1)
              refine ⟨X1, x1.trans ?_, x2, x3⟩
              have e2 : zI X1 47 2 = nI cls.length := by
                have := x3.2.1.1.1
                rw [List.length_map] at this
                exact this
              have h12 : cls.length ≤ 12 := by
                have := x3.2.1.1.2.1
                rw [List.length_map] at this
                exact this
              rw [show f_E_run_16 fu (n' + 1) (nI d1) lt1 (nI (acc.length + 1)) X1 = if (zI X1 47 2) ≤ nI (acc.length + 1) then some (nI d1, X1) else zb1 (f_Tx_kindOf 47 (nI (acc.length + 1)) X1) (fun r3 => f_E_run_36 fu (f_E_run_16 fu n') fu (nI d1) lt1 (nI (acc.length + 1)) r3 0 X1) from rfl, e2, if_pos ((n_le (by omega) (by omega)).mpr (by omega))]
            · obtain ⟨n', rfl⟩ : ∃ n', n = n' + 1 + 1 := ⟨n - 2, by omega⟩
              obtain ⟨hjN, Y1, x1, x2, x3⟩ := m2 Y hY (n' + 1)
              obtain ⟨y1, y2, y3, y4, y5, y6⟩ := x3
              refine ⟨Y1, x1.trans ?_, x2, y1, y2, y4⟩
              rw [show f_M_orders_96 fu (n' + 1) a1 (nI (A + N)) (nI (acc.length + 1)) Y1 = if nI (A + N) ≤ (zI Y1 72 42) then f_M_orders_174 fu Y1 else zb2 (f_M_runs fu (nI (A + N)) Y1) (fun r3 S4 => if r3 = 0 then f_M_orders_115 fu a1 (nI (acc.length + 1)) S4 else f_M_orders_96 fu n' a1 (nI (A + N)) (nI (acc.length + 1) + 1) S4) from rfl, y6, if_pos ((n_le (by omega) (by omega)).mpr (by omega))]
          · rw [if_neg h2] at h
            cases h

/-! bound: sums over a set, both -/
theorem c_cut_4 (fu : Nat) (hfu : 100 ≤ fu) {S : zSt} {P : zP} (hP : pOK P) (hw : wgC S P (pN P) 0) (set : Int32) : ∀ (m a n : Nat), a + m = pN P → m + 1 ≤ n → f_Pa_cutOf_4 fu n set (nI (sm (fun a => sm (fun b => cvP P set a b) (pN P)) a)) (nI a) S = some (nI (coP P set)) := by
  have h9 := hP.1
  intro m
  induction m with
  | zero =>
    intro a n h1 h2
    obtain ⟨n', rfl⟩ : ∃ n', n = n' + 1 := ⟨n - 1, by omega⟩
    unfold f_Pa_cutOf_4
    rw [hw.1, if_pos ((n_le (by omega) (by omega)).mpr (by omega)), show a = pN P by omega]
    rfl
  | succ m ih =>
    intro a n h1 h2
    obtain ⟨n', rfl⟩ : ∃ n', n = n' + 1 := ⟨n - 1, by omega⟩
    have ha : a < pN P := by omega
    unfold f_Pa_cutOf_4
    rw [hw.1, if_neg (fun h => absurd ((n_le (by omega) (by omega)).mp h) (by omega))]
    have e := c_cut_15 fu hP hw set (f_Pa_cutOf_4 fu n') (base := sm (fun a => sm (fun b => cvP P set a b) (pN P)) a) ha (pN P) 0 fu (by omega) (by omega)
    rw [show sm (fun b => cvP P set a b) 0 = 0 from rfl, Nat.add_zero] at e
    refine Eq.trans e ?_
    exact ih (a + 1) n' (by omega) (by omega)
theorem c_cut (fu : Nat) (hfu : 100 ≤ fu) {S : zSt} {P : zP} (hP : pOK P) (hw : wgC S P (pN P) 0) (set : Int32) : f_Pa_cutOf fu set S = some (nI (coP P set)) := c_cut_4 fu hfu hP hw set (pN P) 0 fu (by omega) (by have := hP.1; omega)
theorem m_out_15 (fu : Nat) {S : zSt} {P : zP} (hm : mRep S 74 0 P) (hP : pOK P) (hw : wgM S P (pN P) 0) (set : Int32) (k4 : Int32 → Int32 → Int32 → zSt → Option Int32) {a base : Nat} (ha : a < pN P) : ∀ (m b n : Nat), b + m = pN P → m + 1 ≤ n → f_M_weightOut_15 fu k4 n set (nI (base + sm (fun b => cvP P set a b) b)) (nI a) (nI b) S = k4 set (nI (base + sm (fun b => cvP P set a b) (pN P))) (nI (a + 1)) S := by
  have h9 := hP.1
  have z0 : ∀ x : Nat, nI x + 0 = nI (x + 0) := fun x => n_add x 0
  intro m
  induction m with
  | zero =>
    intro b n h1 h2
    obtain ⟨n', rfl⟩ : ∃ n', n = n' + 1 := ⟨n - 1, by omega⟩
    unfold f_M_weightOut_15
    rw [qb1 (m_many hm), if_pos ((n_le (by omega) (by omega)).mpr (by omega)), n_1, show b = pN P by omega]
  | succ m ih =>
    intro b n h1 h2
    obtain ⟨n', rfl⟩ : ∃ n', n = n' + 1 := ⟨n - 1, by omega⟩
    have hb : b < pN P := by omega
    rw [← ih (b + 1) n' (by omega) (by omega), show sm (fun b => cvP P set a b) (b + 1) = sm (fun b => cvP P set a b) b + (if inS set a = true ∧ inS set b = false then (wgP P a b).toNatClampNeg else 0) from rfl]
    obtain ⟨K, eK⟩ : ∃ K, K = f_M_weightOut_15 fu k4 n' := ⟨_, rfl⟩
    rw [← eK]
    unfold f_M_weightOut_15
    rw [qb1 (m_many hm), if_neg (fun h => absurd ((n_le (by omega) (by omega)).mp h) (by omega)), qb1 (isIn_is set a), ← eK, n_1]
    have e92 : zI S 92 (9 * a + b) = wgP P a b := hw a b ha hb (Or.inl ha)
    obtain ⟨w1, w2⟩ := wg_nI P a b
    cases c1 : inS set a with
    | false =>
      rw [if_pos (show b2 false = 0 from rfl), z0, if_neg (fun h => by cases h.1)]
      rfl
    | true =>
      rw [if_neg (show ¬ b2 true = 0 by decide), qb1 (isIn_is set b)]
      cases c2 : inS set b with
      | false =>
        rw [if_pos (show b2 false = 0 from rfl), qb1 (m_pair (by omega) (by omega)), n_gd (by omega) (by omega), q_cl (by omega), e92, if_pos ⟨rfl, rfl⟩]
        have : nI (base + sm (fun b => cvP P set a b) b) + wgP P a b = nI (base + (sm (fun b => cvP P set a b) b + (wgP P a b).toNatClampNeg)) := by
          have e3 : nI (base + sm (fun b => cvP P set a b) b) + wgP P a b = nI (base + sm (fun b => cvP P set a b) b) + nI (wgP P a b).toNatClampNeg := by rw [← w1]
          rw [e3, n_add, Nat.add_assoc]
        rw [this]
      | true =>
        rw [if_neg (show ¬ b2 true = 0 by decide), z0, if_neg (fun h => by cases h.2)]
        rfl
theorem m_out_4 (fu : Nat) (hfu : 100 ≤ fu) {S : zSt} {P : zP} (hm : mRep S 74 0 P) (hP : pOK P) (hw : wgM S P (pN P) 0) (set : Int32) : ∀ (m a n : Nat), a + m = pN P → m + 1 ≤ n → f_M_weightOut_4 fu n set (nI (sm (fun a => sm (fun b => cvP P set a b) (pN P)) a)) (nI a) S = some (nI (coP P set)) := by
  have h9 := hP.1
  intro m
  induction m with
  | zero =>
    intro a n h1 h2
    obtain ⟨n', rfl⟩ : ∃ n', n = n' + 1 := ⟨n - 1, by omega⟩
    unfold f_M_weightOut_4
    rw [qb1 (m_many hm), if_pos ((n_le (by omega) (by omega)).mpr (by omega)), show a = pN P by omega]
    rfl
  | succ m ih =>
    intro a n h1 h2
    obtain ⟨n', rfl⟩ : ∃ n', n = n' + 1 := ⟨n - 1, by omega⟩
    have ha : a < pN P := by omega
    unfold f_M_weightOut_4
    rw [qb1 (m_many hm), if_neg (fun h => absurd ((n_le (by omega) (by omega)).mp h) (by omega))]
    have e := m_out_15 fu hm hP hw set (f_M_weightOut_4 fu n') (base := sm (fun a => sm (fun b => cvP P set a b) (pN P)) a) ha (pN P) 0 fu (by omega) (by omega)
    rw [show sm (fun b => cvP P set a b) 0 = 0 from rfl, Nat.add_zero] at e
    refine Eq.trans e ?_
    exact ih (a + 1) n' (by omega) (by omega)
theorem m_out (fu : Nat) (hfu : 100 ≤ fu) {S : zSt} {P : zP} (hm : mRep S 74 0 P) (hP : pOK P) (hw : wgM S P (pN P) 0) (set : Int32) : f_M_weightOut fu set S = some (nI (coP P set)) := m_out_4 fu hfu hm hP hw set (pN P) 0 fu (by omega) (by have := hP.1; omega)
theorem co_le {P : zP} (hP : pOK P) (set : Int32) : coP P set ≤ 8019 := col_le hP set (Nat.le_refl _)
/-- the lightest set with a in it and b out of it -/
def lsS (P : zP) (a b : Nat) : Nat → Nat → Option Nat × Nat → Option Nat × Nat
  | 0, _, r => r
  | m + 1, s, r => lsS P a b m (s + 1) (if inS (nI s) a = true ∧ inS (nI s) b = false ∧ coP P (nI s) < r.2 then (some s, coP P (nI s)) else r)
def lsOk (P : zP) (r : Option Nat × Nat) : Prop := r.2 ≤ 1000000 ∧ ∀ s, r.1 = some s → s < 512 ∧ r.2 = coP P (nI s)
theorem ls_step {P : zP} (hP : pOK P) (a b : Nat) {s : Nat} (hs : s < 512) {r : Option Nat × Nat} (h : lsOk P r) : lsOk P (if inS (nI s) a = true ∧ inS (nI s) b = false ∧ coP P (nI s) < r.2 then (some s, coP P (nI s)) else r) := by
  by_cases c : inS (nI s) a = true ∧ inS (nI s) b = false ∧ coP P (nI s) < r.2
  · rw [if_pos c]
    have := co_le hP (nI s)
    exact ⟨by show coP P (nI s) ≤ 1000000; omega, fun x hx => by injection hx with hx; rw [← hx]; exact ⟨hs, rfl⟩⟩
  · rw [if_neg c]; exact h
theorem c_light_9 (fu : Nat) (hfu : 100 ≤ fu) {S : zSt} {P : zP} (hP : pOK P) (hw : wgC S P (pN P) 0) {a b : Nat} (ha : a < pN P) (hb : b < pN P) : ∀ (m s n : Nat) (r : Option Nat × Nat), s + m = 2 ^ pN P → m + 1 ≤ n → lsOk P r → f_Pa_lightestSet_9 fu n (nI a) (nI b) (ocI r.1) (nI r.2) (nI s) S = some (ocI (lsS P a b m s r).1) := by
  have h9 := hP.1
  have h2p := pow_le9 (pN P) h9
  intro m
  induction m with
  | zero =>
    intro s n r h1 h2 h
    obtain ⟨n', rfl⟩ : ∃ n', n = n' + 1 := ⟨n - 1, by omega⟩
    unfold f_Pa_lightestSet_9
    rw [hw.1, sh_n _ h9, if_pos ((n_le (by omega) (by omega)).mpr (by omega))]
    rfl
  | succ m ih =>
    intro s n r h1 h2 h
    obtain ⟨n', rfl⟩ : ∃ n', n = n' + 1 := ⟨n - 1, by omega⟩
    have hs : s < 512 := by omega
    have hrec := ih (s + 1) n' _ (by omega) (by omega) (ls_step hP a b hs h)
    show _ = some (ocI (lsS P a b m (s + 1) (if inS (nI s) a = true ∧ inS (nI s) b = false ∧ coP P (nI s) < r.2 then (some s, coP P (nI s)) else r)).1)
    rw [← hrec]
    obtain ⟨K, eK⟩ : ∃ K, K = f_Pa_lightestSet_9 fu n' := ⟨_, rfl⟩
    rw [← eK]
    have i1 := and1_is (nI s) (s := a) (by omega)
    have i2 := and1_is (nI s) (s := b) (by omega)
    have hco := co_le hP (nI s)
    have hr2 := h.1
    unfold f_Pa_lightestSet_9
    rw [hw.1, sh_n _ h9, if_neg (fun h => absurd ((n_le (by omega) (by omega)).mp h) (by omega)), ← eK, n_1]
    by_cases c1 : inS (nI s) a = true
    · rw [if_pos (i1.1.mpr c1)]
      by_cases c2 : inS (nI s) b = false
      · rw [if_pos (i2.2.mpr c2), qb1 (c_cut fu hfu hP hw (nI s))]
        by_cases c3 : coP P (nI s) < r.2
        · rw [if_neg (fun h => absurd ((n_le (by omega) (by omega)).mp h) (by omega)), if_pos ⟨c1, c2, c3⟩]
          rfl
        · rw [if_pos ((n_le (by omega) (by omega)).mpr (by omega)), if_neg (fun h => c3 h.2.2)]
      · rw [if_neg (fun h => c2 (i2.2.mp h)), if_neg (fun h => c2 h.2.1)]
    · rw [if_neg (fun h => c1 (i1.1.mp h)), if_neg (fun h => c1 h.1)]
theorem m_bound_34 (fu : Nat) (hfu : 100 ≤ fu) {S : zSt} {P : zP} (hm : mRep S 74 0 P) (hP : pOK P) (hw : wgM S P (pN P) 0) {a b : Nat} (ha : a < pN P) (hb : b < pN P) (w : Int32) : ∀ (m s n : Nat) (r : Option Nat × Nat), s + m = 2 ^ pN P → m + 1 ≤ n → lsOk P r → f_M_bound_34 fu n (nI a) (nI b) w (ocI r.1) (nI r.2) (nI s) S = f_M_bound_98 fu w (ocI (lsS P a b m s r).1) (nI (lsS P a b m s r).2) S := by
  have h9 := hP.1
  have h2p := pow_le9 (pN P) h9
  intro m
  induction m with
  | zero =>
    intro s n r h1 h2 h
    obtain ⟨n', rfl⟩ : ∃ n', n = n' + 1 := ⟨n - 1, by omega⟩
    unfold f_M_bound_34
    rw [qb1 (m_many hm), sh_n _ h9, if_pos ((n_le (by omega) (by omega)).mpr (by omega))]
    rfl
  | succ m ih =>
    intro s n r h1 h2 h
    obtain ⟨n', rfl⟩ : ∃ n', n = n' + 1 := ⟨n - 1, by omega⟩
    have hs : s < 512 := by omega
    have hrec := ih (s + 1) n' _ (by omega) (by omega) (ls_step hP a b hs h)
    show _ = f_M_bound_98 fu w (ocI (lsS P a b m (s + 1) (if inS (nI s) a = true ∧ inS (nI s) b = false ∧ coP P (nI s) < r.2 then (some s, coP P (nI s)) else r)).1) (nI (lsS P a b m (s + 1) (if inS (nI s) a = true ∧ inS (nI s) b = false ∧ coP P (nI s) < r.2 then (some s, coP P (nI s)) else r)).2) S
    rw [← hrec]
    obtain ⟨K, eK⟩ : ∃ K, K = f_M_bound_34 fu n' := ⟨_, rfl⟩
    rw [← eK]
    have hco := co_le hP (nI s)
    have hr2 := h.1
    unfold f_M_bound_34
    rw [qb1 (m_many hm), sh_n _ h9, if_neg (fun h => absurd ((n_le (by omega) (by omega)).mp h) (by omega)), qb1 (isIn_is (nI s) a), ← eK, n_1]
    cases c1 : inS (nI s) a with
    | false => rw [if_pos (show b2 false = 0 from rfl), if_neg (fun h => by cases h.1)]
    | true =>
      rw [if_neg (show ¬ b2 true = 0 by decide), qb1 (isIn_is (nI s) b)]
      cases c2 : inS (nI s) b with
      | true => rw [if_neg (show ¬ b2 true = 0 by decide), if_neg (fun h => by cases h.2.1)]
      | false =>
        rw [if_pos (show b2 false = 0 from rfl), qb1 (m_out fu hfu hm hP hw (nI s))]
        by_cases c3 : coP P (nI s) < r.2
        · rw [if_pos ((n_lt (by omega) (by omega)).mpr c3), if_pos ⟨rfl, rfl, c3⟩]
          rfl
        · rw [if_neg (fun h => c3 ((n_lt (by omega) (by omega)).mp h)), if_neg (fun h => c3 h.2.2)]

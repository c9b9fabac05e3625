/-! plain answers; sums over pairs of springs -/
theorem call_bubbles {S : zSt} (h : Inv S) : ∃ v, f_E_bubbles S = some v ∧ f_M_bubbles S = some v := by
  obtain ⟨P, es, hP, hc, hm, hj, hi, ht, hms, hd, hs⟩ := h
  exact ⟨_, rfl, congrArg some hms.2.1.symm⟩
theorem call_fault {S : zSt} (h : Inv S) : ∃ v, f_E_fault S = some v ∧ f_M_fault S = some v := by
  obtain ⟨P, es, hP, hc, hm, hj, hi, ht, hms, hd, hs⟩ := h
  exact ⟨_, rfl, congrArg some hms.2.2.1.symm⟩
theorem call_stopped {S : zSt} (h : Inv S) : ∃ v, f_E_stopped S = some v ∧ f_M_stopped S = some v := by
  obtain ⟨P, es, hP, hc, hm, hj, hi, ht, hms, hd, hs⟩ := h
  exact ⟨_, rfl, congrArg some hms.2.2.2.1.symm⟩
theorem call_status {S : zSt} (h : Inv S) : ∃ v, f_E_status S = some v ∧ f_M_status S = some v := by
  obtain ⟨P, es, hP, hc, hm, hj, hi, ht, hms, hd, hs⟩ := h
  exact ⟨_, rfl, congrArg some hms.1.symm⟩
theorem call_drawn {S : zSt} (h : Inv S) (a w : Int32) : ∃ v, f_E_drawn a w S = some v ∧ f_M_drawn a w S = some v := by
  obtain ⟨P, es, hP, hc, hm, hj, hi, ht, hms, hd, hs⟩ := h
  obtain ⟨n, n9, n0, n1, n2, n3⟩ := hd
  have hE : ∀ a, f_Ps_has 13 a S = some (if ¬ a < 0 ∧ ¬ nI n ≤ a then 1 else 0) := fun a => by
    unfold f_Ps_has
    rw [n0]
    by_cases h1 : a < 0
    · rw [if_pos h1, if_neg (fun h => h.1 h1)]
    · by_cases h2 : nI n ≤ a
      · rw [if_neg h1, if_pos h2, if_neg (fun h => h.2 h2)]
      · rw [if_neg h1, if_neg h2, if_pos ⟨h1, h2⟩]
  rcases rng_or a 0 8 with ⟨s, -, hs8, rfl⟩ | ha
  · by_cases hsn : s < n
    · have e49 : zI S 72 49 = nI n := by
        rcases n1 with ⟨h, -⟩ | ⟨-, h⟩
        · omega
        · exact h
      have l1 : f_M_lies (nI s) 0 (zI S 72 49 - 1) = some 1 := by
        rw [e49, show nI n - 1 = nI (n - 1) from n_sub (b := 1) (by omega)]
        exact lies_yes (lo := 0) (by omega) (by omega) (by omega)
      have hE1 : f_Ps_has 13 (nI s) S = some 1 := by rw [hE, if_pos ⟨n_neg (by omega), fun h => absurd ((n_le (by omega) (by omega)).mp h) (by omega)⟩]
      unfold f_E_drawn f_M_drawn
      rw [qb1 hE1, if_neg (show ¬ (1 : Int32) = 0 by decide), qb1 l1, if_neg (show ¬ (1 : Int32) = 0 by decide)]
      by_cases h0 : w = 0
      · have l2 : f_M_lies w 0 1 = some 1 := by rw [h0]; rfl
        have em : f_Ps_mudOf 13 (nI s) S = some (nib (zL S 13 3) s) := by
          unfold f_Ps_mudOf
          rw [if_neg (n_neg (by omega)), n0, if_neg (fun h => absurd ((n_le (by omega) (by omega)).mp h) (by omega))]
          rfl
        rw [if_pos h0, qb1 em, qb1 l2, if_neg (show ¬ (1 : Int32) = 0 by decide), if_pos h0, show (1 : Int32) + nI s = nI (1 + s) from n_add 1 s, n_gd (by omega) (by omega), q_cl (by omega), ← n2 s hsn]
        exact ⟨_, rfl, rfl⟩
      · rw [if_neg h0]
        by_cases h1 : w = 1
        · have l2 : f_M_lies w 0 1 = some 1 := by rw [h1]; rfl
          rw [if_pos h1, qb1 l2, if_neg (show ¬ (1 : Int32) = 0 by decide), if_neg h0, n3 (by omega), show (0 : Int32).toNatClampNeg = 0 from rfl]
          by_cases hz : zI S 97 0 = nI s
          · rw [if_pos hz]; exact ⟨_, rfl, rfl⟩
          · rw [if_neg hz]; exact ⟨_, rfl, rfl⟩
        · have l2 : f_M_lies w 0 1 = some 0 := lies_no (lo := 0) (hi := 1) (by omega) (by omega) (fun v _ hv => by
            rcases (by omega : v = 0 ∨ v = 1) with rfl | rfl
            · exact h0
            · exact h1)
          rw [if_neg h1, qb1 l2, if_pos rfl]
          exact ⟨_, rfl, rfl⟩
    · have hE1 : f_Ps_has 13 (nI s) S = some 0 := by rw [hE, if_neg (fun h => h.2 ((n_le (by omega) (by omega)).mpr (by omega)))]
      have l1 : f_M_lies (nI s) 0 (zI S 72 49 - 1) = some 0 := by
        rcases n1 with ⟨h, h2⟩ | ⟨h, h2⟩
        · rw [h2, m_lies, if_neg]
          rintro ⟨-, h3⟩
          rw [q_le, q_nI (by omega), show ((-1 : Int32) - 1).toInt = -2 from rfl] at h3
          omega
        · rw [h2, show nI n - 1 = nI (n - 1) from n_sub (b := 1) (by omega), m_lies, if_neg]
          rintro ⟨-, h3⟩
          have := (n_le (by omega) (by omega)).mp h3
          omega
      unfold f_E_drawn f_M_drawn
      rw [qb1 hE1, if_pos rfl, qb1 l1, if_pos rfl]
      exact ⟨_, rfl, rfl⟩
  · have ha2 : ∀ v : Nat, v < n → a ≠ nI v := fun v hv => ha v (Nat.zero_le _) (by omega)
    have hE1 : f_Ps_has 13 a S = some 0 := by
      rw [hE, if_neg]
      rintro ⟨h1, h2⟩
      rw [q_lt, q_0] at h1
      obtain ⟨m, rfl, hm, hb⟩ := q_ex (a := a) (by omega)
      have : ¬ n ≤ m := fun h => h2 ((n_le (by omega) (by omega)).mpr h)
      exact ha2 m (by omega) rfl
    have l1 : f_M_lies a 0 (zI S 72 49 - 1) = some 0 := by
      rw [m_lies, if_neg]
      rintro ⟨h1, h2⟩
      rw [q_le, q_0] at h1
      obtain ⟨m, rfl, hm, hb⟩ := q_ex (a := a) (by omega)
      rcases n1 with ⟨h, h3⟩ | ⟨h, h3⟩
      · rw [h3, q_le, q_nI (by omega), show ((-1 : Int32) - 1).toInt = -2 from rfl] at h2
        omega
      · rw [h3, show nI n - 1 = nI (n - 1) from n_sub (b := 1) (by omega)] at h2
        have := (n_le (by omega) (by omega)).mp h2
        exact ha2 m (by omega) rfl
    unfold f_E_drawn f_M_drawn
    rw [qb1 hE1, if_pos rfl, qb1 l1, if_pos rfl]
    exact ⟨_, rfl, rfl⟩
/-! sums -/
def sm (f : Nat → Nat) : Nat → Nat
  | 0 => 0
  | n + 1 => sm f n + f n
theorem sm_eq {f g : Nat → Nat} : ∀ n, (∀ i, i < n → f i = g i) → sm f n = sm g n := by
  intro n
  induction n with
  | zero => intro _; rfl
  | succ n ih =>
    intro h
    show sm f n + f n = sm g n + g n
    rw [ih (fun i hi => h i (by omega)), h n (by omega)]
theorem sm_add (f g : Nat → Nat) : ∀ n, sm (fun i => f i + g i) n = sm f n + sm g n := by
  intro n
  induction n with
  | zero => rfl
  | succ n ih =>
    show sm (fun i => f i + g i) n + (f n + g n) = (sm f n + f n) + (sm g n + g n)
    rw [ih]
    omega
theorem sm_0 {f : Nat → Nat} : ∀ n, (∀ i, i < n → f i = 0) → sm f n = 0 := by
  intro n
  induction n with
  | zero => intro _; rfl
  | succ n ih =>
    intro h
    show sm f n + f n = 0
    rw [ih (fun i hi => h i (by omega)), h n (by omega)]
theorem sm_le {f : Nat → Nat} : ∀ n, (∀ i, i < n → f i ≤ 1) → sm f n ≤ n := by
  intro n
  induction n with
  | zero => intro _; exact Nat.le_refl _
  | succ n ih =>
    intro h
    show sm f n + f n ≤ n + 1
    have h1 := ih (fun i hi => h i (by omega))
    have h2 := h n (by omega)
    omega
/-- pairs with the greater first -/
def smC (g : Nat → Nat → Nat) (n : Nat) : Nat := sm (fun a => sm (fun b => g a b) a) n
/-- pairs with the lesser first -/
def smR (g : Nat → Nat → Nat) (n : Nat) : Nat := sm (fun a => sm (fun c => if a < c then g a c else 0) n) n
theorem smR_s (g : Nat → Nat → Nat) (n : Nat) : smR g (n + 1) = smR g n + sm (fun a => g a n) n := by
  unfold smR
  show sm (fun a => sm (fun c => if a < c then g a c else 0) (n + 1)) n + sm (fun c => if n < c then g n c else 0) (n + 1) = _
  rw [sm_0 (n + 1) (fun i hi => if_neg (by omega)), Nat.add_zero, ← sm_add]
  exact sm_eq n (fun a ha => by
    show sm (fun c => if a < c then g a c else 0) n + (if a < n then g a n else 0) = _
    rw [if_pos ha])
theorem smC_R {g : Nat → Nat → Nat} (hg : ∀ a b, g a b = g b a) : ∀ n, smC g n = smR g n := by
  intro n
  induction n with
  | zero => rfl
  | succ n ih =>
    rw [smR_s, ← ih]
    show smC g n + sm (fun b => g n b) n = _
    rw [sm_eq n (fun i _ => hg n i)]
theorem smC_z {g : Nat → Nat → Nat} {n : Nat} (hg : ∀ a b, n ≤ a → g a b = 0) : ∀ m, smC g (n + m) = smC g n := by
  intro m
  induction m with
  | zero => rfl
  | succ m ih =>
    show smC g (n + m) + sm (fun b => g (n + m) b) (n + m) = _
    rw [ih, sm_0 _ (fun i _ => hg _ _ (by omega)), Nat.add_zero]
theorem pq_back : ∀ p, p < 36 → pq (pqH.getD p 0) (pqB.getD p 0) = p ∧ pqH.getD p 0 < 9 ∧ pqB.getD p 0 < 9 ∧ pqH.getD p 0 ≠ pqB.getD p 0 := by decide
theorem sm_36 (g : Nat → Nat → Nat) : sm (fun p => g (pqH.getD p 0) (pqB.getD p 0)) 36 = smC g 9 := by
  unfold smC
  simp only [sm, pqH, pqB, List.getD_cons_succ, List.getD_cons_zero]
  omega
/-- a sum over the class's places is one over the reference's pairs -/
theorem sm_pairs {P : zP} (hP : pOK P) {h : Nat → Nat} {g : Nat → Nat → Nat} (hg : ∀ a b, g a b = g b a) (hz : ∀ a b, pN P ≤ a → g a b = 0) (hh : ∀ a b, a < 9 → b < 9 → a ≠ b → h (pq a b) = g a b) : sm h 36 = smR g (pN P) := by
  have h9 := hP.1
  rw [← smC_R hg, ← smC_z hz (9 - pN P), show pN P + (9 - pN P) = 9 by omega, ← sm_36]
  refine sm_eq 36 (fun p hp => ?_)
  obtain ⟨e1, e2, e3, e4⟩ := pq_back p hp
  have := hh _ _ e2 e3 e4
  rw [e1] at this
  exact this

/-! when a rumour began at a spring: class and reference -/
def prOk (p : Option Nat) (v : Nat) : Bool := match p with
  | none => true
  | some u => decide (u = v)
def prV (p : Option Nat) : Nat := match p with
  | none => 0
  | some u => u
/-- none: it cannot have begun there -/
def stP (D : zD) (a : Nat) : List (Nat × Nat) → Option Nat → Option Nat
  | [], p => some (prV p)
  | x :: r, p => if D a x.1 ≤ x.2 ∧ prOk p (x.2 - D a x.1) = true then stP D a r (some (x.2 - D a x.1)) else none
theorem prOk_is {p : Option Nat} {v : Nat} (hp : ∀ u, p = some u → u ≤ 999) (hv : v ≤ 999) : (ocI p = -1 ∨ ocI p = nI v) ↔ prOk p v = true := by
  cases p with
  | none => exact ⟨fun _ => rfl, fun _ => Or.inl rfl⟩
  | some u =>
    have hu := hp u rfl
    constructor
    · rintro (h | h)
      · exact absurd (show nI u = -1 from h) (nI_m1 (by omega))
      · exact decide_eq_true ((n_eq (by omega) (by omega)).mp (show nI u = nI v from h))
    · intro h
      have h2 : u = v := of_decide_eq_true h
      rw [h2]; exact Or.inr rfl
theorem drop_cons {α : Type} {l : List α} {i : Nat} (h : i < l.length) : ∃ x, l[i]? = some x ∧ l.drop i = x :: l.drop (i + 1) := ⟨l[i], List.getElem?_eq_getElem h, List.drop_eq_getElem_cons h⟩
theorem c_start_5 (fu : Nat) {S : zSt} {P : zP} (hc : cRep S 1 P) (hP : pOK P) {law : List lC} (hp : zPp S P law) {a : Nat} (ha : a < pN P) : ∀ (m i n : Nat) (p : Option Nat), i + m = (pHd P).length → m + 1 ≤ n → (∀ u, p = some u → u ≤ 999) → f_Ru_startBy_5 fu 1 n (nI a) (ocI p) (nI i) S = some (ocI (stP (pD P law) a ((pHd P).drop i) p)) := by
  have h9 := hP.1
  have h6 := hP.2.2.2.2.2.2.2.2.2.2.2.2.1
  have e9 : zI S 1 9 = nI (pHd P).length := hc.2.2.2.2.2.2.2.2.2.2.1
  intro m
  induction m with
  | zero =>
    intro i n p h1 h2 h3
    obtain ⟨n', rfl⟩ : ∃ n', n = n' + 1 := ⟨n - 1, by omega⟩
    unfold f_Ru_startBy_5
    rw [e9, if_pos ((n_le (by omega) (by omega)).mpr (by omega)), List.drop_eq_nil_of_le (by omega)]
    unfold f_Ru_startBy_80
    cases p with
    | none => rw [if_pos (show ocI none = -1 from rfl)]; rfl
    | some u =>
      have hu := h3 u rfl
      rw [if_neg (show ¬ ocI (some u) = -1 from nI_m1 (by omega))]; rfl
  | succ m ih =>
    intro i n p h1 h2 h3
    obtain ⟨n', rfl⟩ : ∃ n', n = n' + 1 := ⟨n - 1, by omega⟩
    obtain ⟨x, x1, x2⟩ := drop_cons (l := pHd P) (i := i) (by omega)
    obtain ⟨xs, xd⟩ := hP.2.2.2.2.2.2.2.2.2.2.2.2.2.1 i x x1
    obtain ⟨z1, z2⟩ := hc.2.2.2.2.2.2.2.2.2.2.2.1 i x x1
    have hD := (hp.2.1 a x.1 ha xs).2
    have es : f_Pa_soonest (nI a) (nI x.1) S = some (pSo (pD P law) a x.1) := pa_soon hP hp ha xs
    obtain ⟨K, eK⟩ : ∃ K, K = f_Ru_startBy_5 fu 1 n' := ⟨_, rfl⟩
    unfold f_Ru_startBy_5
    rw [e9, if_neg (fun h => absurd ((n_le (by omega) (by omega)).mp h) (by omega)), if_neg (show ¬ (6 : Int32) ≤ nI i from fun h => absurd ((n_le (a := 6) (by omega) (by omega)).mp h) (by omega)), n_gd (by omega) (by omega), q_cl (by omega), show zI S (1 + 3) i = nI x.1 from z1, qb1 es, show zI S (1 + 4) i = nI x.2 from z2, qgd ⟨n_0 (by omega), by omega⟩, x2, ← eK]
    have s1 : ((pD P law) a x.1 ≤ x.2 ∧ prOk p (x.2 - (pD P law) a x.1) = true) → stP (pD P law) a (x :: (pHd P).drop (i + 1)) p = stP (pD P law) a ((pHd P).drop (i + 1)) (some (x.2 - (pD P law) a x.1)) := fun h => if_pos h
    have s0 : ¬ ((pD P law) a x.1 ≤ x.2 ∧ prOk p (x.2 - (pD P law) a x.1) = true) → stP (pD P law) a (x :: (pHd P).drop (i + 1)) p = none := fun h => if_neg h
    unfold pSo
    by_cases c : 1000000 ≤ pD P law a x.1
    · rw [if_pos c, if_pos rfl, s0 (fun h => by omega)]
      rfl
    · rw [if_neg c, if_neg (nI_m1 (by omega))]
      by_cases c2 : pD P law a x.1 ≤ x.2
      · rw [n_sub c2, if_neg (n_neg (by omega))]
        have hpr := prOk_is h3 (show x.2 - pD P law a x.1 ≤ 999 by omega)
        have hrec := ih (i + 1) n' (some (x.2 - pD P law a x.1)) (by omega) (by omega) (fun u hu => by injection hu with hu; omega)
        rw [← eK] at hrec
        rw [n_1]
        by_cases c3 : prOk p (x.2 - pD P law a x.1) = true
        · rw [s1 ⟨c2, c3⟩]
          rcases hpr.mpr c3 with h | h
          · rw [if_pos h]; exact hrec
          · rw [if_neg (by rw [h]; exact nI_m1 (by omega)), if_pos h]; exact hrec
        · rw [s0 (fun h => c3 h.2), if_neg (fun h => c3 (hpr.mp (Or.inl h))), if_neg (fun h => c3 (hpr.mp (Or.inr h)))]
          rfl
      · have hlt : nI x.2 - nI (pD P law a x.1) < 0 := by
          rw [q_lt, q_sub (by rw [q_nI (by omega), q_nI (by omega)]; omega), q_nI (by omega), q_nI (by omega), q_0]
          omega
        rw [if_pos hlt, s0 (fun h => c2 h.1)]
        rfl
theorem m_start_4 (fu : Nat) {S : zSt} {P : zP} (hm : mRep S 74 0 P) (hP : pOK P) (hp : mPp S P) {a : Nat} (ha : a < pN P) : ∀ (m i n : Nat) (p : Option Nat), i + m = (pHd P).length → m + 1 ≤ n → (∀ u, p = some u → u ≤ 999) → (p = none ↔ i = 0) → f_M_beginsAt_4 fu n (nI a) (ocI p) (nI i) S = some (ocI (stP (pD P (pLaw P)) a ((pHd P).drop i) p)) := by
  have h9 := hP.1
  have h6 := hP.2.2.2.2.2.2.2.2.2.2.2.2.1
  have e9 : zI S 74 197 = nI (pHd P).length := by
    have := hm.2.2.2.2.2.2.2.2.2.1
    rw [Nat.zero_add] at this
    exact this
  have c197 : (197 : Int32).toNatClampNeg = 197 := rfl
  intro m
  induction m with
  | zero =>
    intro i n p h1 h2 h3 h4
    obtain ⟨n', rfl⟩ : ∃ n', n = n' + 1 := ⟨n - 1, by omega⟩
    unfold f_M_beginsAt_4
    rw [c197, e9, if_pos ((n_le (by omega) (by omega)).mpr (by omega)), List.drop_eq_nil_of_le (by omega)]
    unfold f_M_beginsAt_80
    rw [c197, e9]
    cases p with
    | none =>
      have := h4.mp rfl
      rw [if_pos (show nI (pHd P).length = 0 from (n_eq (b := 0) (by omega) (by omega)).mpr (by omega))]
      rfl
    | some u =>
      have : i ≠ 0 := fun h => by have := h4.mpr h; cases this
      rw [if_neg (show ¬ nI (pHd P).length = 0 from fun h => absurd ((n_eq (b := 0) (by omega) (by omega)).mp h) (by omega))]
      rfl
  | succ m ih =>
    intro i n p h1 h2 h3 h4
    obtain ⟨n', rfl⟩ : ∃ n', n = n' + 1 := ⟨n - 1, by omega⟩
    obtain ⟨x, x1, x2⟩ := drop_cons (l := pHd P) (i := i) (by omega)
    obtain ⟨xs, xd⟩ := hP.2.2.2.2.2.2.2.2.2.2.2.2.2.1 i x x1
    obtain ⟨z1, z2⟩ := hm.2.2.2.2.2.2.2.2.2.2.1 i x x1
    rw [Nat.zero_add] at z1 z2
    obtain ⟨r1, hD⟩ := hp.1 a x.1 ha xs
    have ei : (182 : Int32) + (2 : Int32) * nI i = nI (182 + 2 * i) := by rw [show (2 : Int32) = nI 2 from rfl, n_mul]; exact n_add 182 _
    obtain ⟨K, eK⟩ : ∃ K, K = f_M_beginsAt_4 fu n' := ⟨_, rfl⟩
    unfold f_M_beginsAt_4
    rw [c197, e9, if_neg (fun h => absurd ((n_le (by omega) (by omega)).mp h) (by omega)), ei, n_1, n_gd (by omega) (by omega), n_gd (by omega) (by omega), q_cl (by omega), q_cl (by omega), z1, z2, qb1 (m_pair (by omega) (by omega)), n_gd (by omega) (by omega), q_cl (by omega), r1, x2, ← eK]
    have s1 : ((pD P (pLaw P)) a x.1 ≤ x.2 ∧ prOk p (x.2 - (pD P (pLaw P)) a x.1) = true) → stP (pD P (pLaw P)) a (x :: (pHd P).drop (i + 1)) p = stP (pD P (pLaw P)) a ((pHd P).drop (i + 1)) (some (x.2 - (pD P (pLaw P)) a x.1)) := fun h => if_pos h
    have s0 : ¬ ((pD P (pLaw P)) a x.1 ≤ x.2 ∧ prOk p (x.2 - (pD P (pLaw P)) a x.1) = true) → stP (pD P (pLaw P)) a (x :: (pHd P).drop (i + 1)) p = none := fun h => if_neg h
    by_cases c2 : pD P (pLaw P) a x.1 ≤ x.2
    · rw [n_sub c2, if_neg (n_neg (by omega))]
      have hpr := prOk_is h3 (show x.2 - pD P (pLaw P) a x.1 ≤ 999 by omega)
      have hrec := ih (i + 1) n' (some (x.2 - pD P (pLaw P) a x.1)) (by omega) (by omega) (fun u hu => by injection hu with hu; omega) ⟨fun h => (by cases h), fun h => by omega⟩
      rw [← eK] at hrec
      rw [n_1]
      by_cases ci : i = 0
      · have hn := h4.mpr ci
        rw [if_pos (show nI i ≤ 0 by rw [ci]; decide), s1 ⟨c2, by rw [hn]; rfl⟩]; exact hrec
      · rw [if_neg (show ¬ nI i ≤ 0 from fun h => absurd ((n_le (b := 0) (by omega) (by omega)).mp h) (by omega))]
        cases p with
        | none => exact absurd (h4.mp rfl) ci
        | some u =>
          have hu := h3 u rfl
          by_cases c3 : u = x.2 - pD P (pLaw P) a x.1
          · rw [if_pos (show nI (x.2 - pD P (pLaw P) a x.1) = ocI (some u) by rw [c3]; rfl), s1 ⟨c2, decide_eq_true c3⟩]; exact hrec
          · rw [if_neg (show ¬ nI (x.2 - pD P (pLaw P) a x.1) = ocI (some u) from fun h => c3 ((n_eq (by omega) (by omega)).mp h).symm), s0 (fun h => c3 (of_decide_eq_true h.2))]
            rfl
    · have hlt : nI x.2 - nI (pD P (pLaw P) a x.1) < 0 := by
        rw [q_lt, q_sub (by rw [q_nI (by omega), q_nI (by omega)]; omega), q_nI (by omega), q_nI (by omega), q_0]
        omega
      rw [if_pos hlt, s0 (fun h => c2 h.1)]
      rfl

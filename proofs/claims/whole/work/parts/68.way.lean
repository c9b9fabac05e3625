/-! way, share, compare -/
/-- the lowest next spring by which nothing is lost -/
def nxP (L D : zD) (n to a : Nat) : Nat := sc (fun c => decide (¬ (L a c + D c to = D a to))) n 0
theorem nxP_is {L D : zD} {n to a : Nat} (h : ∃ c, c < n ∧ L a c + D c to = D a to) : nxP L D n to a < n ∧ L a (nxP L D n to a) + D (nxP L D n to a) to = D a to ∧ ∀ c, c < nxP L D n to a → ¬ (L a c + D c to = D a to) := by
  obtain ⟨s1, s2, s3, s4⟩ := sc_spec (fun c => decide (¬ (L a c + D c to = D a to))) n 0 (Nat.zero_le _)
  have hlt : nxP L D n to a < n := by
    refine Nat.lt_of_not_le (fun hge => ?_)
    obtain ⟨c, hc, he⟩ := h
    have := s3 c (Nat.zero_le _) (by show c < nxP L D n to a; omega)
    exact (of_decide_eq_true this) he
  refine ⟨hlt, ?_, fun c hc => of_decide_eq_true (s3 c (Nat.zero_le _) hc)⟩
  have := of_decide_eq_false (s4 hlt)
  exact Classical.byContradiction fun hn => this hn
/-- so many steps of the way -/
def wyP (L D : zD) (n to : Nat) : Nat → Nat → Option Nat
  | 0, a => some a
  | r + 1, a => if a = to then none else wyP L D n to r (nxP L D n to a)
/-- how many springs it comes from sooner -/
def rkP (D : zD) (n to a : Nat) : Nat := (List.range n).countP (fun c => decide (D c to < D a to))
theorem countP_lt {α : Type} (p q : α → Bool) : ∀ (l : List α), (∀ c ∈ l, p c = true → q c = true) → (∃ c ∈ l, q c = true ∧ p c = false) → l.countP p < l.countP q
  | [], _, h => by obtain ⟨c, hc, _⟩ := h; simp at hc
  | x :: l, h1, h2 => by
    have hle : l.countP p ≤ l.countP q := by
      clear h2
      induction l with
      | nil => exact Nat.le_refl _
      | cons y l ih =>
        rw [List.countP_cons, List.countP_cons]
        have := ih (fun c hc => h1 c (by
          rcases List.mem_cons.mp hc with h | h
          · rw [h]; simp
          · simp [h]))
        have hy := h1 y (by simp)
        cases hp : p y
        · simp; omega
        · rw [hy hp]; simp; omega
    rw [List.countP_cons, List.countP_cons]
    have hx := h1 x (by simp)
    obtain ⟨c, hc, hq, hp⟩ := h2
    rcases List.mem_cons.mp hc with rfl | hc'
    · rw [hq, hp]; simp; omega
    · have := countP_lt p q l (fun c hc => h1 c (by simp [hc])) ⟨c, hc', hq, hp⟩
      cases hpx : p x
      · simp; omega
      · rw [hx hpx]; simp; omega
theorem rkP_lt {D : zD} {n to a c : Nat} (hc : c < n) (h : D c to < D a to) : rkP D n to c < rkP D n to a := by
  refine countP_lt _ _ _ (fun x _ hx => ?_) ⟨c, List.mem_range.mpr hc, decide_eq_true h, decide_eq_false (Nat.lt_irrefl _)⟩
  have := of_decide_eq_true hx
  exact decide_eq_true (by omega)
theorem rkP_n {D : zD} {n to a : Nat} (ha : a < n) : rkP D n to a < n := by
  have h := countP_lt (fun c => decide (D c to < D a to)) (fun _ => true) (List.range n) (fun _ _ _ => rfl) ⟨a, List.mem_range.mpr ha, rfl, decide_eq_false (Nat.lt_irrefl _)⟩
  have e : (List.range n).countP (fun _ => true) = n := by
    have : (List.range n).countP (fun _ => true) = (List.range n).length := by
      rw [List.countP_eq_length]
      intro _ _; rfl
    rw [this, List.length_range]
  unfold rkP
  omega
section WAY
variable {P : zP} {S : zSt}
theorem way_step (hP : pOK P) (law : List lC) {to a : Nat} (ha : a < pN P) (ht : to < pN P) (hne : a ≠ to) (hd : pD P law a to < 1000000) :
    nxP (pLeg P law) (pD P law) (pN P) to a < pN P ∧ pLeg P law a (nxP (pLeg P law) (pD P law) (pN P) to a) + pD P law (nxP (pLeg P law) (pD P law) (pN P) to a) to = pD P law a to ∧ (∀ c, c < nxP (pLeg P law) (pD P law) (pN P) to a → ¬ (pLeg P law a c + pD P law c to = pD P law a to)) ∧ pD P law (nxP (pLeg P law) (pD P law) (pN P) to a) to < pD P law a to := by
  have h9 := hP.1
  obtain ⟨c, c1, c2, c3⟩ := fI_next (pD_fI hP law) ha ht hne hd (fun x _ => pLeg_self P law x)
  obtain ⟨n1, n2, n3⟩ := nxP_is (L := pLeg P law) (D := pD P law) (n := pN P) (to := to) (a := a) ⟨c, c1, c3⟩
  have hl := (pLeg_rg hP law (a := a) (b := nxP (pLeg P law) (pD P law) (pN P) to a) (by omega) (by omega)).1
  exact ⟨n1, n2, n3, by omega⟩
theorem pa_next (fu : Nat) (hfu : 100 ≤ fu) (hP : pOK P) {law : List lC} (h : zPp S P law) {to a : Nat} (ha : a < pN P) (ht : to < pN P) (hne : a ≠ to) (hd : pD P law a to < 1000000) : f_Pa_nextOnWay fu (nI a) (nI to) S = some (nI (nxP (pLeg P law) (pD P law) (pN P) to a)) := by
  have h9 := hP.1
  obtain ⟨n1, n2, n3, n4⟩ := way_step hP law ha ht hne hd
  have dle : ∀ x y, x < pN P → y < pN P → pD P law x y ≤ 1000000 := fun x y hx hy => (h.2.1 x y hx hy).2
  have lle : ∀ x, x < pN P → pLeg P law a x ≤ 1000000 := fun x hx => by have := pLeg_rg hP law (a := a) (b := x) (by omega) (by omega); omega
  have L : ∀ (m c : Nat), c ≤ nxP (pLeg P law) (pD P law) (pN P) to a → nxP (pLeg P law) (pD P law) (pN P) to a < m + c → f_Pa_nextOnWay_25 fu m (nI a) (nI to) (nI c) S = some (nI (nxP (pLeg P law) (pD P law) (pN P) to a)) := by
    intro m
    induction m with
    | zero => intro c h1 h2; omega
    | succ m ih =>
      intro c h1 h2
      have d1 := (h.2.1 c to (by omega) ht)
      have d2 := (h.2.1 a to ha ht)
      have d3 := (h.2.2 a c ha (by omega)).2
      have d4 := lle c (by omega)
      rw [f_Pa_nextOnWay_25, h.1, if_neg (fun h => absurd ((n_le (by omega) (by omega)).mp h) (by omega)), qb1 (pa_pair (by omega) (by omega)), n_gd (by omega) (by omega), qb1 (pa_pair (by omega) (by omega)), n_gd (by omega) (by omega), qb1 (pa_pair (by omega) (by omega)), n_gd (by omega) (by omega), q_cl (by omega), q_cl (by omega), q_cl (by omega), d3, d1.1, d2.1, n_add]
      have l := n_eq (a := pLeg P law a c + pD P law c to) (b := pD P law a to) (by omega) (by omega)
      by_cases e : c = nxP (pLeg P law) (pD P law) (pN P) to a
      · rw [if_pos (l.mpr (by rw [e]; exact n2)), e]
      · rw [if_neg (fun h => n3 c (by omega) (l.mp h)), n_1]
        exact ih (c + 1) (by omega) (by omega)
  unfold f_Pa_nextOnWay
  rw [qb1 (pa_has hP h.1 ha), if_neg (by decide), qb1 (pa_has hP h.1 ht), if_neg (by decide), if_neg (fun h => hne ((n_eq (by omega) (by omega)).mp h))]
  exact L fu 0 (by omega) (by omega)
theorem m_next (fu : Nat) (hfu : 100 ≤ fu) (hP : pOK P) (h : mPp S P) {to a : Nat} (ha : a < pN P) (ht : to < pN P) (hne : a ≠ to) (hd : pD P (pLaw P) a to < 1000000) : f_M_nextTo fu (nI a) (nI to) S = some (nI (nxP (pLeg P (pLaw P)) (pD P (pLaw P)) (pN P) to a)) := by
  have h9 := hP.1
  obtain ⟨n1, n2, n3, n4⟩ := way_step hP (pLaw P) ha ht hne hd
  have L : ∀ (m c : Nat), c ≤ nxP (pLeg P (pLaw P)) (pD P (pLaw P)) (pN P) to a → nxP (pLeg P (pLaw P)) (pD P (pLaw P)) (pN P) to a < m + c → f_M_nextTo_2 fu m (nI a) (nI to) (nI c) S = some (nI (nxP (pLeg P (pLaw P)) (pD P (pLaw P)) (pN P) to a)) := by
    intro m
    induction m with
    | zero => intro c h1 h2; omega
    | succ m ih =>
      intro c h1 h2
      have d1 := (h.1 c to (by omega) ht)
      have d2 := (h.1 a to ha ht)
      have d3 := h.2 a c ha (by omega)
      have d4 := pLeg_rg hP (pLaw P) (a := a) (b := c) (by omega) (by omega)
      have l := n_eq (a := pLeg P (pLaw P) a c + pD P (pLaw P) c to) (b := pD P (pLaw P) a to) (by omega) (by omega)
      have lF := n_le (a := 1000000) (b := pLeg P (pLaw P) a c) (by omega) (by omega)
      rw [f_M_nextTo_2, qb1 (m_pair (by omega) (by omega)), n_gd (by omega) (by omega), q_cl (by omega), d3]
      by_cases hF : 1000000 ≤ pLeg P (pLaw P) a c
      · have hne : c ≠ nxP (pLeg P (pLaw P)) (pD P (pLaw P)) (pN P) to a := fun e => by rw [← e] at n2; omega
        have lF' : (1000000 : Int32) ≤ nI (pLeg P (pLaw P) a c) := lF.mpr hF
        rw [if_pos lF', n_1]
        exact ih (c + 1) (by omega) (by omega)
      · have lF' : ¬ (1000000 : Int32) ≤ nI (pLeg P (pLaw P) a c) := fun h => hF (lF.mp h)
        rw [if_neg lF', qb1 (m_pair (by omega) (by omega)), q_cl (by omega), qgd ⟨n_0 (by omega), by omega⟩, qb1 (m_pair (by omega) (by omega)), n_gd (by omega) (by omega), qb1 (m_pair (by omega) (by omega)), n_gd (by omega) (by omega), q_cl (by omega), q_cl (by omega), d3, d1.1, d2.1, n_add]
        by_cases e : c = nxP (pLeg P (pLaw P)) (pD P (pLaw P)) (pN P) to a
        · rw [if_pos (l.mpr (by rw [e]; exact n2)), e]
        · rw [if_neg (fun h => n3 c (by omega) (l.mp h)), n_1]
          exact ih (c + 1) (by omega) (by omega)
  unfold f_M_nextTo
  exact L fu 0 (by omega) (by omega)
theorem wy_none (hP : pOK P) (law : List lC) {to : Nat} (ht : to < pN P) : ∀ (r a : Nat), a < pN P → pD P law a to < 1000000 → rkP (pD P law) (pN P) to a < r → wyP (pLeg P law) (pD P law) (pN P) to r a = none := by
  intro r
  induction r with
  | zero => intro a _ _ h; omega
  | succ r ih =>
    intro a ha hd hr
    show (if a = to then none else _) = _
    by_cases e : a = to
    · rw [if_pos e]
    · rw [if_neg e]
      obtain ⟨n1, n2, n3, n4⟩ := way_step hP law ha ht e hd
      have := rkP_lt (D := pD P law) (n := pN P) (to := to) (a := a) n1 n4
      exact ih _ n1 (by omega) (by omega)
theorem m_way_loop (fu : Nat) (hfu : 100 ≤ fu) (hP : pOK P) (h : mPp S P) {to : Nat} (ht : to < pN P) : ∀ (rk m r a k : Nat), rkP (pD P (pLaw P)) (pN P) to a ≤ rk → rk + 2 ≤ m → a < pN P → pD P (pLaw P) a to < 1000000 → k + r < 2 ^ 31 → f_M_way_44 fu m (nI to) (nI (k + r)) (nI a) (nI k) S = some (ocI (wyP (pLeg P (pLaw P)) (pD P (pLaw P)) (pN P) to r a), S) := by
  have h9 := hP.1
  intro rk
  induction rk with
  | zero =>
    intro m r a k h1 h2 ha hd hk
    obtain ⟨m, rfl⟩ : ∃ m', m = m' + 1 := ⟨m - 1, by omega⟩
    rw [f_M_way_44]
    cases r with
    | zero => rw [if_pos ((n_le (by omega) (by omega)).mpr (by omega))]; rfl
    | succ r =>
      rw [if_neg (fun h => absurd ((n_le (by omega) (by omega)).mp h) (by omega))]
      by_cases e : a = to
      · rw [if_pos (by rw [e])]
        show _ = some (ocI (if a = to then none else _), S)
        rw [if_pos e]; rfl
      · obtain ⟨n1, n2, n3, n4⟩ := way_step hP (pLaw P) ha ht e hd
        have := rkP_lt (D := pD P (pLaw P)) (n := pN P) (to := to) (a := a) n1 n4
        omega
  | succ rk ih =>
    intro m r a k h1 h2 ha hd hk
    obtain ⟨m, rfl⟩ : ∃ m', m = m' + 1 := ⟨m - 1, by omega⟩
    rw [f_M_way_44]
    cases r with
    | zero => rw [if_pos ((n_le (by omega) (by omega)).mpr (by omega))]; rfl
    | succ r =>
      rw [if_neg (fun h => absurd ((n_le (by omega) (by omega)).mp h) (by omega))]
      show _ = some (ocI (if a = to then none else _), S)
      by_cases e : a = to
      · rw [if_pos (by rw [e]), if_pos e]; rfl
      · obtain ⟨n1, n2, n3, n4⟩ := way_step hP (pLaw P) ha ht e hd
        have := rkP_lt (D := pD P (pLaw P)) (n := pN P) (to := to) (a := a) n1 n4
        rw [if_neg (fun h => e ((n_eq (by omega) (by omega)).mp h)), if_neg e, qb1 (m_next fu hfu hP h ha ht e hd), n_1, show k + (r + 1) = (k + 1) + r by omega]
        exact ih m r _ (k + 1) (by omega) (by omega) n1 (by omega) (by omega)
theorem pa_way_none (fu : Nat) (hP : pOK P) {law : List lC} (h : zPp S P law) {to : Nat} : ∀ (m r k : Nat), r < m → k + r < 2 ^ 31 → f_Pa_onWay_28 fu m (nI to) (nI (k + r)) (-1) (nI k) S = some (-1) := by
  intro m
  induction m with
  | zero => intro r k h1; omega
  | succ m ih =>
    intro r k h1 h2
    rw [f_Pa_onWay_28]
    cases r with
    | zero => rw [if_pos ((n_le (by omega) (by omega)).mpr (by omega))]
    | succ r =>
      have e : f_Pa_nextOnWay fu (-1) (nI to) S = some (-1) := by
        unfold f_Pa_nextOnWay
        rw [qb1 (pa_hasn hP h.1 (m1_ne hP)), if_pos rfl]
      rw [if_neg (fun h => absurd ((n_le (by omega) (by omega)).mp h) (by omega)), qb1 e, n_1, show k + (r + 1) = (k + 1) + r by omega]
      exact ih r (k + 1) (by omega) (by omega)
theorem pa_way_loop (fu : Nat) (hfu : 100 ≤ fu) (hP : pOK P) {law : List lC} (h : zPp S P law) {to : Nat} (ht : to < pN P) : ∀ (m r a k : Nat), r < m → a < pN P → pD P law a to < 1000000 → k + r < 2 ^ 31 → f_Pa_onWay_28 fu m (nI to) (nI (k + r)) (nI a) (nI k) S = some (ocI (wyP (pLeg P law) (pD P law) (pN P) to r a)) := by
  have h9 := hP.1
  intro m
  induction m with
  | zero => intro r a k h1; omega
  | succ m ih =>
    intro r a k h1 ha hd hk
    rw [f_Pa_onWay_28]
    cases r with
    | zero => rw [if_pos ((n_le (by omega) (by omega)).mpr (by omega))]; rfl
    | succ r =>
      rw [if_neg (fun h => absurd ((n_le (by omega) (by omega)).mp h) (by omega)), n_1, show k + (r + 1) = (k + 1) + r by omega]
      show _ = some (ocI (if a = to then none else _))
      by_cases e : a = to
      · have en : f_Pa_nextOnWay fu (nI a) (nI to) S = some (-1) := by
          unfold f_Pa_nextOnWay
          rw [qb1 (pa_has hP h.1 ha), if_neg (by decide), qb1 (pa_has hP h.1 ht), if_neg (by decide), if_pos (by rw [e])]
        rw [qb1 en, if_pos e]
        exact pa_way_none fu hP h m r (k + 1) (by omega) (by omega)
      · obtain ⟨n1, n2, n3, n4⟩ := way_step hP law ha ht e hd
        rw [qb1 (pa_next fu hfu hP h ha ht e hd), if_neg e]
        exact ih r _ (k + 1) (by omega) n1 (by omega) (by omega)
end WAY
theorem call_way (fu : Nat) (hfu : 1000 ≤ fu) {S : zSt} (h : Inv S) (a b i : Int32) : cOk (f_E_way fu a b i) (f_M_way fu a b i) S := by
  obtain ⟨P, es, hP, hc, hm, hj, hi, ht, hms, hd, hs⟩ := id h
  have h9 := hP.1
  obtain ⟨S1, x1, x2, x3, x4, x5⟩ := inv_paper fu hfu hP hc hm hs
  have hE : ∀ r, f_Pa_onWay fu a b i S1 = some r → f_E_way fu a b i S = some (r, S1) := by
    intro r hr
    unfold f_E_way
    rw [qb1 x1, qb1 hr]
  have hN : ∀ (hab : (∀ s, s < pN P → a ≠ nI s) ∨ ∀ s, s < pN P → b ≠ nI s), f_Pa_onWay fu a b i S1 = some (-1) := by
    intro hab
    unfold f_Pa_onWay
    by_cases h0 : i < 0
    · rw [if_pos h0]
    rw [if_neg h0]
    by_cases h1 : (9 : Int32) ≤ i
    · rw [if_pos h1]
    rw [if_neg h1, qb1 (pa_soon_no hP x3.1 hab), if_pos rfl]
  rcases spr_or P a with ⟨s, hss, rfl⟩ | ha
  · rcases spr_or P b with ⟨t, htt, rfl⟩ | hb
    · by_cases h0 : i < 0
      · refine cOk_q h (hE (-1) (by unfold f_Pa_onWay; rw [if_pos h0])) x2 (S2 := S1) ?_ (zCo_r S1)
        unfold f_M_way
        rw [qb1 (m_spr_yes x5 hP hss), if_neg (by decide), qb1 (m_spr_yes x5 hP htt), if_neg (by decide), if_neg (by rw [q_le, q_0]; rw [q_lt, q_0] at h0; omega)]
      · have h0' : 0 ≤ i := by rw [q_le, q_0]; rw [q_lt, q_0] at h0; omega
        obtain ⟨iN, rfl, hiN, hib⟩ := q_ex (a := i) (by rw [q_le, q_0] at h0'; omega)
        obtain ⟨S2, y1, y2, y3⟩ := lays_soon fu (by omega) hP x5
        have hM : f_M_way fu (nI s) (nI t) (nI iN) S1 = (if pSo (pD P (pLaw P)) s t = -1 then some (-1, S2) else f_M_way_44 fu fu (nI t) (nI iN) (nI s) 0 S2) := by
          unfold f_M_way
          rw [qb1 (m_spr_yes x5 hP hss), if_neg (by decide), qb1 (m_spr_yes x5 hP htt), if_neg (by decide), if_pos h0', qb1 y1, qb1 (m_soonOr hP y3 hss htt)]
        have dle := (x3.2.1 s t hss htt).2
        have l9 := n_le (a := 9) (b := iN) (by omega) (by omega)
        by_cases hdd : 1000000 ≤ pD P (pLaw P) s t
        · refine cOk_q h (hE (-1) ?_) x2 (S2 := S2) ?_ y2
          · unfold f_Pa_onWay
            rw [if_neg h0]
            by_cases h1 : (9 : Int32) ≤ nI iN
            · rw [if_pos h1]
            · rw [if_neg h1, qb1 (pa_soon hP x3 hss htt), if_pos ((pSo_m1 dle).mpr hdd)]
          · rw [hM, if_pos ((pSo_m1 dle).mpr hdd)]
        · have eM : f_M_way_44 fu fu (nI t) (nI iN) (nI s) 0 S2 = some (ocI (wyP (pLeg P (pLaw P)) (pD P (pLaw P)) (pN P) t iN s), S2) := by
            have := m_way_loop fu (by omega) hP y3 htt (rkP (pD P (pLaw P)) (pN P) t s) fu iN s 0 (Nat.le_refl _) (by have := rkP_n (D := pD P (pLaw P)) (to := t) hss; omega) hss (by omega) (by omega)
            rw [Nat.zero_add] at this
            exact this
          refine cOk_q h (hE (ocI (wyP (pLeg P (pLaw P)) (pD P (pLaw P)) (pN P) t iN s)) ?_) x2 (S2 := S2) ?_ y2
          · unfold f_Pa_onWay
            rw [if_neg h0]
            by_cases h1 : 9 ≤ iN
            · have h1' : (9 : Int32) ≤ nI iN := l9.mpr h1
              rw [if_pos h1', wy_none hP (pLaw P) htt iN s hss (by omega) (by have := rkP_n (D := pD P (pLaw P)) (to := t) hss; omega)]
              rfl
            · have h1' : ¬ (9 : Int32) ≤ nI iN := fun h => h1 (l9.mp h)
              rw [if_neg h1', qb1 (pa_soon hP x3 hss htt), if_neg (fun h => hdd ((pSo_m1 dle).mp h))]
              have := pa_way_loop fu (by omega) hP x3 htt fu iN s 0 (by omega) hss (by omega) (by omega)
              rw [Nat.zero_add] at this
              exact this
          · rw [hM, if_neg (fun h => hdd ((pSo_m1 dle).mp h)), eM]
    · refine cOk_q h (hE _ (hN (Or.inr hb))) x2 (S2 := S1) ?_ (zCo_r S1)
      unfold f_M_way
      rw [qb1 (m_spr_yes x5 hP hss), if_neg (by decide), qb1 (m_spr_no x5 hP hb), if_pos rfl]
  · refine cOk_q h (hE _ (hN (Or.inl ha))) x2 (S2 := S1) ?_ (zCo_r S1)
    unfold f_M_way
    rw [qb1 (m_spr_no x5 hP ha), if_pos rfl]
/-! sets -/
theorem sh_n : ∀ n, n ≤ 9 → (1 : Int32) <<< (nI n &&& 31) = nI (2 ^ n) := by decide +kernel
theorem pow_le9 : ∀ n, n ≤ 9 → 1 ≤ 2 ^ n ∧ 2 ^ n ≤ 512 := by decide
/-- a set of springs that are there, or none -/
theorem set_or (P : zP) (a : Int32) : (∃ v, v < 2 ^ pN P ∧ a = nI v) ∨ ∀ v, v < 2 ^ pN P → a ≠ nI v := by
  by_cases h : ∃ s, s < 2 ^ pN P ∧ a = nI s
  · exact Or.inl h
  · exact Or.inr fun s hs he => h ⟨s, hs, he⟩
theorem hasAll_is {P : zP} {S : zSt} (h : cRep S 1 P) (hP : pOK P) (a : Int32) : ((∃ v, v < 2 ^ pN P ∧ a = nI v) → f_Ps_hasAll 1 a S = some 1) ∧ ((∀ v, v < 2 ^ pN P → a ≠ nI v) → f_Ps_hasAll 1 a S = some 0) := by
  have h9 := hP.1
  have hp := pow_le9 _ h9
  unfold f_Ps_hasAll
  rw [h.1, sh_n _ h9]
  constructor
  · rintro ⟨v, hv, rfl⟩
    rw [if_neg (n_neg (by omega)), if_neg (fun h => absurd ((n_le (by omega) (by omega)).mp h) (by omega))]
  · intro hn
    by_cases h0 : a < 0
    · rw [if_pos h0]
    · rw [q_lt, q_0] at h0
      obtain ⟨m, rfl, hm, hb⟩ := q_ex (a := a) (by omega)
      have : 2 ^ pN P ≤ m := Nat.le_of_not_lt (fun h => hn m h rfl)
      rw [if_neg (n_neg hb), if_pos ((n_le (by omega) (by omega)).mpr this)]
theorem areSpr_is {P : zP} {S : zSt} (h : mRep S 74 0 P) (hP : pOK P) (a : Int32) : ((∃ v, v < 2 ^ pN P ∧ a = nI v) → f_M_areSprings a S = some 1) ∧ ((∀ v, v < 2 ^ pN P → a ≠ nI v) → f_M_areSprings a S = some 0) := by
  have h9 := hP.1
  have hp := pow_le9 _ h9
  have e1 : nI (2 ^ pN P) - 1 = nI (2 ^ pN P - 1) := n_sub (b := 1) hp.1
  unfold f_M_areSprings
  rw [qb1 (m_many h), sh_n _ h9, e1]
  constructor
  · rintro ⟨v, hv, rfl⟩
    have e0 : f_M_lies (nI v) 0 (nI (2 ^ pN P - 1)) = some 1 := lies_yes (lo := 0) (by omega) (by omega) (by omega)
    rw [qb1 e0, qgd (by decide)]
  · intro hn
    have e0 : f_M_lies a 0 (nI (2 ^ pN P - 1)) = some 0 := lies_no (lo := 0) (by omega) (by omega) (fun v _ h2 => hn v (by omega))
    rw [qb1 e0, qgd (by decide)]
def inS (set : Int32) (s : Nat) : Bool := decide (((set >>> (nI s &&& 31)) &&& (1 : Int32)) = (1 : Int32))
theorem isIn_is (set : Int32) (s : Nat) : f_M_isIn set (nI s) = some (b2 (inS set s)) := by
  unfold f_M_isIn inS
  by_cases h : ((set >>> (nI s &&& 31)) &&& (1 : Int32)) = (1 : Int32)
  · rw [if_pos h, decide_eq_true h]; rfl
  · rw [if_neg h, decide_eq_false h]; rfl
/-- of a set that from which it comes to a spring soonest -/
def shP (D : zD) (set : Int32) (to : Nat) : Nat → Nat → Option Nat → Nat → Option Nat
  | 0, _, best, _ => best
  | m + 1, a, best, few => if inS set a = true ∧ D a to < few then shP D set to m (a + 1) (some a) (D a to) else shP D set to m (a + 1) best few
theorem call_share (fu : Nat) (hfu : 1000 ≤ fu) {S : zSt} (h : Inv S) (set a : Int32) : cOk (f_E_share fu set a) (f_M_share fu set a) S := by
  obtain ⟨P, es, hP, hc, hm, hj, hi, ht, hms, hd, hs⟩ := id h
  have h9 := hP.1
  rcases spr_or P a with ⟨s, hss, rfl⟩ | ha
  · rcases set_or P set with hset | hset
    · obtain ⟨S1, x1, x2, x3, x4, x5⟩ := inv_paper fu hfu hP hc hm hs
      obtain ⟨S2, y1, y2, y3⟩ := lays_soon fu (by omega) hP x5
      have hm2 := mRep_co x5 y2 (Or.inl rfl) hP
      have hC : ∀ (m t : Nat) (best : Option Nat) (few : Nat), t ≤ pN P → pN P < m + t → few ≤ 1000000 → f_Pa_nearestOf_9 fu m set (nI s) (ocI best) (nI few) (nI t) S1 = some (ocI (shP (pD P (pLaw P)) set s (pN P - t) t best few)) := by
        intro m
        induction m with
        | zero => intro t best few h1 h2; omega
        | succ m ih =>
          intro t best few h1 h2 h3
          rw [f_Pa_nearestOf_9, qb1 (pa_has hP x3.1 hss), if_neg (by decide), x3.1]
          by_cases e : t = pN P
          · rw [if_pos ((n_le (by omega) (by omega)).mpr (by omega)), e, Nat.sub_self]; rfl
          · obtain ⟨d1, d2⟩ := x3.2.1 t s (by omega) hss
            have l := n_le (a := few) (b := pD P (pLaw P) t s) (by omega) (by omega)
            rw [if_neg (fun h => absurd ((n_le (by omega) (by omega)).mp h) (by omega)), qb1 (pa_pair (by omega) (by omega)), n_gd (by omega) (by omega), q_cl (by omega), d1, show pN P - t = (pN P - (t + 1)) + 1 by omega, n_1]
            show _ = some (ocI (if inS set t = true ∧ pD P (pLaw P) t s < few then shP (pD P (pLaw P)) set s (pN P - (t + 1)) (t + 1) (some t) (pD P (pLaw P) t s) else shP (pD P (pLaw P)) set s (pN P - (t + 1)) (t + 1) best few))
            by_cases hin : ((set >>> (nI t &&& 31)) &&& (1 : Int32)) = (1 : Int32)
            · have hin' : inS set t = true := decide_eq_true hin
              rw [if_pos hin]
              by_cases hl : few ≤ pD P (pLaw P) t s
              · rw [if_pos (l.mpr hl), if_neg (fun h => by omega)]; exact ih (t + 1) best few (by omega) (by omega) h3
              · rw [if_neg (fun h => hl (l.mp h)), if_pos ⟨hin', by omega⟩]; exact ih (t + 1) (some t) _ (by omega) (by omega) d2
            · have hin' : ¬ inS set t = true := fun h => hin (of_decide_eq_true h)
              rw [if_neg hin, if_neg (fun h => hin' h.1)]; exact ih (t + 1) best few (by omega) (by omega) h3
      have hM : ∀ (m t : Nat) (best : Option Nat) (few : Nat), t ≤ pN P → pN P < m + t → few ≤ 1000000 → f_M_share_31 fu m set (nI s) (ocI best) (nI few) (nI t) S2 = some (ocI (shP (pD P (pLaw P)) set s (pN P - t) t best few), S2) := by
        intro m
        induction m with
        | zero => intro t best few h1 h2; omega
        | succ m ih =>
          intro t best few h1 h2 h3
          rw [f_M_share_31, qb1 (m_many hm2)]
          by_cases e : t = pN P
          · rw [if_pos ((n_le (by omega) (by omega)).mpr (by omega)), e, Nat.sub_self]; rfl
          · obtain ⟨d1, d2⟩ := y3.1 t s (by omega) hss
            have l := n_lt (a := pD P (pLaw P) t s) (b := few) (by omega) (by omega)
            rw [if_neg (fun h => absurd ((n_le (by omega) (by omega)).mp h) (by omega)), qb1 (isIn_is set t), show pN P - t = (pN P - (t + 1)) + 1 by omega, n_1]
            show _ = some (ocI (if inS set t = true ∧ pD P (pLaw P) t s < few then shP (pD P (pLaw P)) set s (pN P - (t + 1)) (t + 1) (some t) (pD P (pLaw P) t s) else shP (pD P (pLaw P)) set s (pN P - (t + 1)) (t + 1) best few), S2)
            cases hin : inS set t with
            | false => rw [if_pos (show b2 false = 0 from rfl), if_neg (fun h => absurd h.1 (by decide))]; exact ih (t + 1) best few (by omega) (by omega) h3
            | true =>
              rw [if_neg (show ¬ b2 true = 0 by decide), qb1 (m_pair (by omega) (by omega)), n_gd (by omega) (by omega), q_cl (by omega), d1]
              by_cases hl : pD P (pLaw P) t s < few
              · rw [if_pos (l.mpr hl), if_pos ⟨rfl, hl⟩, qb1 (m_pair (by omega) (by omega)), q_cl (by omega), qgd ⟨n_0 (by omega), by omega⟩, d1]; exact ih (t + 1) (some t) _ (by omega) (by omega) d2
              · rw [if_neg (fun h => hl (l.mp h)), if_neg (fun h => hl h.2)]; exact ih (t + 1) best few (by omega) (by omega) h3
      refine cOk_q h (v := ocI (shP (pD P (pLaw P)) set s (pN P) 0 none 1000000)) (S1 := S1) (S2 := S2) ?_ x2 ?_ y2
      · unfold f_E_share
        rw [qb1 (has_yes hc hP hss), if_neg (by decide), qb1 ((hasAll_is hc hP set).1 hset), if_neg (by decide), qb1 x1]
        exact qb1 (hC fu 0 none 1000000 (by omega) (by omega) (by omega))
      · unfold f_M_share
        rw [qb1 (m_spr_yes x5 hP hss), if_neg (by decide), qb1 ((areSpr_is x5 hP set).1 hset), if_neg (by decide), qb1 y1]
        exact hM fu 0 none 1000000 (by omega) (by omega) (by omega)
    · refine cOk_0 h (v := -1) ?_ ?_
      · unfold f_E_share
        rw [qb1 (has_yes hc hP hss), if_neg (by decide), qb1 ((hasAll_is hc hP set).2 hset), if_pos rfl]
      · unfold f_M_share
        rw [qb1 (m_spr_yes hm hP hss), if_neg (by decide), qb1 ((areSpr_is hm hP set).2 hset), if_pos rfl]
  · refine cOk_0 h (v := -1) ?_ ?_
    · unfold f_E_share
      rw [qb1 (has_no hc hP ha), if_pos rfl]
    · unfold f_M_share
      rw [qb1 (m_spr_no hm hP ha), if_pos rfl]

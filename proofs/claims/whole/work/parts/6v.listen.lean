/-! listen: how many may be told apart at an ear -/
def dyV (P : zP) (c e : Nat) : Int32 := if 1000000 ≤ pD P (pLaw P) c e then -1 else nI (prV (stA P c) + pD P (pLaw P) c e)
theorem c_comes {S : zSt} {P : zP} (hP : pOK P) (hp : zPp S P (pLaw P)) (hr : zRu S P (pN P)) {c e v : Nat} (hc : c < pN P) (he : e < pN P) (hv : stA P c = some v) : f_Ru_comes (nI c) (nI e) S = some (dyV P c e) := by
  have h9 := hP.1
  have hD := (hp.2.1 c e hc he).2
  unfold f_Ru_comes
  rw [qb1 (pa_soon hP hp hc he)]
  unfold pSo dyV
  by_cases h : 1000000 ≤ pD P (pLaw P) c e
  · rw [if_pos h, if_pos rfl, if_pos h]
  · rw [if_neg h, if_neg (nI_m1 (by omega)), if_neg h, n_gd (by omega) (by omega), q_cl (by omega), hr.2 c hc, hv]
    exact congrArg some (n_add v _)
theorem m_dayAt (fu : Nat) (hfu : 100 ≤ fu) {S : zSt} {P : zP} (hm : mRep S 74 0 P) (hP : pOK P) (hp : mPp S P) {c e v : Nat} (hc : c < pN P) (he : e < pN P) (hv : stA P c = some v) : f_M_dayAt fu (nI c) (nI e) S = some (dyV P c e) := by
  have hD := (hp.1 c e hc he).2
  unfold f_M_dayAt
  rw [qb1 (m_soonOr hP hp hc he)]
  unfold pSo dyV
  by_cases h : 1000000 ≤ pD P (pLaw P) c e
  · rw [if_pos h, if_pos rfl, if_pos h]
  · have es : f_M_soonOr (nI c) (nI e) S = some (nI (pD P (pLaw P) c e)) := by
      rw [m_soonOr hP hp hc he]
      unfold pSo
      rw [if_neg h]
    rw [if_neg h, if_neg (nI_m1 (by omega)), if_neg h, qb1 (m_start fu hfu hm hP hp hc), qb1 es, hv]
    exact congrArg some (n_add v _)
/-- as many come on the same day -/
def alF (P : zP) (c e : Nat) : Nat → Nat := fun d => if (stA P d).isSome = true ∧ dyV P c e = dyV P d e then 1 else 0
theorem alF_le (P : zP) (c e d : Nat) : alF P c e d ≤ 1 := by
  unfold alF
  split <;> omega
theorem c_left_20 (fu : Nat) {S : zSt} {P : zP} (hP : pOK P) (hp : zPp S P (pLaw P)) (hr : zRu S P (pN P)) (k5 : Int32 → Int32 → Int32 → zSt → Option Int32) {c e v : Nat} (hc : c < pN P) (he : e < pN P) (hv : stA P c = some v) (b : Int32) : ∀ (m d n : Nat), d + m = pN P → m + 1 ≤ n → f_Ru_leftAt_20 fu k5 n (nI e) b (nI c) (nI (sm (alF P c e) d)) (nI d) S = f_Ru_leftAt_79 fu k5 (nI e) b (nI c) (nI (sm (alF P c e) (pN P))) S := by
  have h9 := hP.1
  have e68 : ¬ zI S 68 c = -1 := by
    rw [hr.2 c hc, hv]
    exact nI_m1 (by have := stA_le hP hv; omega)
  intro m
  induction m with
  | zero =>
    intro d n h1 h2
    obtain ⟨n', rfl⟩ : ∃ n', n = n' + 1 := ⟨n - 1, by omega⟩
    unfold f_Ru_leftAt_20
    rw [n_gd (by omega) (by omega), q_cl (by omega), if_neg e68, hr.1, if_pos ((n_le (by omega) (by omega)).mpr (by omega)), show d = pN P by omega]
  | succ m ih =>
    intro d n h1 h2
    obtain ⟨n', rfl⟩ : ∃ n', n = n' + 1 := ⟨n - 1, by omega⟩
    have hd : d < pN P := by omega
    rw [← ih (d + 1) n' (by omega) (by omega), show sm (alF P c e) (d + 1) = sm (alF P c e) d + (if (stA P d).isSome = true ∧ dyV P c e = dyV P d e then 1 else 0) from rfl]
    obtain ⟨K, eK⟩ : ∃ K, K = f_Ru_leftAt_20 fu k5 n' := ⟨_, rfl⟩
    rw [← eK]
    unfold f_Ru_leftAt_20
    rw [n_gd (by omega) (by omega), q_cl (by omega), if_neg e68, hr.1, if_neg (fun h => absurd ((n_le (by omega) (by omega)).mp h) (by omega)), n_gd (by omega) (by omega), q_cl (by omega), hr.2 d hd, ← eK, n_1]
    cases hs : stA P d with
    | none =>
      rw [if_pos (show ocI none = -1 from rfl), if_neg (fun h => absurd h.1 (by decide))]
      rfl
    | some w =>
      have hw := stA_le hP hs
      rw [if_neg (show ¬ ocI (some w) = -1 from nI_m1 (by omega)), qb1 (c_comes hP hp hr hc he hv), qb1 (c_comes hP hp hr hd he hs)]
      by_cases x : dyV P c e = dyV P d e
      · rw [if_pos x, if_pos ⟨rfl, x⟩, n_1]
      · rw [if_neg x, if_neg (fun h => x h.2)]; rfl
def lkP (P : zP) (e : Nat) : Nat → Nat
  | 0 => 0
  | c + 1 => if (stA P c).isSome = true then max (lkP P e c) (sm (alF P c e) (pN P)) else lkP P e c
theorem lkP_le {P : zP} (hP : pOK P) (e : Nat) : ∀ c, lkP P e c ≤ 9 := by
  have h9 := hP.1
  intro c
  induction c with
  | zero => exact Nat.zero_le _
  | succ c ih =>
    have h := sm_le (f := alF P c e) (pN P) (fun i _ => alF_le P c e i)
    show (if (stA P c).isSome = true then max (lkP P e c) (sm (alF P c e) (pN P)) else lkP P e c) ≤ 9
    split <;> omega
theorem c_left_5 (fu : Nat) (hfu : 100 ≤ fu) {S : zSt} {P : zP} (hP : pOK P) (hp : zPp S P (pLaw P)) (hr : zRu S P (pN P)) {e : Nat} (he : e < pN P) : ∀ (m c n : Nat), c + m = pN P → m + 1 ≤ n → f_Ru_leftAt_5 fu n (nI e) (nI (lkP P e c)) (nI c) S = some (nI (lkP P e (pN P))) := by
  have h9 := hP.1
  intro m
  induction m with
  | zero =>
    intro c n h1 h2
    obtain ⟨n', rfl⟩ : ∃ n', n = n' + 1 := ⟨n - 1, by omega⟩
    unfold f_Ru_leftAt_5
    rw [hr.1, if_pos ((n_le (by omega) (by omega)).mpr (by omega)), show c = pN P by omega]
  | succ m ih =>
    intro c n h1 h2
    obtain ⟨n', rfl⟩ : ∃ n', n = n' + 1 := ⟨n - 1, by omega⟩
    have hc : c < pN P := by omega
    have hl := lkP_le hP e c
    have hs := sm_le (f := alF P c e) (pN P) (fun i _ => alF_le P c e i)
    rw [← ih (c + 1) n' (by omega) (by omega), show lkP P e (c + 1) = if (stA P c).isSome = true then max (lkP P e c) (sm (alF P c e) (pN P)) else lkP P e c from rfl]
    obtain ⟨K, eK⟩ : ∃ K, K = f_Ru_leftAt_5 fu n' := ⟨_, rfl⟩
    rw [← eK]
    unfold f_Ru_leftAt_5
    rw [hr.1, if_neg (fun h => absurd ((n_le (by omega) (by omega)).mp h) (by omega)), ← eK]
    cases hv : stA P c with
    | none =>
      obtain ⟨f', ef⟩ : ∃ f', fu = f' + 1 := ⟨fu - 1, by omega⟩
      have e20 : f_Ru_leftAt_20 fu K (f' + 1) (nI e) (nI (lkP P e c)) (nI c) 0 0 S = f_Ru_leftAt_79 fu K (nI e) (nI (lkP P e c)) (nI c) 0 S := by
        unfold f_Ru_leftAt_20
        rw [n_gd (by omega) (by omega), q_cl (by omega), if_pos (by rw [hr.2 c hc, hv]; rfl)]
      rw [← ef] at e20
      rw [e20]
      unfold f_Ru_leftAt_79
      rw [if_pos (n_0 (by omega)), if_neg (by decide), n_1]
    | some v =>
      have e20 := c_left_20 fu hP hp hr K hc he hv (nI (lkP P e c)) (pN P) 0 fu (by omega) (by omega)
      rw [show sm (alF P c e) 0 = 0 from rfl] at e20
      refine Eq.trans e20 ?_
      unfold f_Ru_leftAt_79
      rw [if_pos (show (some v).isSome = true from rfl), n_1]
      by_cases x : sm (alF P c e) (pN P) ≤ lkP P e c
      · rw [if_pos ((n_le (by omega) (by omega)).mpr x), show max (lkP P e c) (sm (alF P c e) (pN P)) = lkP P e c by omega]
      · rw [if_neg (fun h => x ((n_le (by omega) (by omega)).mp h)), show max (lkP P e c) (sm (alF P c e) (pN P)) = sm (alF P c e) (pN P) by omega]
theorem c_left (fu : Nat) (hfu : 100 ≤ fu) {S : zSt} {P : zP} (hP : pOK P) (hp : zPp S P (pLaw P)) (hr : zRu S P (pN P)) {e : Nat} (he : e < pN P) : f_Ru_leftAt fu (nI e) S = some (nI (lkP P e (pN P))) := c_left_5 fu hfu hP hp hr he (pN P) 0 fu (by omega) (by have := hP.1; omega)

/-! listen: the reference -/
def alM (P : zP) (c e : Nat) : Nat → Nat := fun d => if (stA P c).isSome = true then alF P c e d else 0
theorem lk_step {P : zP} (e c : Nat) : lkP P e (c + 1) = max (lkP P e c) (sm (alM P c e) (pN P)) := by
  have h0 : lkP P e (c + 1) = if (stA P c).isSome = true then max (lkP P e c) (sm (alF P c e) (pN P)) else lkP P e c := rfl
  rw [h0]
  by_cases h : (stA P c).isSome = true
  · rw [if_pos h, sm_eq (f := alM P c e) (g := alF P c e) (pN P) (fun i _ => if_pos h)]
  · rw [if_neg h, sm_0 (f := alM P c e) (pN P) (fun i _ => if_neg h), Nat.max_zero]
theorem alM_le (P : zP) (c e d : Nat) : alM P c e d ≤ 1 := by
  unfold alM
  split
  · exact alF_le P c e d
  · omega
theorem isIn_og {P : zP} (hP : pOK P) {a : Nat} (ha : a < pN P) : f_M_isIn (ogP P (pN P)) (nI a) = some (b2 (stA P a).isSome) := by
  rw [isIn_is, ogP_in hP ha]
theorem m_like_20 (fu : Nat) (hfu : 100 ≤ fu) {S : zSt} {P : zP} (hm : mRep S 74 0 P) (hP : pOK P) (hp : mPp S P) (k5 : Int32 → Int32 → Int32 → Int32 → zSt → Option Int32) {c e : Nat} (hc : c < pN P) (he : e < pN P) (b : Int32) : ∀ (m d n : Nat), d + m = pN P → m + 1 ≤ n → f_M_mostAlike_20 fu k5 n (ogP P (pN P)) (nI e) b (nI c) (nI (sm (alM P c e) d)) (nI d) S = f_M_mostAlike_80 fu k5 (ogP P (pN P)) (nI e) b (nI c) (nI (sm (alM P c e) (pN P))) S := by
  have h9 := hP.1
  have z0 : ∀ x : Nat, nI x + 0 = nI (x + 0) := fun x => n_add x 0
  intro m
  induction m with
  | zero =>
    intro d n h1 h2
    obtain ⟨n', rfl⟩ : ∃ n', n = n' + 1 := ⟨n - 1, by omega⟩
    unfold f_M_mostAlike_20
    rw [qb1 (m_many hm), if_pos ((n_le (by omega) (by omega)).mpr (by omega)), show d = pN P by omega]
  | succ m ih =>
    intro d n h1 h2
    obtain ⟨n', rfl⟩ : ∃ n', n = n' + 1 := ⟨n - 1, by omega⟩
    have hd : d < pN P := by omega
    rw [← ih (d + 1) n' (by omega) (by omega), show sm (alM P c e) (d + 1) = sm (alM P c e) d + (if (stA P c).isSome = true then (if (stA P d).isSome = true ∧ dyV P c e = dyV P d e then 1 else 0) else 0) from rfl]
    obtain ⟨K, eK⟩ : ∃ K, K = f_M_mostAlike_20 fu k5 n' := ⟨_, rfl⟩
    rw [← eK]
    unfold f_M_mostAlike_20
    rw [qb1 (m_many hm), if_neg (fun h => absurd ((n_le (by omega) (by omega)).mp h) (by omega)), qb1 (isIn_og hP hd), ← eK, n_1]
    cases hs : stA P d with
    | none =>
      have ez : (if (stA P c).isSome = true then (if ((none : Option Nat).isSome = true ∧ dyV P c e = dyV P d e) then 1 else 0) else 0) = 0 := by simp
      rw [if_pos (show b2 (none : Option Nat).isSome = 0 from rfl), z0, ez]
    | some w =>
      rw [if_neg (show ¬ b2 (some w).isSome = 0 by show ¬ b2 true = 0; decide), qb1 (isIn_og hP hc)]
      cases hv : stA P c with
      | none =>
        rw [if_pos (show b2 (none : Option Nat).isSome = 0 from rfl), z0, if_neg (show ¬ (none : Option Nat).isSome = true by decide)]
      | some v =>
        rw [if_neg (show ¬ b2 (some v).isSome = 0 by show ¬ b2 true = 0; decide), qb1 (m_dayAt fu hfu hm hP hp hc he hv), qb1 (m_dayAt fu hfu hm hP hp hd he hs), if_pos (show (some v).isSome = true from rfl)]
        by_cases x : dyV P c e = dyV P d e
        · rw [if_pos x, if_pos ⟨rfl, x⟩, n_1]
        · rw [if_neg x, if_neg (fun h => x h.2), z0]
theorem m_like_5 (fu : Nat) (hfu : 100 ≤ fu) {S : zSt} {P : zP} (hm : mRep S 74 0 P) (hP : pOK P) (hp : mPp S P) {e : Nat} (he : e < pN P) : ∀ (m c n : Nat), c + m = pN P → m + 1 ≤ n → f_M_mostAlike_5 fu n (ogP P (pN P)) (nI e) (nI (lkP P e c)) (nI c) S = some (nI (lkP P e (pN P))) := by
  have h9 := hP.1
  intro m
  induction m with
  | zero =>
    intro c n h1 h2
    obtain ⟨n', rfl⟩ : ∃ n', n = n' + 1 := ⟨n - 1, by omega⟩
    unfold f_M_mostAlike_5
    rw [qb1 (m_many hm), if_pos ((n_le (by omega) (by omega)).mpr (by omega)), show c = pN P by omega]
  | succ m ih =>
    intro c n h1 h2
    obtain ⟨n', rfl⟩ : ∃ n', n = n' + 1 := ⟨n - 1, by omega⟩
    have hc : c < pN P := by omega
    have hl := lkP_le hP e c
    have hs := sm_le (f := alM P c e) (pN P) (fun i _ => alM_le P c e i)
    rw [← ih (c + 1) n' (by omega) (by omega), lk_step]
    obtain ⟨K, eK⟩ : ∃ K, K = f_M_mostAlike_5 fu n' := ⟨_, rfl⟩
    rw [← eK]
    unfold f_M_mostAlike_5
    rw [qb1 (m_many hm), if_neg (fun h => absurd ((n_le (by omega) (by omega)).mp h) (by omega)), ← eK]
    have e20 := m_like_20 fu hfu hm hP hp K hc he (nI (lkP P e c)) (pN P) 0 fu (by omega) (by omega)
    rw [show sm (alM P c e) 0 = 0 from rfl] at e20
    refine Eq.trans e20 ?_
    unfold f_M_mostAlike_80 f_M_greater
    by_cases x : lkP P e c ≤ sm (alM P c e) (pN P)
    · rw [if_pos ((n_le (by omega) (by omega)).mpr x), qb1s, n_1, show max (lkP P e c) (sm (alM P c e) (pN P)) = sm (alM P c e) (pN P) by omega]
    · rw [if_neg (fun h => x ((n_le (by omega) (by omega)).mp h)), qb1s, n_1, show max (lkP P e c) (sm (alM P c e) (pN P)) = lkP P e c by omega]
theorem m_like (fu : Nat) (hfu : 100 ≤ fu) {S : zSt} {P : zP} (hm : mRep S 74 0 P) (hP : pOK P) (hp : mPp S P) {e : Nat} (he : e < pN P) : f_M_mostAlike fu (ogP P (pN P)) (nI e) S = some (nI (lkP P e (pN P))) := m_like_5 fu hfu hm hP hp he (pN P) 0 fu (by omega) (by have := hP.1; omega)

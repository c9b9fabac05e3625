/-! listen: both -/
def beP (P : zP) : Nat → Nat → Option Nat × Nat → Option Nat × Nat
  | 0, _, r => r
  | m + 1, e, r => beP P m (e + 1) (if 0 < lkP P e (pN P) ∧ lkP P e (pN P) < r.2 then (some e, lkP P e (pN P)) else r)
def beOk (P : zP) (r : Option Nat × Nat) : Prop := r.2 ≤ 1000000 ∧ ∀ e, r.1 = some e → e < pN P ∧ r.2 = lkP P e (pN P)
theorem be_step {P : zP} (hP : pOK P) {e : Nat} (he : e < pN P) {r : Option Nat × Nat} (h : beOk P r) : beOk P (if 0 < lkP P e (pN P) ∧ lkP P e (pN P) < r.2 then (some e, lkP P e (pN P)) else r) := by
  by_cases c : 0 < lkP P e (pN P) ∧ lkP P e (pN P) < r.2
  · rw [if_pos c]
    have := lkP_le hP e (pN P)
    exact ⟨by show lkP P e (pN P) ≤ 1000000; omega, fun x hx => by injection hx with hx; rw [← hx]; exact ⟨he, rfl⟩⟩
  · rw [if_neg c]; exact h
theorem be_ok {P : zP} (hP : pOK P) : ∀ (m e : Nat) (r : Option Nat × Nat), e + m = pN P → beOk P r → beOk P (beP P m e r) := by
  intro m
  induction m with
  | zero => intro e r _ h; exact h
  | succ m ih => intro e r h1 h; exact ih (e + 1) _ (by omega) (be_step hP (by omega) h)
theorem c_best_8 (fu : Nat) (hfu : 100 ≤ fu) {S : zSt} {P : zP} (hP : pOK P) (hp : zPp S P (pLaw P)) (hr : zRu S P (pN P)) : ∀ (m e n : Nat) (r : Option Nat × Nat), e + m = pN P → m + 1 ≤ n → beOk P r → f_Ru_bestEar_8 fu n (ocI r.1) (nI r.2) (nI e) S = some (ocI (beP P m e r).1) := by
  have h9 := hP.1
  intro m
  induction m with
  | zero =>
    intro e n r h1 h2 h
    obtain ⟨n', rfl⟩ : ∃ n', n = n' + 1 := ⟨n - 1, by omega⟩
    unfold f_Ru_bestEar_8
    rw [hr.1, if_pos ((n_le (by omega) (by omega)).mpr (by omega))]
    rfl
  | succ m ih =>
    intro e n r h1 h2 h
    obtain ⟨n', rfl⟩ : ∃ n', n = n' + 1 := ⟨n - 1, by omega⟩
    have he : e < pN P := by omega
    have hl := lkP_le hP e (pN P)
    have hr2 := h.1
    have hrec := ih (e + 1) n' _ (by omega) (by omega) (be_step hP he h)
    show _ = some (ocI (beP P m (e + 1) (if 0 < lkP P e (pN P) ∧ lkP P e (pN P) < r.2 then (some e, lkP P e (pN P)) else r)).1)
    rw [← hrec]
    obtain ⟨K, eK⟩ : ∃ K, K = f_Ru_bestEar_8 fu n' := ⟨_, rfl⟩
    rw [← eK]
    unfold f_Ru_bestEar_8
    rw [hr.1, if_neg (fun h => absurd ((n_le (by omega) (by omega)).mp h) (by omega)), qb1 (c_left fu hfu hP hp hr he), n_1, ← eK]
    by_cases c0 : 0 < lkP P e (pN P)
    · rw [if_neg (show ¬ nI (lkP P e (pN P)) ≤ 0 from fun h => absurd ((n_le (b := 0) (by omega) (by omega)).mp h) (by omega))]
      by_cases c1 : lkP P e (pN P) < r.2
      · rw [if_neg (fun h => absurd ((n_le (by omega) (by omega)).mp h) (by omega)), if_pos ⟨c0, c1⟩]
        rfl
      · rw [if_pos ((n_le (by omega) (by omega)).mpr (by omega)), if_neg (fun h => c1 h.2)]
    · rw [if_pos (show nI (lkP P e (pN P)) ≤ 0 from (n_le (b := 0) (by omega) (by omega)).mpr (by omega)), if_neg (fun h => c0 h.1)]
/-- where a rumour can have begun, none goes for nothing -/
theorem sm_ge {f : Nat → Nat} : ∀ n i, i < n → f i ≤ sm f n := by
  intro n
  induction n with
  | zero => intro i h; omega
  | succ n ih =>
    intro i h
    show f i ≤ sm f n + f n
    by_cases e : i = n
    · rw [e]; omega
    · have := ih i (by omega); omega
theorem lk_pos {P : zP} (e : Nat) {a : Nat} (h : (stA P a).isSome = true) : ∀ c, a < c → a < pN P → 0 < lkP P e c := by
  intro c
  induction c with
  | zero => intro h1; omega
  | succ c ih =>
    intro h1 h2
    rw [lk_step]
    by_cases e1 : a = c
    · have h3 := sm_ge (f := alM P c e) (pN P) a h2
      have h4 : alM P c e a = 1 := by
        unfold alM alF
        rw [← e1, if_pos h, if_pos ⟨h, rfl⟩]
      omega
    · have := ih (by omega) h2
      omega
theorem m_listen_25 (fu : Nat) (hfu : 100 ≤ fu) {S : zSt} {P : zP} (hm : mRep S 74 0 P) (hP : pOK P) (hp : mPp S P) {a : Nat} (ha : a < pN P) (hs : (stA P a).isSome = true) (w : Int32) : ∀ (m e n : Nat) (r : Option Nat × Nat), e + m = pN P → m + 1 ≤ n → beOk P r → f_M_listen_25 fu n w (ogP P (pN P)) (ocI r.1) (nI r.2) (nI e) S = f_M_listen_70 fu w (ocI (beP P m e r).1) (nI (beP P m e r).2) S := by
  have h9 := hP.1
  have hn0 : ¬ ogP P (pN P) = 0 := by
    cases hv : stA P a with
    | none => rw [hv] at hs; cases hs
    | some v => exact ogP_n0 hP ha hv
  intro m
  induction m with
  | zero =>
    intro e n r h1 h2 h
    obtain ⟨n', rfl⟩ : ∃ n', n = n' + 1 := ⟨n - 1, by omega⟩
    unfold f_M_listen_25
    rw [qb1 (m_many hm), if_pos ((n_le (by omega) (by omega)).mpr (by omega))]
    rfl
  | succ m ih =>
    intro e n r h1 h2 h
    obtain ⟨n', rfl⟩ : ∃ n', n = n' + 1 := ⟨n - 1, by omega⟩
    have he : e < pN P := by omega
    have hl := lkP_le hP e (pN P)
    have hr2 := h.1
    have hpos := lk_pos e hs (pN P) ha ha
    have hrec := ih (e + 1) n' _ (by omega) (by omega) (be_step hP he h)
    show _ = f_M_listen_70 fu w (ocI (beP P m (e + 1) (if 0 < lkP P e (pN P) ∧ lkP P e (pN P) < r.2 then (some e, lkP P e (pN P)) else r)).1) (nI (beP P m (e + 1) (if 0 < lkP P e (pN P) ∧ lkP P e (pN P) < r.2 then (some e, lkP P e (pN P)) else r)).2) S
    rw [← hrec]
    obtain ⟨K, eK⟩ : ∃ K, K = f_M_listen_25 fu n' := ⟨_, rfl⟩
    rw [← eK]
    unfold f_M_listen_25
    rw [qb1 (m_many hm), if_neg (fun h => absurd ((n_le (by omega) (by omega)).mp h) (by omega)), if_neg hn0, qb1 (m_like fu hfu hm hP hp he), n_1, ← eK]
    by_cases c1 : lkP P e (pN P) < r.2
    · rw [if_pos ((n_lt (by omega) (by omega)).mpr c1), if_pos ⟨hpos, c1⟩]
      rfl
    · rw [if_neg (fun h => c1 ((n_lt (by omega) (by omega)).mp h)), if_neg (fun h => c1 h.2)]

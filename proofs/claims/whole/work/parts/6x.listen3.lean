/-! listen: both -/
def beP (P : zP) : Nat → Nat → Option Nat × Nat → Option Nat × Nat
  | 0, _, r => r
  | m + 1, e, r => beP P m (e + 1) (if 0 < lkP P e (pN P) ∧ lkP P e (pN P) < r.2 then (some e, lkP P e (pN P)) else r)
def beOk (P : zP) (r : Option Nat × Nat) : Prop := r.2 ≤ 1000000 ∧ ∀ e, r.1 = some e → e < pN P ∧ r.2 = lkP P e (pN P)
theorem be_step {P : zP} (hP : pOK P) {e : Nat} (he : e < pN P) {r : Option Nat × Nat} (h : beOk P r) : beOk P (if 0 < lkP P e (pN P) ∧ lkP P e (pN P) < r.2 then (some e, lkP P e (pN P)) else r) := by
  by_cases c : 0 < lkP P e (pN P) ∧ lkP P e (pN P) < r.2
  · rw [if_pos c]
    have := lkP_le hP e (pN P)
    exact ⟨by show lkP P e (pN P) ≤ 1000000; omega, fun x hx => by injection hx with hx; rw [← hx]; exact ⟨he, rfl⟩⟩
  · rw [if_neg c]; exact h
theorem be_ok {P : zP} (hP : pOK P) : ∀ (m e : Nat) (r : Option Nat × Nat), e + m = pN P → beOk P r → beOk P (beP P m e r) := by
  intro m
  induction m with
  | zero => intro e r _ h; exact h
  | succ m ih => intro e r h1 h; exact ih (e + 1) _ (by omega) (be_step hP (by omega) h)
theorem c_best_8 (fu : Nat) (hfu : 100 ≤ fu) {S : zSt} {P : zP} (hP : pOK P) (hp : zPp S P (pLaw P)) (hr : zRu S P (pN P)) : ∀ (m e n : Nat) (r : Option Nat × Nat), e + m = pN P → m + 1 ≤ n → beOk P r → f_Ru_bestEar_8 fu n (ocI r.1) (nI r.2) (nI e) S = some (ocI (beP P m e r).1) := by
  have h9 := hP.1
  intro m
  induction m with
  | zero =>
    intro e n r h1 h2 h
    obtain ⟨n', rfl⟩ : ∃ n', n = n' + 1 := ⟨n - 1, by omega⟩
    unfold f_Ru_bestEar_8
    rw [hr.1, if_pos ((n_le (by omega) (by omega)).mpr (by omega))]
    rfl
  | succ m ih =>
    intro e n r h1 h2 h
    obtain ⟨n', rfl⟩ : ∃ n', n = n' + 1 := ⟨n - 1, by omega⟩
    have he : e < pN P := by omega
    have hl := lkP_le hP e (pN P)
    have hr2 := h.1
    have hrec := ih (e + 1) n' _ (by omega) (by omega) (be_step hP he h)
    show _ = some (ocI (beP P m (e + 1) (if 0 < lkP P e (pN P) ∧ lkP P e (pN P) < r.2 then (some e, lkP P e (pN P)) else r)).1)
    rw [← hrec]
    obtain ⟨K, eK⟩ : ∃ K, K = f_Ru_bestEar_8 fu n' := ⟨_, rfl⟩
    rw [← eK]
    unfold f_Ru_bestEar_8
    rw [hr.1, if_neg (fun h => absurd ((n_le (by omega) (by omega)).mp h) (by omega)), qb1 (c_left fu hfu hP hp hr he), n_1, ← eK]
    by_cases c0 : 0 < lkP P e (pN P)
    · rw [if_neg (show ¬ nI (lkP P e (pN P)) ≤ 0 from fun h => absurd ((n_le (b := 0) (by omega) (by omega)).mp h) (by omega))]
      by_cases c1 : lkP P e (pN P) < r.2
      · rw [if_neg (fun h => absurd ((n_le (by omega) (by omega)).mp h) (by omega)), if_pos ⟨c0, c1⟩]
        rfl
      · rw [if_pos ((n_le (by omega) (by omega)).mpr (by omega)), if_neg (fun h => c1 h.2)]
    · rw [if_pos (show nI (lkP P e (pN P)) ≤ 0 from (n_le (b := 0) (by omega) (by omega)).mpr (by omega)), if_neg (fun h => c0 h.1)]
/-- where a rumour can have begun, none goes for nothing -/
theorem sm_ge {f : Nat → Nat} : ∀ n i, i < n → f i ≤ sm f n := by
  intro n
  induction n with
  | zero => intro i h; omega
  | succ n ih =>
    intro i h
    show f i ≤ sm f n + f n
    by_cases e : i = n
    · rw [e]; omega
    · have := ih i (by omega); omega
theorem lk_pos {P : zP} (e : Nat) {a : Nat} (h : (stA P a).isSome = true) : ∀ c, a < c → a < pN P → 0 < lkP P e c := by
  intro c
  induction c with
  | zero => intro h1; omega
  | succ c ih =>
    intro h1 h2
    rw [lk_step]
    by_cases e1 : a = c
    · have h3 := sm_ge (f := alM P c e) (pN P) a h2
      have h4 : alM P c e a = 1 := by
        unfold alM alF
        rw [← e1, if_pos h, if_pos ⟨h, rfl⟩]
      omega
    · have := ih (by omega) h2
      omega
theorem m_listen_25 (fu : Nat) (hfu : 100 ≤ fu) {S : zSt} {P : zP} (hm : mRep S 74 0 P) (hP : pOK P) (hp : mPp S P) {a : Nat} (ha : a < pN P) (hs : (stA P a).isSome = true) (w : Int32) : ∀ (m e n : Nat) (r : Option Nat × Nat), e + m = pN P → m + 1 ≤ n → beOk P r → f_M_listen_25 fu n w (ogP P (pN P)) (ocI r.1) (nI r.2) (nI e) S = f_M_listen_70 fu w (ocI (beP P m e r).1) (nI (beP P m e r).2) S := by
  have h9 := hP.1
  have hn0 : ¬ ogP P (pN P) = 0 := by
    cases hv : stA P a with
    | none => rw [hv] at hs; cases hs
    | some v => exact ogP_n0 hP ha hv
  intro m
  induction m with
  | zero =>
    intro e n r h1 h2 h
    obtain ⟨n', rfl⟩ : ∃ n', n = n' + 1 := ⟨n - 1, by omega⟩
    unfold f_M_listen_25
    rw [qb1 (m_many hm), if_pos ((n_le (by omega) (by omega)).mpr (by omega))]
    rfl
  | succ m ih =>
    intro e n r h1 h2 h
    obtain ⟨n', rfl⟩ : ∃ n', n = n' + 1 := ⟨n - 1, by omega⟩
    have he : e < pN P := by omega
    have hl := lkP_le hP e (pN P)
    have hr2 := h.1
    have hpos := lk_pos e hs (pN P) ha ha
    have hrec := ih (e + 1) n' _ (by omega) (by omega) (be_step hP he h)
    show _ = f_M_listen_70 fu w (ocI (beP P m (e + 1) (if 0 < lkP P e (pN P) ∧ lkP P e (pN P) < r.2 then (some e, lkP P e (pN P)) else r)).1) (nI (beP P m (e + 1) (if 0 < lkP P e (pN P) ∧ lkP P e (pN P) < r.2 then (some e, lkP P e (pN P)) else r)).2) S
    rw [← hrec]
    obtain ⟨K, eK⟩ : ∃ K, K = f_M_listen_25 fu n' := ⟨_, rfl⟩
    rw [← eK]
    unfold f_M_listen_25
    rw [qb1 (m_many hm), if_neg (fun h => absurd ((n_le (by omega) (by omega)).mp h) (by omega)), if_neg hn0, qb1 (m_like fu hfu hm hP hp he), n_1, ← eK]
    by_cases c1 : lkP P e (pN P) < r.2
    · rw [if_pos ((n_lt (by omega) (by omega)).mpr c1), if_pos ⟨hpos, c1⟩]
      rfl
    · rw [if_neg (fun h => c1 ((n_lt (by omega) (by omega)).mp h)), if_neg (fun h => c1 h.2)]
theorem be_none {P : zP} (hn : ∀ a, a < pN P → stA P a = none) : ∀ (m e : Nat) (r : Option Nat × Nat), beP P m e r = r := by
  have hz : ∀ e c, c ≤ pN P → lkP P e c = 0 := by
    intro e c
    induction c with
    | zero => intro _; rfl
    | succ c ih =>
      intro h
      have h0 : lkP P e (c + 1) = if (stA P c).isSome = true then max (lkP P e c) (sm (alF P c e) (pN P)) else lkP P e c := rfl
      rw [h0, hn c (by omega), if_neg (by decide)]
      exact ih (by omega)
  intro m
  induction m with
  | zero => intro e r; rfl
  | succ m ih =>
    intro e r
    show beP P m (e + 1) (if 0 < lkP P e (pN P) ∧ lkP P e (pN P) < r.2 then (some e, lkP P e (pN P)) else r) = r
    rw [if_neg (fun h => by have := hz e (pN P) (Nat.le_refl _); omega)]
    exact ih _ _
theorem call_listen (fu : Nat) (hfu : 1000 ≤ fu) {S : zSt} (h : Inv S) (w : Int32) : cOk (f_E_listen fu w) (f_M_listen fu w) S := by
  obtain ⟨P, es, hP, hc, hm, hj, hi, ht, hms, hd, hs⟩ := id h
  have h9 := hP.1
  by_cases hw : w = 0 ∨ w = 1
  · obtain ⟨S1, S2, e1, e2, c2, p2, r2, hc2, hm2⟩ := inv_rumour fu hfu hP hc hm hs
    obtain ⟨S3, e3, c3, z3, hm3⟩ := m_can fu hfu hm2 hP
    have b0 : beOk P (none, 1000000) := ⟨Nat.le_refl _, fun e he => by cases he⟩
    have eb : f_Ru_bestEar fu S2 = some (ocI (beP P (pN P) 0 (none, 1000000)).1) := c_best_8 fu (by omega) hP p2 r2 (pN P) 0 fu (none, 1000000) (by omega) (by omega) b0
    have bk := be_ok hP (pN P) 0 (none, 1000000) (by omega) b0
    have em : f_M_listen_25 fu fu w (ogP P (pN P)) (-1) 1000000 0 S3 = f_M_listen_70 fu w (ocI (beP P (pN P) 0 (none, 1000000)).1) (nI (beP P (pN P) 0 (none, 1000000)).2) S3 := by
      by_cases ha : ∃ a, a < pN P ∧ (stA P a).isSome = true
      · obtain ⟨a, a1, a2⟩ := ha
        exact m_listen_25 fu (by omega) hm3 hP z3 a1 a2 w (pN P) 0 fu (none, 1000000) (by omega) (by omega) b0
      · have hn : ∀ a, a < pN P → stA P a = none := fun a h1 => by
          cases hv : stA P a with
          | none => rfl
          | some v => exact absurd ⟨a, h1, by rw [hv]; rfl⟩ ha
        rw [be_none hn]
        obtain ⟨f', ef⟩ : ∃ f', fu = f' + 1 := ⟨fu - 1, by omega⟩
        have : f_M_listen_25 fu (f' + 1) w (ogP P (pN P)) (-1) 1000000 0 S3 = f_M_listen_70 fu w (-1) 1000000 S3 := by
          unfold f_M_listen_25
          rw [qb1 (m_many hm3), ogP_0 hP hn]
          by_cases z : nI (pN P) ≤ 0
          · rw [if_pos z]
          · rw [if_neg z, if_pos rfl]
        rw [← ef] at this
        exact this
    obtain ⟨B, eB⟩ : ∃ B, B = beP P (pN P) 0 (none, 1000000) := ⟨_, rfl⟩
    rw [← eB] at eb bk em
    have E11 : f_E_listen fu w S = f_E_listen_11 fu w S := by
      unfold f_E_listen
      rcases hw with h | h
      · rw [if_pos h]
      · rw [if_neg (by rw [h]; decide), if_pos h]
    have l1 : f_M_lies w 0 1 = some 1 := by rcases hw with h | h <;> rw [h] <;> rfl
    have M25 : f_M_listen fu w S2 = f_M_listen_70 fu w (ocI B.1) (nI B.2) S3 := by
      unfold f_M_listen
      rw [qb1 l1, if_neg (by decide), qb2 e3]
      exact em
    have E1 : f_E_listen fu w S = (if w = 0 then some (ocI B.1, S2) else if ocI B.1 = -1 then some (ocI B.1, S2) else zb1 (f_Ru_leftAt fu (ocI B.1) S2) (fun r10 => some (r10, S2))) := by
      rw [E11]
      unfold f_E_listen_11
      rw [qb1 e1, qb1 e2, qb1 eb]
    cases hB : B.1 with
    | none =>
      rw [hB] at E1 M25
      refine cOk_q h (v := -1) (S1 := S2) ?_ c2 (S2 := S3) ?_ c3
      · rw [E1]
        by_cases h0 : w = 0
        · rw [if_pos h0]; rfl
        · rw [if_neg h0, if_pos (show ocI none = -1 from rfl)]; rfl
      · rw [M25]
        unfold f_M_listen_70
        rw [if_pos (show ocI none = -1 from rfl)]; rfl
    | some e =>
      rw [hB] at E1 M25
      obtain ⟨he, hl⟩ := bk.2 e hB
      have n1 : ¬ ocI (some e) = -1 := nI_m1 (by omega)
      have ec : f_Ru_leftAt fu (ocI (some e)) S2 = some (nI (lkP P e (pN P))) := c_left fu (by omega) hP p2 r2 he
      refine cOk_q h (v := if w = 0 then ocI (some e) else nI B.2) (S1 := S2) ?_ c2 (S2 := S3) ?_ c3
      · rw [E1]
        by_cases h0 : w = 0
        · rw [if_pos h0, if_pos h0]
        · rw [if_neg h0, if_neg n1, qb1 ec, if_neg h0, hl]
      · rw [M25]
        unfold f_M_listen_70
        rw [if_neg n1]
        by_cases h0 : w = 0
        · rw [if_pos h0, if_pos h0]
        · rw [if_neg h0, if_neg h0]
  · refine cOk_0 h (v := -1) ?_ ?_
    · unfold f_E_listen
      rw [if_neg (fun h => hw (Or.inl h)), if_neg (fun h => hw (Or.inr h))]
    · have l1 : f_M_lies w 0 1 = some 0 := lies_no (lo := 0) (hi := 1) (by omega) (by omega) (fun v _ hv e => hw (by
        rcases (by omega : v = 0 ∨ v = 1) with rfl | rfl
        · exact Or.inl e
        · exact Or.inr e))
      unfold f_M_listen
      rw [qb1 l1, if_pos rfl]

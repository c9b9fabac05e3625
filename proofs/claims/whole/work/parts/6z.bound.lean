/-! bound: what channels weigh -/
def wgP (P : zP) (a b : Nat) : Int32 := if a ≠ b ∧ pFar P a b ≠ 0 ∧ pSh P a b = false then pTl P (pLaw P) 1 a b else 0
theorem wg_rg {P : zP} (a b : Nat) : ∃ v : Nat, v ≤ 99 ∧ wgP P a b = nI v := by
  unfold wgP
  by_cases h : a ≠ b ∧ pFar P a b ≠ 0 ∧ pSh P a b = false
  · rw [if_pos h]
    unfold pTl
    cases lTell 1 (eC P a b) (pLaw P) with
    | some v => exact ⟨clN (kLo 1) (kHi 1) v, Nat.le_trans (clN_rg (by decide) v).2 (by decide), rfl⟩
    | none => exact ⟨1, by omega, rfl⟩
  · rw [if_neg h]; exact ⟨0, by omega, rfl⟩
def wgC (S : zSt) (P : zP) (a b : Nat) : Prop := zI S 55 0 = nI (pN P) ∧ ∀ x y, x < pN P → y < pN P → (x < a ∨ (x = a ∧ y < b)) → zI S 59 (9 * x + y) = wgP P x y
def wgM (S : zSt) (P : zP) (a b : Nat) : Prop := ∀ x y, x < pN P → y < pN P → (x < a ∨ (x = a ∧ y < b)) → zI S 92 (9 * x + y) = wgP P x y
theorem wg_w {S : zSt} {P : zP} (h9 : pN P ≤ 9) {r a b : Nat} (h : ∀ x y, x < pN P → y < pN P → (x < a ∨ (x = a ∧ y < b)) → zI S r (9 * x + y) = wgP P x y) (ha : a < pN P) (hb : b < pN P) : ∀ x y, x < pN P → y < pN P → (x < a ∨ (x = a ∧ y < b + 1)) → zI (zwI S r (9 * a + b) (wgP P a b)) r (9 * x + y) = wgP P x y := by
  intro x y hx hy hxy
  rw [qII]
  by_cases e : 9 * x + y = 9 * a + b
  · rw [if_pos ⟨rfl, e⟩, show x = a by omega, show y = b by omega]
  · rw [if_neg (fun h => e h.2)]
    exact h x y hx hy (by omega)
theorem cut_25 (fu : Nat) (hfu : 1000 ≤ fu) {P : zP} (hP : pOK P) {x : Option Nat} (l3 : ∀ t, x = some t → 98 ≤ t) (k13 : Option Nat → Int32 → zSt → Option zSt) {a : Nat} (ha : a < pN P) : ∀ (m b n : Nat) (S : zSt), b + m = pN P → m + 1 ≤ n → cRep S 1 P → zT7 S → zLw S x (pLaw P) → wgC S P a b → ∃ S1, f_Pa_fillCuts_25 fu 1 k13 n x (nI a) (nI b) S = k13 x (nI (a + 1)) S1 ∧ zCo S S1 ∧ wgC S1 P (a + 1) 0 := by
  have h9 := hP.1
  intro m
  induction m with
  | zero =>
    intro b n S h1 h2 hc hT l2 hw
    obtain ⟨n', rfl⟩ : ∃ n', n = n' + 1 := ⟨n - 1, by omega⟩
    refine ⟨S, ?_, zCo_r S, hw.1, fun x y hx hy hxy => hw.2 x y hx hy (by omega)⟩
    unfold f_Pa_fillCuts_25
    rw [hw.1, if_pos ((n_le (by omega) (by omega)).mpr (by omega)), n_1]
  | succ m ih =>
    intro b n S h1 h2 hc hT l2 hw
    obtain ⟨n', rfl⟩ : ∃ n', n = n' + 1 := ⟨n - 1, by omega⟩
    have hb : b < pN P := by omega
    obtain ⟨K, eK⟩ : ∃ K, K = f_Pa_fillCuts_25 fu 1 k13 n' := ⟨_, rfl⟩
    have st : ∃ S0, f_Pa_fillCuts_25 fu 1 k13 (n' + 1) x (nI a) (nI b) S = K x (nI a) (nI (b + 1)) S0 ∧ zCo S S0 ∧ wgC S0 P a (b + 1) := by
      have e67 : ∀ S : zSt, f_Pa_fillCuts_67 fu 1 k13 K x (nI a) (nI b) 1 S = K x (nI a) (nI (b + 1)) (zwI S 59 (9 * a + b) 0) := fun S => by
        unfold f_Pa_fillCuts_67
        rw [qb1 (pa_pair (by omega) (by omega)), if_neg (by decide), n_gd (by omega) (by omega), q_cl (by omega), n_1]
      have hz : wgP P a b = 0 → wgC (zwI S 59 (9 * a + b) 0) P a (b + 1) := fun h => by
        refine ⟨by rw [qIIo _ _ (by omega)]; exact hw.1, ?_⟩
        have := wg_w h9 (r := 59) hw.2 ha hb
        rw [h] at this
        exact this
      have cz : zCo S (zwI S 59 (9 * a + b) 0) := zCo_w S _ (by unfold scI; omega)
      unfold f_Pa_fillCuts_25
      rw [hw.1, if_neg (fun h => absurd ((n_le (by omega) (by omega)).mp h) (by omega)), ← eK]
      by_cases hab : a = b
      · refine ⟨_, ?_, cz, hz (by unfold wgP; rw [if_neg (fun h => h.1 hab)])⟩
        have ep : f_Ps_pairOf 1 (nI a) (nI b) S = some (-1) := by rw [hab]; exact pair_eq _
        rw [qb1 ep, qb1 (far_no S 1), if_pos rfl, e67]
      rw [qb1 (pair_yes hc hP ha hb hab), qb1 (far_yes hc (by omega) (by omega) hab)]
      by_cases hf : pFar P a b = 0
      · refine ⟨_, ?_, cz, hz (by unfold wgP; rw [if_neg (fun h => h.2.1 hf)])⟩
        rw [if_pos hf, e67]
      rw [if_neg hf, qb1 (shut_yes hc (by omega) (by omega) hab)]
      cases hs : pSh P a b with
      | true =>
        refine ⟨_, ?_, cz, hz (by unfold wgP; rw [hs, if_neg (fun h => by cases h.2.2)])⟩
        rw [if_neg (show ¬ b2 true = 0 by decide), e67]
      | false =>
        obtain ⟨S1, e1, c1, f1⟩ := told_ch fu hfu hc hP (by omega) hT l2 l3 (k := 1) (by omega) (by omega) ha hb hab
        have ew : wgP P a b = pTl P (pLaw P) 1 a b := by unfold wgP; rw [if_pos ⟨hab, hf, hs⟩]
        have h55 : zI S1 55 = zI S 55 := f1 55 (by omega)
        have h59 : zI S1 59 = zI S 59 := f1 59 (by omega)
        refine ⟨zwI S1 59 (9 * a + b) (wgP P a b), ?_, zCo_t c1 (zCo_w _ _ (by unfold scI; omega)), by rw [qIIo _ _ (by omega), h55]; exact hw.1, wg_w h9 (by rw [h59]; exact hw.2) ha hb⟩
        rw [if_pos (show b2 false = 0 from rfl)]
        unfold f_Pa_fillCuts_67
        have e1' : f_As_told fu 1 x 1 (nI a) (nI b) S = some (pTl P (pLaw P) 1 a b, S1) := e1
        rw [qb1 (pa_pair (by omega) (by omega)), if_pos rfl, qb2 e1', n_gd (by omega) (by omega), q_cl (by omega), n_1, ew]
    obtain ⟨S0, s1, s2, s3⟩ := st
    obtain ⟨S1, g1, g2, g3⟩ := ih (b + 1) n' S0 (by omega) (by omega) (cRep_co hc s2 (by omega)) (zT7_co hT s2) (zLw_co l2 l3 s2) s3
    rw [eK] at s1
    exact ⟨S1, s1.trans g1, zCo_t s2 g2, g3⟩
theorem cut_13 (fu : Nat) (hfu : 1000 ≤ fu) {P : zP} (hP : pOK P) {x : Option Nat} (l3 : ∀ t, x = some t → 98 ≤ t) : ∀ (m a n : Nat) (S : zSt), a + m = pN P → m + 1 ≤ n → cRep S 1 P → zT7 S → zLw S x (pLaw P) → wgC S P a 0 → ∃ S1, f_Pa_fillCuts_13 fu 1 n x (nI a) S = some S1 ∧ zCo S S1 ∧ wgC S1 P (pN P) 0 := by
  have h9 := hP.1
  intro m
  induction m with
  | zero =>
    intro a n S h1 h2 hc hT l2 hw
    obtain ⟨n', rfl⟩ : ∃ n', n = n' + 1 := ⟨n - 1, by omega⟩
    refine ⟨S, ?_, zCo_r S, by rw [← show a = pN P by omega]; exact hw⟩
    unfold f_Pa_fillCuts_13
    rw [hw.1, if_pos ((n_le (by omega) (by omega)).mpr (by omega))]
  | succ m ih =>
    intro a n S h1 h2 hc hT l2 hw
    obtain ⟨n', rfl⟩ : ∃ n', n = n' + 1 := ⟨n - 1, by omega⟩
    have ha : a < pN P := by omega
    obtain ⟨S0, s1, s2, s3⟩ := cut_25 fu hfu hP l3 (f_Pa_fillCuts_13 fu 1 n') ha (pN P) 0 fu S (by omega) (by omega) hc hT l2 hw
    obtain ⟨S1, g1, g2, g3⟩ := ih (a + 1) n' S0 (by omega) (by omega) (cRep_co hc s2 (by omega)) (zT7_co hT s2) (zLw_co l2 l3 s2) s3
    refine ⟨S1, ?_, zCo_t s2 g2, g3⟩
    rw [← g1]
    refine Eq.trans ?_ s1
    rw [show f_Pa_fillCuts_13 fu 1 (n' + 1) x (nI a) S = if (zI S 55 0) ≤ nI a then some S else f_Pa_fillCuts_25 fu 1 (f_Pa_fillCuts_13 fu 1 n') fu x (nI a) 0 S from rfl, hw.1, if_neg (fun h => absurd ((n_le (by omega) (by omega)).mp h) (by omega))]
    rfl
theorem cuts_ok (fu : Nat) (hfu : 1000 ≤ fu) {S : zSt} {P : zP} (hP : pOK P) (hc : cRep S 1 P) (hT : zT7 S) : ∃ S1, f_Pa_fillCuts fu 1 S = some S1 ∧ zCo S S1 ∧ wgC S1 P (pN P) 0 := by
  have c0 : zCo S (zwI S 55 0 (nI (pN P))) := zCo_w S _ (by unfold scI; omega)
  have hc0 := cRep_co hc c0 (by omega)
  obtain ⟨x, l1, l2, l3⟩ := law_force hc0 hP
  obtain ⟨S1, g1, g2, g3⟩ := cut_13 fu hfu hP l3 (pN P) 0 fu (zwI S 55 0 (nI (pN P))) (by omega) (by have := hP.1; omega) hc0 (zT7_co hT c0) l2 ⟨qIIs _ _ _ _, fun x y hx hy hxy => absurd hxy (by omega)⟩
  refine ⟨S1, ?_, zCo_t c0 g2, g3⟩
  unfold f_Pa_fillCuts
  rw [qb1 (take_is hP hc), qb1 l1]
  exact g1

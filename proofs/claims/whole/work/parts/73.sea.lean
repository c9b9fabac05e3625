/-! sea: the way, and the call -/
theorem sT_mono {P : zP} (hP : pOK P) : ∀ k s, s < 9 → sT P (k + 1) s ≤ sT P k s := by
  intro k
  induction k with
  | zero =>
    have key : ∀ v s, s < 9 → sT P 0 s ≤ v → sT P (0 + 1) s ≤ sT P 0 s := by
      intro v
      induction v with
      | zero =>
        intro s hs hv
        by_cases h0 : s = 0
        · rw [h0, (sT_ok P (0 + 1)).1]; exact Nat.zero_le _
        · have := sF_pos hP (sT_ok P 0) hs h0; omega
      | succ v ih =>
        intro s hs hv
        by_cases h0 : s = 0
        · rw [h0, (sT_ok P (0 + 1)).1]; exact Nat.zero_le _
        · by_cases hlt : sT P 0 s < 1000000
          · obtain ⟨c, hc, e⟩ := (sT_ok P 0).2.2.2 s hs h0 hlt
            have h1 := (sT_ok P (0 + 1)).2.2.1 s c hs hc
            have g1 := (pThr_1 hP (pLaw P) s c).1
            unfold by1 at e h1
            by_cases hsh : pSh P s c = true
            · rw [if_pos hsh] at e
              have : xU (sT P) 0 c = 1000000 := rfl
              omega
            · rw [if_neg hsh] at e h1
              have := ih c hc (by omega)
              omega
          · have := (sT_ok P (0 + 1)).2.1 s
            omega
    exact fun s hs => key _ s hs (Nat.le_refl _)
  | succ k ihk =>
    have key : ∀ v s, s < 9 → sT P (k + 1) s ≤ v → sT P (k + 1 + 1) s ≤ sT P (k + 1) s := by
      intro v
      induction v with
      | zero =>
        intro s hs hv
        by_cases h0 : s = 0
        · rw [h0, (sT_ok P (k + 1 + 1)).1]; exact Nat.zero_le _
        · have := sF_pos hP (sT_ok P (k + 1)) hs h0; omega
      | succ v ih =>
        intro s hs hv
        by_cases h0 : s = 0
        · rw [h0, (sT_ok P (k + 1 + 1)).1]; exact Nat.zero_le _
        · by_cases hlt : sT P (k + 1) s < 1000000
          · obtain ⟨c, hc, e⟩ := (sT_ok P (k + 1)).2.2.2 s hs h0 hlt
            have h1 := (sT_ok P (k + 1 + 1)).2.2.1 s c hs hc
            have g1 := (pThr_1 hP (pLaw P) s c).1
            unfold by1 at e h1
            by_cases hsh : pSh P s c = true
            · rw [if_pos hsh] at e h1
              have e1 : xU (sT P) (k + 1) c = sT P k c := by unfold xU; rw [if_neg (by omega), Nat.add_sub_cancel]
              have e2 : xU (sT P) (k + 1 + 1) c = sT P (k + 1) c := by unfold xU; rw [if_neg (by omega), Nat.add_sub_cancel]
              have := ihk c hc
              rw [e1] at e
              rw [e2] at h1
              omega
            · rw [if_neg hsh] at e h1
              have := ih c hc (by omega)
              omega
          · have := (sT_ok P (k + 1 + 1)).2.1 s
            omega
    exact fun s hs => key _ s hs (Nat.le_refl _)
noncomputable def sNx (P : zP) (k s : Nat) : Nat := sc (fun c => decide (¬ by1 P (xU (sT P) k) (sT P k) s c = sT P k s)) 9 0
noncomputable def sKn (P : zP) (k s : Nat) : Nat := if pSh P s (sNx P k s) = true then k - 1 else k
theorem sNx_is {P : zP} (hP : pOK P) {k s : Nat} (hs : s < pN P) (h0 : s ≠ 0) (hlt : sT P k s < 1000000) :
    sNx P k s < pN P ∧ by1 P (xU (sT P) k) (sT P k) s (sNx P k s) = sT P k s ∧ (∀ c, c < sNx P k s → ¬ by1 P (xU (sT P) k) (sT P k) s c = sT P k s) := by
  have h9 := hP.1
  obtain ⟨s1, s2, s3, s4⟩ := sc_spec (fun c => decide (¬ by1 P (xU (sT P) k) (sT P k) s c = sT P k s)) 9 0 (Nat.zero_le _)
  obtain ⟨c, hc, e⟩ := (sT_ok P k).2.2.2 s (by omega) h0 hlt
  have h1 : sNx P k s < 9 := by
    refine Nat.lt_of_not_le (fun hge => ?_)
    have := s3 c (Nat.zero_le _) (by show c < sNx P k s; omega)
    exact (of_decide_eq_true this) e.symm
  have h2 : by1 P (xU (sT P) k) (sT P k) s (sNx P k s) = sT P k s := by
    have := of_decide_eq_false (s4 h1)
    exact Classical.byContradiction fun hn => this hn
  refine ⟨Nat.lt_of_not_le fun hge => ?_, h2, fun c hc => of_decide_eq_true (s3 c (Nat.zero_le _) hc)⟩
  unfold by1 at h2
  rw [pThr_out hP _ (Or.inr hge)] at h2
  omega
theorem sNx_dn {P : zP} (hP : pOK P) {k s : Nat} (hs : s < pN P) (h0 : s ≠ 0) (hlt : sT P k s < 1000000) :
    sT P (sKn P k s) (sNx P k s) < sT P k s ∧ (pSh P s (sNx P k s) = true → 1 ≤ k) ∧ s ≠ sNx P k s ∧ pThr P (pLaw P) s (sNx P k s) < 1000000 := by
  obtain ⟨n1, n2, n3⟩ := sNx_is hP hs h0 hlt
  have g1 := (pThr_1 hP (pLaw P) s (sNx P k s)).1
  have hne : s ≠ sNx P k s := fun e => by
    rw [← e] at n2
    unfold by1 at n2
    rw [pThr_self] at n2
    omega
  unfold by1 at n2
  unfold sKn
  by_cases hsh : pSh P s (sNx P k s) = true
  · rw [if_pos hsh] at n2 ⊢
    by_cases hk : k = 0
    · unfold xU at n2
      rw [if_pos hk] at n2
      omega
    · unfold xU at n2
      rw [if_neg hk] at n2
      exact ⟨by omega, fun _ => by omega, hne, by omega⟩
  · rw [if_neg hsh] at n2 ⊢
    exact ⟨by omega, fun h => absurd h hsh, hne, by omega⟩
theorem sRk_dn {P : zP} (hP : pOK P) {k s : Nat} (hs : s < pN P) (h0 : s ≠ 0) (hlt : sT P k s < 1000000) : rkT (sT P (sKn P k s)) (pN P) (sNx P k s) < rkT (sT P k) (pN P) s := by
  have h9 := hP.1
  obtain ⟨n1, -, -⟩ := sNx_is hP hs h0 hlt
  obtain ⟨d1, d2, -⟩ := sNx_dn hP hs h0 hlt
  have mono : ∀ y, y < 9 → sT P k y ≤ sT P (sKn P k s) y := fun y hy => by
    by_cases hsh : pSh P s (sNx P k s) = true
    · have hk := d2 hsh
      obtain ⟨k', rfl⟩ : ∃ k', k = k' + 1 := ⟨k - 1, by omega⟩
      unfold sKn
      rw [if_pos hsh, Nat.add_sub_cancel]
      exact sT_mono hP k' y hy
    · unfold sKn
      rw [if_neg hsh]
      exact Nat.le_refl _
  unfold rkT rkP
  refine countP_lt _ _ _ (fun y hy hp => ?_) ⟨sNx P k s, List.mem_range.mpr n1, decide_eq_true ?_, decide_eq_false (Nat.lt_irrefl _)⟩
  · have hy2 := List.mem_range.mp hy
    have hp2 : sT P (sKn P k s) y < sT P (sKn P k s) (sNx P k s) := of_decide_eq_true hp
    have := mono y (by omega)
    exact decide_eq_true (show sT P k y < sT P k s by omega)
  · have := mono (sNx P k s) (by omega)
    show sT P k (sNx P k s) < sT P k s
    omega
noncomputable def sWk (P : zP) : Nat → Nat → Nat → Option Nat
  | 0, _, s => some s
  | r + 1, k, s => if s = 0 then none else sWk P r (sKn P k s) (sNx P k s)
theorem sWk_none {P : zP} (hP : pOK P) : ∀ (r k s : Nat), s < pN P → sT P k s < 1000000 → rkT (sT P k) (pN P) s < r → sWk P r k s = none := by
  intro r
  induction r with
  | zero => intro k s _ _ h; exact absurd h (by omega)
  | succ r ih =>
    intro k s hs hlt hr
    show (if s = 0 then none else sWk P r (sKn P k s) (sNx P k s)) = none
    by_cases h0 : s = 0
    · rw [if_pos h0]
    · rw [if_neg h0]
      have d1 := (sNx_dn hP hs h0 hlt).1
      have d2 := sRk_dn hP hs h0 hlt
      exact ih _ _ (sNx_is hP hs h0 hlt).1 (by omega) (by omega)
/-- all levels up to G are told -/
def rAll (S : zSt) (r n : Nat) (P : zP) (G : Nat) : Prop := ∀ j, j < G + 1 → ∀ c, c < n → zI S r (9 * j + c) = nI (sT P j c)
theorem rAll_k {S : zSt} {r n G : Nat} {P : zP} (h : rAll S r n P G) {k : Nat} (hk : k ≤ G) : oRow S r n (sT P) (sT P k) k := ⟨fun j hj c hc => h j (by omega) c hc, fun c hc => h k (by omega) c hc⟩
theorem sT_le (P : zP) (j c : Nat) : sT P j c ≤ 1000000 := (sT_ok P j).2.1 c
theorem ou_next9 (fu : Nat) {P : zP} (hP : pOK P) {S : zSt} (hp : zPp S P (pLaw P)) {G : Nat} (hG : G ≤ 9) (hR : rAll S 66 9 P G) {k s : Nat} (hk : k ≤ G) (hs : s < pN P) (h0 : s ≠ 0) (hlt : sT P k s < 1000000) : ∀ (m c n : Nat), c + m = sNx P k s → m + 1 ≤ n → f_Ou_nextOnWay_9 fu n (nI s) (nI k) (nI c) S = some (nI (sNx P k s)) := by
  have h9 := hP.1
  obtain ⟨n1, n2, n3⟩ := sNx_is hP hs h0 hlt
  intro m
  induction m with
  | zero =>
    intro c n h1 h2
    obtain ⟨n', rfl⟩ : ∃ n', n = n' + 1 := ⟨n - 1, by omega⟩
    have hc : c = sNx P k s := by omega
    obtain ⟨v, e1, hv, hor⟩ := ou_by hP hp (by omega) (sT_le P) (rAll_k hR hk) (fun c _ => sT_le P k c) (s := s) (c := c) (by omega) (by omega)
    rw [← hc] at n2
    unfold f_Ou_nextOnWay_9
    rw [if_neg (show ¬ (9 : Int32) ≤ nI c from fun h => absurd ((n_le (a := 9) (by omega) (by omega)).mp h) (by omega)), qb1 e1, qb1 (ou_left (by omega) (by omega)), hR k (by omega) s (by omega), if_pos (show nI v = nI (sT P k s) by rw [show v = sT P k s by omega]), hc]
  | succ m ih =>
    intro c n h1 h2
    obtain ⟨n', rfl⟩ : ∃ n', n = n' + 1 := ⟨n - 1, by omega⟩
    obtain ⟨v, e1, hv, hor⟩ := ou_by hP hp (by omega) (sT_le P) (rAll_k hR hk) (fun c _ => sT_le P k c) (s := s) (c := c) (by omega) (by omega)
    have n3c := n3 c (by omega)
    rw [← ih (c + 1) n' (by omega) (by omega)]
    obtain ⟨K, eK⟩ : ∃ K, K = f_Ou_nextOnWay_9 fu n' := ⟨_, rfl⟩
    rw [← eK]
    unfold f_Ou_nextOnWay_9
    rw [if_neg (show ¬ (9 : Int32) ≤ nI c from fun h => absurd ((n_le (a := 9) (by omega) (by omega)).mp h) (by omega)), qb1 e1, qb1 (ou_left (by omega) (by omega)), hR k (by omega) s (by omega), if_neg (fun h => by have := (n_eq (by omega) (by omega)).mp h; omega), ← eK, n_1]
theorem ou_next (fu : Nat) (hfu : 100 ≤ fu) {P : zP} (hP : pOK P) {S : zSt} (hp : zPp S P (pLaw P)) {G : Nat} (hG : G ≤ 9) (hR : rAll S 66 9 P G) {k s : Nat} (hk : k ≤ G) (hs : s < pN P) (h0 : s ≠ 0) (hlt : sT P k s < 1000000) : f_Ou_nextOnWay fu (nI s) (nI k) S = some (nI (sNx P k s)) := by
  have h9 := hP.1
  have n1 := (sNx_is hP hs h0 hlt).1
  unfold f_Ou_nextOnWay
  rw [if_neg (show ¬ nI s = 0 from fun h => h0 ((n_eq (b := 0) (by omega) (by omega)).mp h))]
  exact ou_next9 fu hP hp hG hR hk hs h0 hlt (sNx P k s) 0 fu (by omega) (by omega)
theorem shC_nx {P : zP} (hP : pOK P) {k s : Nat} (hs : s < pN P) (h0 : s ≠ 0) (hlt : sT P k s < 1000000) : shC P s (sNx P k s) = pSh P s (sNx P k s) := by
  obtain ⟨d1, d2, d3, d4⟩ := sNx_dn hP hs h0 hlt
  cases e : shC P s (sNx P k s) with
  | true => exact (shC_t e).2.2.2.symm
  | false =>
    cases e2 : pSh P s (sNx P k s) with
    | false => rfl
    | true => have := shC_f hP e e2; omega
theorem ou_way (fu : Nat) (hfu : 100 ≤ fu) {P : zP} (hP : pOK P) {S : zSt} (hp : zPp S P (pLaw P)) {G : Nat} (hG : G ≤ 9) (hR : rAll S 66 9 P G) : ∀ (m r k s q : Nat), r < m → k ≤ G → s < pN P → sT P k s < 1000000 → q + r < 2 ^ 31 → f_Ou_onWay_33 fu m (nI (q + r)) (nI s) (nI k) (nI q) S = some (ocI (sWk P r k s)) := by
  have h9 := hP.1
  intro m
  induction m with
  | zero => intro r k s q h; exact absurd h (by omega)
  | succ m ih =>
    intro r k s q hr hk hs hlt hq
    unfold f_Ou_onWay_33
    cases r with
    | zero => rw [if_pos ((n_le (by omega) (by omega)).mpr (by omega))]; rfl
    | succ r =>
      rw [if_neg (fun h => absurd ((n_le (by omega) (by omega)).mp h) (by omega))]
      show _ = some (ocI (if s = 0 then none else sWk P r (sKn P k s) (sNx P k s)))
      by_cases h0 : s = 0
      · have e0 : f_Ou_nextOnWay fu (nI s) (nI k) S = some (-1) := by
          unfold f_Ou_nextOnWay
          rw [if_pos (show nI s = 0 by rw [h0]; rfl)]
        rw [qb1 e0, if_pos rfl, if_pos h0]
        rfl
      · obtain ⟨n1, -, -⟩ := sNx_is hP hs h0 hlt
        obtain ⟨d1, d2, d3, d4⟩ := sNx_dn hP hs h0 hlt
        have em1 : ¬ nI (sNx P k s) = (-1 : Int32) := nI_m1 (by omega)
        have hrec := ih r (sKn P k s) (sNx P k s) (q + 1) (by omega) (by unfold sKn; split <;> omega) n1 (by omega) (by omega)
        rw [if_neg h0, qb1 (ou_next fu hfu hP hp hG hR hk hs h0 hlt), if_neg em1, qb1 (ou_shut hP hp (by omega) (by omega)), shC_nx hP hs h0 hlt, ← hrec, n_1, show q + (r + 1) = q + 1 + r by omega]
        unfold sKn
        cases e : pSh P s (sNx P k s) with
        | false => rw [if_pos (show b2 false = 0 from rfl), if_neg (by decide)]
        | true =>
          have hk1 := d2 e
          rw [if_neg (show ¬ b2 true = 0 by decide), if_pos rfl, show nI k - 1 = nI (k - 1) from n_sub (a := k) (b := 1) hk1]
theorem m_sea98 (fu : Nat) {P : zP} (hP : pOK P) {S : zSt} (hm : mRep S 74 0 P) (hO : oO S P (pN P) 0) {G : Nat} (hG : G ≤ 9) (hR : rAll S 94 (pN P) P G) (k83 : Int32 → Int32 → Int32 → Int32 → zSt → Option (Int32 × zSt)) {k s : Nat} (hk : k ≤ G) (hs : s < pN P) (h0 : s ≠ 0) (hlt : sT P k s < 1000000) (i q : Int32) : ∀ (m c n : Nat), c + m = sNx P k s → m + 1 ≤ n → f_M_sea_98 fu k83 n i (nI s) (nI k) q (nI c) S = f_M_sea_123 fu k83 i (nI s) (nI k) q (nI (sNx P k s)) S := by
  have h9 := hP.1
  obtain ⟨n1, n2, n3⟩ := sNx_is hP hs h0 hlt
  intro m
  induction m with
  | zero =>
    intro c n h1 h2
    obtain ⟨n', rfl⟩ : ∃ n', n = n' + 1 := ⟨n - 1, by omega⟩
    have hc : c = sNx P k s := by omega
    obtain ⟨v, e1, hv, hor⟩ := m_by hP hm hO (by omega) (sT_le P) (rAll_k hR hk) (fun c _ => sT_le P k c) (s := s) (c := c) hs (by omega)
    rw [← hc] at n2
    unfold f_M_sea_98
    rw [qb1 e1, qb1 (m_at S (by omega) (by omega)), hR k (by omega) s hs, if_pos (show nI v = nI (sT P k s) by rw [show v = sT P k s by omega]), hc]
  | succ m ih =>
    intro c n h1 h2
    obtain ⟨n', rfl⟩ : ∃ n', n = n' + 1 := ⟨n - 1, by omega⟩
    obtain ⟨v, e1, hv, hor⟩ := m_by hP hm hO (by omega) (sT_le P) (rAll_k hR hk) (fun c _ => sT_le P k c) (s := s) (c := c) hs (by omega)
    have n3c := n3 c (by omega)
    rw [← ih (c + 1) n' (by omega) (by omega)]
    obtain ⟨K, eK⟩ : ∃ K, K = f_M_sea_98 fu k83 n' := ⟨_, rfl⟩
    rw [← eK]
    unfold f_M_sea_98
    rw [qb1 e1, qb1 (m_at S (by omega) (by omega)), hR k (by omega) s hs, if_neg (fun h => by have := (n_eq (by omega) (by omega)).mp h; omega), ← eK, n_1]
theorem m_seaWay (fu : Nat) (hfu : 100 ≤ fu) {P : zP} (hP : pOK P) {S : zSt} (hm : mRep S 74 0 P) (hO : oO S P (pN P) 0) {G : Nat} (hG : G ≤ 9) (hR : rAll S 94 (pN P) P G) : ∀ (rk m r k s q : Nat), rkT (sT P k) (pN P) s ≤ rk → rk + 2 ≤ m → k ≤ G → s < pN P → sT P k s < 1000000 → q + r < 2 ^ 31 → f_M_sea_83 fu m (nI (q + r)) (nI s) (nI k) (nI q) S = some (ocI (sWk P r k s), S) := by
  have h9 := hP.1
  intro rk
  induction rk with
  | zero =>
    intro m r k s q h1 h2 hk hs hlt hq
    obtain ⟨m, rfl⟩ : ∃ m', m = m' + 1 := ⟨m - 1, by omega⟩
    unfold f_M_sea_83
    cases r with
    | zero => rw [if_pos ((n_le (by omega) (by omega)).mpr (by omega))]; rfl
    | succ r =>
      rw [if_neg (fun h => absurd ((n_le (by omega) (by omega)).mp h) (by omega))]
      have h0 : s = 0 := Classical.byContradiction fun h0 => by
        have := sRk_dn hP hs h0 hlt
        omega
      rw [if_pos (show nI s = 0 by rw [h0]; rfl)]
      show _ = some (ocI (if s = 0 then none else _), S)
      rw [if_pos h0]
      rfl
  | succ rk ih =>
    intro m r k s q h1 h2 hk hs hlt hq
    obtain ⟨m, rfl⟩ : ∃ m', m = m' + 1 := ⟨m - 1, by omega⟩
    unfold f_M_sea_83
    cases r with
    | zero => rw [if_pos ((n_le (by omega) (by omega)).mpr (by omega))]; rfl
    | succ r =>
      rw [if_neg (fun h => absurd ((n_le (by omega) (by omega)).mp h) (by omega))]
      show _ = some (ocI (if s = 0 then none else sWk P r (sKn P k s) (sNx P k s)), S)
      by_cases h0 : s = 0
      · rw [if_pos (show nI s = 0 by rw [h0]; rfl), if_pos h0]
        rfl
      · obtain ⟨n1, -, -⟩ := sNx_is hP hs h0 hlt
        obtain ⟨d1, d2, d3, d4⟩ := sNx_dn hP hs h0 hlt
        have dr := sRk_dn hP hs h0 hlt
        have hrec := ih m r (sKn P k s) (sNx P k s) (q + 1) (by omega) (by omega) (by unfold sKn; split <;> omega) n1 (by omega) (by omega)
        have e98 := m_sea98 fu hP hm hO hG hR (f_M_sea_83 fu m) hk hs h0 hlt (nI (q + (r + 1))) (nI q) (sNx P k s) 0 fu (by omega) (by omega)
        rw [if_neg (show ¬ nI s = 0 from fun h => h0 ((n_eq (b := 0) (by omega) (by omega)).mp h)), if_neg h0, ← hrec]
        refine Eq.trans e98 ?_
        unfold f_M_sea_123
        rw [qb1 (m_shut hm (by omega) (by omega) d3), n_1, show q + (r + 1) = q + 1 + r by omega]
        unfold sKn
        cases e : pSh P s (sNx P k s) with
        | false => rw [if_pos (show b2 false = 0 from rfl), if_neg (by decide), show nI k - 0 = nI k from n_sub (a := k) (b := 0) (Nat.zero_le _)]
        | true =>
          have hk1 := d2 e
          rw [if_neg (show ¬ b2 true = 0 by decide), if_pos rfl, show nI k - 1 = nI (k - 1) from n_sub (a := k) (b := 1) hk1]
theorem zA66 {S : zSt} (h : zSR S) : zA S 66 = 90 := (h.2.2 65 (by have := h.1; have : zN0 = 98 := rfl; omega) (by decide) 0 1 90 (by decide)).2.2 (by decide)
theorem call_sea (fu : Nat) (hfu : 1000 ≤ fu) {S : zSt} (h : Inv S) (a i : Int32) : cOk (f_E_sea fu a i) (f_M_sea fu a i) S := by
  obtain ⟨P, es, hP, hc, hm, hj, hi, ht, hms, hd, hs⟩ := id h
  have h9 := hP.1
  by_cases hn : pN P = 0
  · refine cOk_0 h (v := -1) ?_ ?_
    · unfold f_E_sea
      rw [hc.1, if_pos (show nI (pN P) = 0 by rw [hn]; rfl)]
    · unfold f_M_sea
      rw [qb1 (m_many hm), if_pos (show nI (pN P) = 0 by rw [hn]; rfl)]
  have hn1 : ¬ nI (pN P) = (0 : Int32) := fun h => hn ((n_eq (b := 0) (by omega) (by omega)).mp h)
  rcases rng_or a 0 9 with ⟨G, -, hG, rfl⟩ | ha
  · have l1 : f_M_lies (nI G) 0 9 = some 1 := lies_yes (lo := 0) (hi := 9) (by omega) hG (by omega)
    have g1 : ¬ nI G < 0 := n_neg (by omega)
    have g2 : ¬ (9 : Int32) < nI G := fun h => absurd ((n_lt (a := 9) (by omega) (by omega)).mp h) (by omega)
    by_cases hi1 : -1 ≤ i
    · obtain ⟨S1, x1, x2, x3, x4, x5⟩ := inv_paper fu hfu hP hc hm hs
      have hA : zA S1 66 = 90 := by rw [zCo_A x2]; exact zA66 hs.2.2.1
      obtain ⟨S2, y1, y2, y3, y4, y5⟩ := ou_fill fu hfu hP (by omega) x3 hA hG
      have c2 := zCo_t x2 y2
      have hm2 := mRep_co hm c2 (Or.inl rfl) hP
      have hc2 := cRep_co hc c2 (by omega)
      obtain ⟨S3, z1, z2, z3, z4⟩ := lays_sea fu hfu hP (by omega) hm2 hG
      have hm3 := mRep_co hm2 z2 (Or.inl rfl) hP
      have hat : pAt P < pN P := by
        have := hP.2.2.2.2.2.2.2.2.1
        omega
      have e5 : zI S2 1 5 = nI (pAt P) := hc2.2.2.2.2.2.2.1
      have e74 : zI S3 74 0 = nI (pAt P) := hm3.2.2.2.2.2.1
      have hle := sT_le P G (pAt P)
      have eL : f_Ou_leftFrom (nI (pAt P)) (nI G) S2 = some (nI (sT P G (pAt P))) := by
        rw [ou_left (by omega) hG, y5 G (by omega) (pAt P) (by omega)]
      have eA : f_M_seaAt (nI G) (nI (pAt P)) S3 = some (nI (sT P G (pAt P))) := by
        rw [m_at S3 (by omega) hG, z4 G (by omega) (pAt P) hat]
      have eD : f_Ou_days (nI (pAt P)) S2 = some (if 1000000 ≤ sT P G (pAt P) then -1 else nI (sT P G (pAt P))) := by
        unfold f_Ou_days
        rw [y4, qb1 eL]
        by_cases hf : 1000000 ≤ sT P G (pAt P)
        · rw [if_pos ((row_cmp (D := fun _ _ => sT P G (pAt P)) (a := 0) (b := 0) hle).1.mpr hf), if_pos hf]
        · rw [if_neg (fun h => hf ((row_cmp (D := fun _ _ => sT P G (pAt P)) (a := 0) (b := 0) hle).1.mp h)), if_neg hf]
      have e56 : f_M_sea_56 fu (nI (pAt P)) (nI G) S3 = some (if 1000000 ≤ sT P G (pAt P) then -1 else nI (sT P G (pAt P)), S3) := by
        unfold f_M_sea_56
        rw [qb1 eA]
        by_cases hf : 1000000 ≤ sT P G (pAt P)
        · rw [if_neg (fun h => absurd ((row_cmp (D := fun _ _ => sT P G (pAt P)) (a := 0) (b := 0) hle).2.mp h) (by omega)), if_pos hf]
        · rw [if_pos ((row_cmp (D := fun _ _ => sT P G (pAt P)) (a := 0) (b := 0) hle).2.mpr (by omega)), qb1 eA, if_neg hf]
      have eE : f_E_sea fu (nI G) i S = if i = -1 then some (if 1000000 ≤ sT P G (pAt P) then -1 else nI (sT P G (pAt P)), S2) else zb1 (f_Ou_onWay fu (nI (pAt P)) i S2) (fun r11 => some (r11, S2)) := by
        unfold f_E_sea
        rw [hc.1, if_neg hn1, if_neg g1, if_neg g2, if_pos hi1, qb1 x1, qb1 y1, e5, qb1 eD]
      have eM : f_M_sea fu (nI G) i S2 = if (1000000 : Int32) ≤ nI (sT P G (pAt P)) then some (if 1000000 ≤ sT P G (pAt P) then -1 else nI (sT P G (pAt P)), S3) else if i = -1 then some (if 1000000 ≤ sT P G (pAt P) then -1 else nI (sT P G (pAt P)), S3) else f_M_sea_83 fu fu i (nI (pAt P)) (nI G) 0 S3 := by
        unfold f_M_sea
        rw [qb1 (m_many hm2), if_neg hn1, qb1 l1, if_neg (by decide), if_pos hi1, qb1 z1, show (0 : Int32).toNatClampNeg = 0 from rfl, e74, qb1 eA, e56]
      by_cases hi2 : i = -1
      · refine cOk_q h (S1 := S2) (S2 := S3) (by rw [eE, if_pos hi2]) c2 ?_ z2
        rw [eM, if_pos hi2]
        split <;> rfl
      · have h0' : 0 ≤ i := by
          rw [q_le, q_0]
          rw [q_le] at hi1
          rw [q_eq] at hi2
          have : (-1 : Int32).toInt = -1 := rfl
          omega
        obtain ⟨iN, rfl, hiN, hib⟩ := q_ex (a := i) (by rw [q_le, q_0] at h0'; omega)
        have hneg : ¬ nI iN < 0 := n_neg (by omega)
        have l9 := n_le (a := 9) (b := iN) (by omega) (by omega)
        by_cases hf : 1000000 ≤ sT P G (pAt P)
        · have hf' := (row_cmp (D := fun _ _ => sT P G (pAt P)) (a := 0) (b := 0) hle).1.mpr hf
          have eW : f_Ou_onWay fu (nI (pAt P)) (nI iN) S2 = some (-1) := by
            unfold f_Ou_onWay
            rw [if_neg hneg]
            by_cases h1 : (9 : Int32) ≤ nI iN
            · rw [if_pos h1]
            · rw [if_neg h1, qb1 eD, if_pos hf, if_pos rfl]
          refine cOk_q h (v := -1) (S1 := S2) (S2 := S3) (by rw [eE, if_neg hi2, qb1 eW]) c2 ?_ z2
          rw [eM, if_pos hf', if_pos hf]
        · have hf' : ¬ (1000000 : Int32) ≤ nI (sT P G (pAt P)) := fun h => hf ((row_cmp (D := fun _ _ => sT P G (pAt P)) (a := 0) (b := 0) hle).1.mp h)
          have hrk := rkP_n (D := fun c _ => sT P G c) (n := pN P) (to := 0) hat
          have eW : f_Ou_onWay fu (nI (pAt P)) (nI iN) S2 = some (ocI (sWk P iN G (pAt P))) := by
            unfold f_Ou_onWay
            rw [if_neg hneg]
            by_cases h1 : 9 ≤ iN
            · have h1' : (9 : Int32) ≤ nI iN := l9.mpr h1
              rw [if_pos h1', sWk_none hP iN G (pAt P) hat (by omega) (by unfold rkT; omega)]
              rfl
            · have h1' : ¬ (9 : Int32) ≤ nI iN := fun h => h1 (l9.mp h)
              have hnm : ¬ nI (sT P G (pAt P)) = (-1 : Int32) := nI_m1 (by omega)
              rw [if_neg h1', qb1 eD, if_neg hf, if_neg hnm, y4]
              have := ou_way fu (by omega) hP y3 hG y5 fu iN G (pAt P) 0 (by omega) (Nat.le_refl _) hat (by omega) (by omega)
              rw [Nat.zero_add] at this
              exact this
          have eMW := m_seaWay fu (by omega) hP hm3 z3 hG z4 (rkT (sT P G) (pN P) (pAt P)) fu iN G (pAt P) 0 (Nat.le_refl _) (by unfold rkT; omega) (Nat.le_refl _) hat (by omega) (by omega)
          rw [Nat.zero_add] at eMW
          refine cOk_q h (v := ocI (sWk P iN G (pAt P))) (S1 := S2) (S2 := S3) (by rw [eE, if_neg hi2, qb1 eW]) c2 ?_ z2
          rw [eM, if_neg hf', if_neg hi2]
          exact eMW
    · refine cOk_0 h (v := -1) ?_ ?_
      · unfold f_E_sea
        rw [hc.1, if_neg hn1, if_neg g1, if_neg g2, if_neg hi1]
      · unfold f_M_sea
        rw [qb1 (m_many hm), if_neg hn1, qb1 l1, if_neg (by decide), if_neg hi1]
  · have l1 : f_M_lies a 0 9 = some 0 := lies_no (lo := 0) (hi := 9) (by omega) (by omega) ha
    refine cOk_0 h (v := -1) ?_ ?_
    · unfold f_E_sea
      rw [hc.1, if_neg hn1]
      by_cases h2 : a < 0
      · rw [if_pos h2]
      · rw [if_neg h2]
        rcases rng_no (hi := 9) (by omega) ha with h1 | h1
        · exact absurd h1 h2
        · have h3 : (9 : Int32) < a := by
            have h1' : ¬ a ≤ (9 : Int32) := h1
            rw [q_le] at h1'
            rw [q_lt]
            omega
          rw [if_pos h3]
    · unfold f_M_sea
      rw [qb1 (m_many hm), if_neg hn1, qb1 l1, if_pos rfl]

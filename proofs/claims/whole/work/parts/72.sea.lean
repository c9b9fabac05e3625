/-! sea: the reference -/
def oO (S : zSt) (P : zP) (a b : Nat) : Prop := ∀ x y, x < pN P → y < pN P → (x < a ∨ (x = a ∧ y < b)) → zI S 93 (9 * x + y) = nI (pThr P (pLaw P) x y)
theorem oO_w {S : zSt} {P : zP} (h9 : pN P ≤ 9) {a b : Nat} (h : oO S P a b) (ha : a < pN P) (hb : b < pN P) : oO (zwI S 93 (9 * a + b) (nI (pThr P (pLaw P) a b))) P a (b + 1) := by
  intro x y hx hy hxy
  rw [qII]
  by_cases e : 9 * x + y = 9 * a + b
  · rw [if_pos ⟨rfl, e⟩, show x = a by omega, show y = b by omega]
  · rw [if_neg (fun h => e h.2)]
    exact h x y hx hy (by omega)
theorem oO_f {S S' : zSt} {P : zP} {a b : Nat} (h : oO S P a b) (e : zI S' 93 = zI S 93) : oO S' P a b := fun x y hx hy hxy => by rw [e]; exact h x y hx hy hxy
theorem se_12 (fu : Nat) (hfu : 1000 ≤ fu) {P : zP} (hP : pOK P) (k2 : Int32 → Int32 → zSt → Option zSt) (g : Int32) {a : Nat} (ha : a < pN P) : ∀ (m b n : Nat) (S : zSt), b + m = pN P → m + 1 ≤ n → mRep S 74 0 P → oO S P a b → ∃ S1, f_M_laysSea_12 fu k2 n g (nI a) (nI b) S = k2 g (nI (a + 1)) S1 ∧ zCo S S1 ∧ oO S1 P (a + 1) 0 := by
  have h9 := hP.1
  intro m
  induction m with
  | zero =>
    intro b n S h1 h2 hm hw
    obtain ⟨n', rfl⟩ : ∃ n', n = n' + 1 := ⟨n - 1, by omega⟩
    refine ⟨S, ?_, zCo_r S, fun x y hx hy hxy => hw x y hx hy (by omega)⟩
    unfold f_M_laysSea_12
    rw [qb1 (m_many hm), if_pos ((n_le (by omega) (by omega)).mpr (by omega)), n_1]
  | succ m ih =>
    intro b n S h1 h2 hm hw
    obtain ⟨n', rfl⟩ : ∃ n', n = n' + 1 := ⟨n - 1, by omega⟩
    have hb : b < pN P := by omega
    obtain ⟨K, eK⟩ : ∃ K, K = f_M_laysSea_12 fu k2 n' := ⟨_, rfl⟩
    have st : ∃ S0, f_M_laysSea_12 fu k2 (n' + 1) g (nI a) (nI b) S = K g (nI a) (nI (b + 1)) S0 ∧ zCo S S0 ∧ oO S0 P a (b + 1) := by
      obtain ⟨S1, e1, f1⟩ := m_through fu (by omega) hm hP ha hb
      have hw1 : oO S1 P a b := oO_f hw (f1.2 93 (by omega) (by omega))
      have hm1 := mRep_co hm f1.1 (Or.inl rfl) hP
      unfold f_M_laysSea_12
      rw [qb1 (m_many hm), if_neg (fun h => absurd ((n_le (by omega) (by omega)).mp h) (by omega)), qb1 (m_pair (by omega) (by omega)), qb2 e1, ← eK]
      have ht := thr_of (P := P) (a := a) (b := b) (pLaw P)
      cases hp : pThB P (pLaw P) a b with
      | false =>
        rw [hp, if_neg (by decide)] at ht
        refine ⟨_, ?_, zCo_t f1.1 (zCo_w S1 (j := 93) (k := 9 * a + b) (nI (pThr P (pLaw P) a b)) (by unfold scI; omega)), oO_w h9 hw1 ha hb⟩
        rw [if_pos (show b2 false = 0 from rfl), n_gd (by omega) (by omega), q_cl (by omega), n_1, ht]
        rfl
      | true =>
        rw [hp, if_pos rfl] at ht
        have hpp := of_decide_eq_true hp
        obtain ⟨S2, e2, c2, f2⟩ := m_takes_for fu (by omega) hm1 hP ha hb hpp.1
        obtain ⟨v, v1, v2, v3⟩ := takes_rg hP (pLaw P) (by omega : a < 9) (by omega : b < 9) hpp.2.1
        have et : pTl P (pLaw P) 0 a b = nI (pThr P (pLaw P) a b) := by
          rw [ht, v3, q_nI (by omega)]
          rfl
        refine ⟨_, ?_, zCo_t f1.1 (zCo_t c2 (zCo_w S2 (j := 93) (k := 9 * a + b) (nI (pThr P (pLaw P) a b)) (by unfold scI; omega))), oO_w h9 (oO_f hw1 (f2 93 (by omega) (by omega))) ha hb⟩
        rw [if_neg (show ¬ b2 true = 0 by decide), qb2 e2, n_gd (by omega) (by omega), q_cl (by omega), n_1, et]
    obtain ⟨S0, s1, s2, s3⟩ := st
    obtain ⟨S1, g1, g2, g3⟩ := ih (b + 1) n' S0 (by omega) (by omega) (mRep_co hm s2 (Or.inl rfl) hP) s3
    rw [eK] at s1
    exact ⟨S1, s1.trans g1, zCo_t s2 g2, g3⟩
theorem se_2 (fu : Nat) (hfu : 1000 ≤ fu) {P : zP} (hP : pOK P) (g : Int32) : ∀ (m a n : Nat) (S : zSt), a + m = pN P → m + 1 ≤ n → mRep S 74 0 P → oO S P a 0 → ∃ S1, f_M_laysSea_2 fu n g (nI a) S = f_M_laysSea_64 fu fu g 0 S1 ∧ zCo S S1 ∧ oO S1 P (pN P) 0 := by
  have h9 := hP.1
  intro m
  induction m with
  | zero =>
    intro a n S h1 h2 hm hw
    obtain ⟨n', rfl⟩ : ∃ n', n = n' + 1 := ⟨n - 1, by omega⟩
    refine ⟨S, ?_, zCo_r S, by rw [← show a = pN P by omega]; exact hw⟩
    unfold f_M_laysSea_2
    rw [qb1 (m_many hm), if_pos ((n_le (by omega) (by omega)).mpr (by omega))]
  | succ m ih =>
    intro a n S h1 h2 hm hw
    obtain ⟨n', rfl⟩ : ∃ n', n = n' + 1 := ⟨n - 1, by omega⟩
    have ha : a < pN P := by omega
    obtain ⟨S0, s1, s2, s3⟩ := se_12 fu hfu hP (f_M_laysSea_2 fu n') g ha (pN P) 0 fu S (by omega) (by omega) hm hw
    obtain ⟨S1, g1, g2, g3⟩ := ih (a + 1) n' S0 (by omega) (by omega) (mRep_co hm s2 (Or.inl rfl) hP) s3
    refine ⟨S1, ?_, zCo_t s2 g2, g3⟩
    rw [← g1]
    refine Eq.trans ?_ s1
    rw [show f_M_laysSea_2 fu (n' + 1) g (nI a) S = zb1 (f_M_springMany S) (fun r2 => if r2 ≤ nI a then f_M_laysSea_64 fu fu g 0 S else f_M_laysSea_12 fu (f_M_laysSea_2 fu n') fu g (nI a) 0 S) from rfl, qb1 (m_many hm), if_neg (fun h => absurd ((n_le (by omega) (by omega)).mp h) (by omega))]
    rfl
theorem m_at (S : zSt) {c k : Nat} (hc : c < 9) (hk : k ≤ 9) : f_M_seaAt (nI k) (nI c) S = some (zI S 94 (9 * k + c)) := by
  unfold f_M_seaAt
  rw [show 9 * nI k + nI c = nI (9 * k + c) by rw [show (9 : Int32) = nI 9 from rfl, n_mul, n_add], n_gd (by omega) (by omega), q_cl (by omega)]
theorem lesser_is {a b : Nat} (ha : a < 2 ^ 31) (hb : b < 2 ^ 31) : f_M_lesser (nI a) (nI b) = some (nI (min a b)) := by
  unfold f_M_lesser
  by_cases h : b ≤ a
  · rw [if_pos ((n_le hb ha).mpr h), Nat.min_eq_right h]
  · rw [if_neg (fun h2 => h ((n_le hb ha).mp h2)), Nat.min_eq_left (by omega)]
theorem m_by16 (S : zSt) {s c k t u : Nat} (hs : s < 9) (hc : c < 9) (hk : k ≤ 9) (ht : t ≤ 1000000) (hu : u ≤ 1000000) (e1 : zI S 93 (9 * s + c) = nI t) (e2 : zI S 94 (9 * k + c) = nI u) : f_M_seaBy_16 (nI s) (nI c) (nI k) S = some (nI (min 1000000 (t + u))) := by
  have el : f_M_lesser 1000000 (nI t + nI u) = some (nI (min 1000000 (t + u))) := by
    rw [n_add]
    exact lesser_is (a := 1000000) (by omega) (by omega)
  unfold f_M_seaBy_16
  rw [if_pos (n_0 (by omega)), qb1 (m_pair hs hc), n_gd (by omega) (by omega), qb1 (m_at S hc hk), q_cl (by omega), e1, e2, qb1 el]
theorem m_by {S : zSt} {P : zP} (hP : pOK P) (hm : mRep S 74 0 P) (hO : oO S P (pN P) 0) {T : Nat → Nat → Nat} {V : Nat → Nat} {k : Nat} (hk : k ≤ 9) (hT : ∀ j c, T j c ≤ 1000000) (hR : oRow S 94 (pN P) T V k) (hV : ∀ c, c < pN P → V c ≤ 1000000) {s c : Nat} (hs : s < pN P) (hc : c < pN P) :
    ∃ v, f_M_seaBy (nI k) (nI s) (nI c) S = some (nI v) ∧ v ≤ 1000000 ∧ (v = by1 P (xU T k) V s c ∨ (1000000 = v ∧ 1000000 ≤ by1 P (xU T k) V s c)) := by
  have h9 := hP.1
  have g1 := (pThr_1 hP (pLaw P) s c).2
  have hv := hV c hc
  have hO1 := hO s c hs hc (Or.inl hs)
  have same : f_M_seaBy_16 (nI s) (nI c) (nI k) S = some (nI (min 1000000 (pThr P (pLaw P) s c + V c))) := m_by16 S (by omega) (by omega) hk g1 hv hO1 (hR.2 c hc)
  have below : ∃ u, f_M_seaBy_16 (nI s) (nI c) (nI k - 1) S = some (nI u) ∧ u = min 1000000 (pThr P (pLaw P) s c + xU T k c) := by
    by_cases h0 : k = 0
    · refine ⟨1000000, ?_, by unfold xU; rw [if_pos h0]; omega⟩
      rw [h0]
      unfold f_M_seaBy_16
      rw [if_neg (show ¬ (0 : Int32) ≤ nI 0 - 1 by decide)]
      rfl
    · obtain ⟨k', rfl⟩ : ∃ k', k = k' + 1 := ⟨k - 1, by omega⟩
      have hv2 := hT k' c
      refine ⟨min 1000000 (pThr P (pLaw P) s c + T k' c), ?_, by unfold xU; rw [if_neg (by omega), Nat.add_sub_cancel]⟩
      rw [show nI (k' + 1) - 1 = nI k' by rw [show (1 : Int32) = nI 1 from rfl, n_sub (by omega), Nat.add_sub_cancel]]
      exact m_by16 S (by omega) (by omega) (by omega) g1 hv2 hO1 (hR.1 k' (by omega) c hc)
  obtain ⟨u, hu, eu⟩ := below
  unfold f_M_seaBy
  by_cases hsc : s = c
  · have e0 : pThr P (pLaw P) s c = 1000000 := by rw [hsc]; exact pThr_self P _ c
    have hb1 : 1000000 ≤ by1 P (xU T k) V s c := by unfold by1; omega
    refine ⟨1000000, ?_, Nat.le_refl _, Or.inr ⟨rfl, hb1⟩⟩
    have es : f_M_isShut (nI s) (nI c) S = some 0 ∨ f_M_isShut (nI s) (nI c) S = some 1 := by
      unfold f_M_isShut
      rw [qb1 (m_pair (by omega) (by omega)), show 10 + nI (9 * s + c) = nI (10 + (9 * s + c)) from n_add 10 _, n_gd (by omega) (by omega)]
      split
      · exact Or.inr rfl
      · exact Or.inl rfl
    rcases es with es | es
    · rw [qb1 es, if_pos rfl, same, e0, Nat.min_eq_left (by omega)]
    · rw [qb1 es, if_neg (by decide), hu, eu, e0, Nat.min_eq_left (by omega)]
  · rw [qb1 (m_shut hm (by omega) (by omega) hsc)]
    cases hsh : pSh P s c with
    | false =>
      rw [if_pos (show b2 false = 0 from rfl)]
      refine ⟨_, same, by omega, ?_⟩
      unfold by1
      rw [hsh, if_neg (by decide)]
      omega
    | true =>
      rw [if_neg (show ¬ b2 true = 0 by decide)]
      refine ⟨u, hu, by omega, ?_⟩
      unfold by1
      rw [if_pos hsh]
      omega
theorem se_131 (fu : Nat) {P : zP} (hP : pOK P) {T : Nat → Nat → Nat} {k r : Nat} (hk : k ≤ 9) (hT : ∀ j c, T j c ≤ 1000000) (hF : sF P (xU T k) (T k)) (k64 : Int32 → Int32 → zSt → Option zSt) (k108 : Int32 → Int32 → Int32 → zSt → Option zSt) (k119 : Int32 → Int32 → Int32 → Int32 → zSt → Option zSt) (g q : Int32) {s : Nat} (hs : s < pN P) : ∀ (m c n : Nat) (S : zSt) (V : Nat → Nat), c + m = pN P → m + 1 ≤ n → mRep S 74 0 P → oO S P (pN P) 0 → oRow S 94 (pN P) T V k → gM P (xU T k) (T k) V r s c → ∃ S' V', f_M_laysSea_131 fu k64 k108 k119 n g (nI k) q (nI s) (nI c) S = k119 g (nI k) q (nI (s + 1)) S' ∧ oK 94 k S S' ∧ oRow S' 94 (pN P) T V' k ∧ gM P (xU T k) (T k) V' r s (pN P) := by
  have h9 := hP.1
  intro m
  induction m with
  | zero =>
    intro c n S V h1 h2 hm hO hR hg
    obtain ⟨n', rfl⟩ : ∃ n', n = n' + 1 := ⟨n - 1, by omega⟩
    refine ⟨S, V, ?_, oK_r _ _ S, hR, by rw [← show c = pN P by omega]; rw [show c = pN P by omega] at hg ⊢; exact hg⟩
    unfold f_M_laysSea_131
    rw [qb1 (m_many hm), if_pos ((n_le (by omega) (by omega)).mpr (by omega)), n_1]
  | succ m ih =>
    intro c n S V h1 h2 hm hO hR hg
    obtain ⟨n', rfl⟩ : ∃ n', n = n' + 1 := ⟨n - 1, by omega⟩
    have hc : c < pN P := by omega
    obtain ⟨K, eK⟩ : ∃ K, K = f_M_laysSea_131 fu k64 k108 k119 n' := ⟨_, rfl⟩
    have st : ∃ S0 V0, f_M_laysSea_131 fu k64 k108 k119 (n' + 1) g (nI k) q (nI s) (nI c) S = K g (nI k) q (nI s) (nI (c + 1)) S0 ∧ oK 94 k S S0 ∧ oRow S0 94 (pN P) T V0 k ∧ gM P (xU T k) (T k) V0 r s (c + 1) := by
      obtain ⟨v, e1, hv, hor⟩ := m_by hP hm hO hk hT hR (fun c hc => (hg.1 c hc).2) hs hc
      have hVs := (hg.1 s hs).2
      have emin : min (V s) v = min (V s) (by1 P (xU T k) V s c) := by omega
      refine ⟨_, upV V s (min (V s) v), ?_, oK_w 94 k S (x := s) (nI (min (V s) v)) (by omega), oRow_w h9 hR hs, ?_⟩
      · unfold f_M_laysSea_131
        rw [qb1 (m_many hm), if_neg (fun h => absurd ((n_le (by omega) (by omega)).mp h) (by omega)), qb1 (m_at S (by omega) hk), hR.2 s hs, qb1 e1, qb1 (lesser_is (by omega) (by omega)), show 9 * nI k + nI s = nI (9 * k + s) by rw [show (9 : Int32) = nI 9 from rfl, n_mul, n_add], n_gd (by omega) (by omega), q_cl (by omega), ← eK, n_1]
      · rw [emin]
        exact gM_step hP hF hg hs hc
    obtain ⟨S0, V0, s1, s2, s3, s5⟩ := st
    have c0 : zCo S S0 := oR_co (oK_oR s2) (fun k => by unfold scI; omega)
    obtain ⟨S1, V1, g1, g2, g3, g5⟩ := ih (c + 1) n' S0 V0 (by omega) (by omega) (mRep_co hm c0 (Or.inl rfl) hP) (oO_f hO (oK_o s2 (by omega))) s3 s5
    rw [eK] at s1
    exact ⟨S1, V1, s1.trans g1, oK_t s2 g2, g3, g5⟩
theorem se_119 (fu : Nat) (hfu : 100 ≤ fu) {P : zP} (hP : pOK P) {T : Nat → Nat → Nat} {k r : Nat} (hk : k ≤ 9) (hT : ∀ j c, T j c ≤ 1000000) (hF : sF P (xU T k) (T k)) (k64 : Int32 → Int32 → zSt → Option zSt) (k108 : Int32 → Int32 → Int32 → zSt → Option zSt) (g : Int32) (q : Nat) : ∀ (m s n : Nat) (S : zSt) (V : Nat → Nat), s + m = pN P → m + 1 ≤ n → mRep S 74 0 P → oO S P (pN P) 0 → oRow S 94 (pN P) T V k → gM P (xU T k) (T k) V r s 0 → ∃ S' V', f_M_laysSea_119 fu k64 k108 n g (nI k) (nI q) (nI s) S = k108 g (nI k) (nI (q + 1)) S' ∧ oK 94 k S S' ∧ oRow S' 94 (pN P) T V' k ∧ gM P (xU T k) (T k) V' r (pN P) 0 := by
  have h9 := hP.1
  intro m
  induction m with
  | zero =>
    intro s n S V h1 h2 hm hO hR hg
    obtain ⟨n', rfl⟩ : ∃ n', n = n' + 1 := ⟨n - 1, by omega⟩
    have hsn : s = pN P := by omega
    rw [hsn] at hg ⊢
    refine ⟨S, V, ?_, oK_r _ _ S, hR, hg⟩
    unfold f_M_laysSea_119
    rw [qb1 (m_many hm), if_pos ((n_le (by omega) (by omega)).mpr (by omega)), n_1]
  | succ m ih =>
    intro s n S V h1 h2 hm hO hR hg
    obtain ⟨n', rfl⟩ : ∃ n', n = n' + 1 := ⟨n - 1, by omega⟩
    obtain ⟨S0, V0, s1, s2, s3, s5⟩ := se_131 fu hP hk hT hF k64 k108 (f_M_laysSea_119 fu k64 k108 n') g (nI q) (by omega : s < pN P) (pN P) 0 fu S V (by omega) (by omega) hm hO hR hg
    have c0 : zCo S S0 := oR_co (oK_oR s2) (fun k => by unfold scI; omega)
    obtain ⟨S1, V1, g1, g2, g3, g5⟩ := ih (s + 1) n' S0 V0 (by omega) (by omega) (mRep_co hm c0 (Or.inl rfl) hP) (oO_f hO (oK_o s2 (by omega))) s3 (gM_row hP hF s5 (Nat.le_refl _))
    refine ⟨S1, V1, ?_, oK_t s2 g2, g3, g5⟩
    rw [← g1]
    refine Eq.trans ?_ s1
    rw [show f_M_laysSea_119 fu k64 k108 (n' + 1) g (nI k) (nI q) (nI s) S = zb1 (f_M_springMany S) (fun r2 => if r2 ≤ nI s then k108 g (nI k) (nI q + 1) S else f_M_laysSea_131 fu k64 k108 (f_M_laysSea_119 fu k64 k108 n') fu g (nI k) (nI q) (nI s) 0 S) from rfl, qb1 (m_many hm), if_neg (fun h => absurd ((n_le (by omega) (by omega)).mp h) (by omega))]
    rfl
theorem se_108 (fu : Nat) (hfu : 100 ≤ fu) {P : zP} (hP : pOK P) (hn : 0 < pN P) {T : Nat → Nat → Nat} {k : Nat} (hk : k ≤ 9) (hT : ∀ j c, T j c ≤ 1000000) (hF : sF P (xU T k) (T k)) (k64 : Int32 → Int32 → zSt → Option zSt) (g : Int32) : ∀ (m r n : Nat) (S : zSt) (V : Nat → Nat), r + 1 + m = pN P → m + 1 ≤ n → mRep S 74 0 P → oO S P (pN P) 0 → oRow S 94 (pN P) T V k → gM P (xU T k) (T k) V r 0 0 → ∃ S', f_M_laysSea_108 fu k64 n g (nI k) (nI (r + 1)) S = k64 g (nI (k + 1)) S' ∧ oK 94 k S S' ∧ oRow S' 94 (pN P) T (T k) k := by
  have h9 := hP.1
  intro m
  induction m with
  | zero =>
    intro r n S V h1 h2 hm hO hR hg
    obtain ⟨n', rfl⟩ : ∃ n', n = n' + 1 := ⟨n - 1, by omega⟩
    refine ⟨S, ?_, oK_r _ _ S, hR.1, fun c hc => by rw [hR.2 c hc, gM_end hg (by omega) hc]⟩
    unfold f_M_laysSea_108
    rw [qb1 (m_many hm), if_pos ((n_le (by omega) (by omega)).mpr (by omega)), n_1]
  | succ m ih =>
    intro r n S V h1 h2 hm hO hR hg
    obtain ⟨n', rfl⟩ : ∃ n', n = n' + 1 := ⟨n - 1, by omega⟩
    obtain ⟨S0, V0, s1, s2, s3, s5⟩ := se_119 fu hfu hP hk hT hF k64 (f_M_laysSea_108 fu k64 n') g (r + 1) (pN P - 1) 1 fu S V (by omega) (by omega) hm hO hR (gM_from1 hP hF hn hg)
    have c0 : zCo S S0 := oR_co (oK_oR s2) (fun k => by unfold scI; omega)
    obtain ⟨S1, g1, g2, g3⟩ := ih (r + 1) n' S0 V0 (by omega) (by omega) (mRep_co hm c0 (Or.inl rfl) hP) (oO_f hO (oK_o s2 (by omega))) s3 (gM_round s5 (Nat.le_refl _))
    refine ⟨S1, ?_, oK_t s2 g2, g3⟩
    rw [← g1]
    refine Eq.trans ?_ s1
    rw [show f_M_laysSea_108 fu k64 (n' + 1) g (nI k) (nI (r + 1)) S = zb1 (f_M_springMany S) (fun r2 => if r2 ≤ nI (r + 1) then k64 g (nI k + 1) S else f_M_laysSea_119 fu k64 (f_M_laysSea_108 fu k64 n') fu g (nI k) (nI (r + 1)) 1 S) from rfl, qb1 (m_many hm), if_neg (fun h => absurd ((n_le (by omega) (by omega)).mp h) (by omega))]
    rfl
def v0S : Nat → Nat := fun x => if x = 0 then 0 else 1000000
theorem se_71 (fu : Nat) {P : zP} (hP : pOK P) {T : Nat → Nat → Nat} {k : Nat} (hk : k ≤ 9) (k64 : Int32 → Int32 → zSt → Option zSt) (g : Int32) : ∀ (m a n : Nat) (S : zSt), a + m = pN P → m + 1 ≤ n → mRep S 74 0 P → (∀ j, j < k → ∀ c, c < pN P → zI S 94 (9 * j + c) = nI (T j c)) → (∀ c, c < a → zI S 94 (9 * k + c) = nI (v0S c)) → ∃ S', f_M_laysSea_71 fu k64 n g (nI k) (nI a) S = f_M_laysSea_108 fu k64 fu g (nI k) 1 S' ∧ oK 94 k S S' ∧ oRow S' 94 (pN P) T v0S k := by
  have h9 := hP.1
  intro m
  induction m with
  | zero =>
    intro a n S h1 h2 hm hR hV
    obtain ⟨n', rfl⟩ : ∃ n', n = n' + 1 := ⟨n - 1, by omega⟩
    refine ⟨S, ?_, oK_r _ _ S, hR, by rw [← show a = pN P by omega]; exact hV⟩
    unfold f_M_laysSea_71
    rw [qb1 (m_many hm), if_pos ((n_le (by omega) (by omega)).mpr (by omega))]
  | succ m ih =>
    intro a n S h1 h2 hm hR hV
    obtain ⟨n', rfl⟩ : ∃ n', n = n' + 1 := ⟨n - 1, by omega⟩
    have s2 := oK_w 94 k S (x := a) (nI (v0S a)) (by omega)
    have c0 : zCo S (zwI S 94 (9 * k + a) (nI (v0S a))) := oR_co (oK_oR s2) (fun k => by unfold scI; omega)
    obtain ⟨S1, g1, g2, g3⟩ := ih (a + 1) n' (zwI S 94 (9 * k + a) (nI (v0S a))) (by omega) (by omega) (mRep_co hm c0 (Or.inl rfl) hP) (fun j hj c hc => by rw [qIIo _ _ (by omega)]; exact hR j hj c hc) (fun c hc => by
      by_cases e : c = a
      · rw [e, qIIs]
      · rw [qIIo _ _ (by omega)]; exact hV c (by omega))
    refine ⟨S1, ?_, oK_t s2 g2, g3⟩
    rw [← g1]
    obtain ⟨K, eK⟩ : ∃ K, K = f_M_laysSea_71 fu k64 n' := ⟨_, rfl⟩
    rw [← eK]
    unfold f_M_laysSea_71
    rw [qb1 (m_many hm), if_neg (fun h => absurd ((n_le (by omega) (by omega)).mp h) (by omega)), show 9 * nI k + nI a = nI (9 * k + a) by rw [show (9 : Int32) = nI 9 from rfl, n_mul, n_add], n_gd (by omega) (by omega), n_gd (by omega) (by omega), q_cl (by omega), ← eK, n_1]
    by_cases h0 : a = 0
    · rw [if_pos (show nI a = 0 by rw [h0]; rfl), show v0S a = 0 by rw [h0]; rfl]
      rfl
    · rw [if_neg (show ¬ nI a = 0 from fun h => h0 ((n_eq (b := 0) (by omega) (by omega)).mp h)), show v0S a = 1000000 by unfold v0S; rw [if_neg h0]]
      rfl
theorem se_64 (fu : Nat) (hfu : 100 ≤ fu) {P : zP} (hP : pOK P) (hn : 0 < pN P) {T : Nat → Nat → Nat} (hT : ∀ j c, T j c ≤ 1000000) (hF : ∀ k, sF P (xU T k) (T k)) {G : Nat} (hG : G ≤ 9) : ∀ (m k n : Nat) (S : zSt), k + m = G + 1 → m + 1 ≤ n → mRep S 74 0 P → oO S P (pN P) 0 → (∀ j, j < k → ∀ c, c < pN P → zI S 94 (9 * j + c) = nI (T j c)) → ∃ S', f_M_laysSea_64 fu n (nI G) (nI k) S = some S' ∧ oR 94 S S' ∧ (∀ j, j < G + 1 → ∀ c, c < pN P → zI S' 94 (9 * j + c) = nI (T j c)) := by
  have h9 := hP.1
  intro m
  induction m with
  | zero =>
    intro k n S h1 h2 hm hO hR
    obtain ⟨n', rfl⟩ : ∃ n', n = n' + 1 := ⟨n - 1, by omega⟩
    refine ⟨S, ?_, oR_r _ S, by rw [← show k = G + 1 by omega]; exact hR⟩
    unfold f_M_laysSea_64
    rw [if_pos ((n_lt (by omega) (by omega)).mpr (by omega))]
  | succ m ih =>
    intro k n S h1 h2 hm hO hR
    obtain ⟨n', rfl⟩ : ∃ n', n = n' + 1 := ⟨n - 1, by omega⟩
    have hk : k ≤ 9 := by omega
    obtain ⟨S0, s1, s2, s3⟩ := se_71 fu hP hk (f_M_laysSea_64 fu n') (nI G) (pN P) 0 fu S (by omega) (by omega) hm hR (fun c hc => absurd hc (by omega))
    have c0 : zCo S S0 := oR_co (oK_oR s2) (fun k => by unfold scI; omega)
    have hm0 := mRep_co hm c0 (Or.inl rfl) hP
    have hO0 := oO_f hO (oK_o s2 (j := 93) (by omega))
    obtain ⟨S1, t1, t2, t3⟩ := se_108 fu hfu hP hn hk hT (hF k) (f_M_laysSea_64 fu n') (nI G) (pN P - 1) 0 fu S0 v0S (by omega) (by omega) hm0 hO0 s3 (gM_init hP (hF k) hn)
    have c1 : zCo S0 S1 := oR_co (oK_oR t2) (fun k => by unfold scI; omega)
    obtain ⟨S2, g1, g2, g3⟩ := ih (k + 1) n' S1 (by omega) (by omega) (mRep_co hm0 c1 (Or.inl rfl) hP) (oO_f hO0 (oK_o t2 (j := 93) (by omega))) (fun j hj c hc => by
      by_cases e : j = k
      · rw [e]; exact t3.2 c hc
      · exact t3.1 j (by omega) c hc)
    refine ⟨S2, ?_, oR_t (oR_t (oK_oR s2) (oK_oR t2)) g2, g3⟩
    rw [← g1]
    refine Eq.trans ?_ t1
    refine Eq.trans ?_ s1
    rw [show f_M_laysSea_64 fu (n' + 1) (nI G) (nI k) S = if nI G < nI k then some S else f_M_laysSea_71 fu (f_M_laysSea_64 fu n') fu (nI G) (nI k) 0 S from rfl, if_neg (fun h => absurd ((n_lt (by omega) (by omega)).mp h) (by omega))]
    rfl
theorem lays_sea (fu : Nat) (hfu : 1000 ≤ fu) {P : zP} (hP : pOK P) (hn : 0 < pN P) {S : zSt} (hm : mRep S 74 0 P) {G : Nat} (hG : G ≤ 9) : ∃ S', f_M_laysSea fu (nI G) S = some S' ∧ zCo S S' ∧ oO S' P (pN P) 0 ∧ (∀ j, j < G + 1 → ∀ c, c < pN P → zI S' 94 (9 * j + c) = nI (sT P j c)) := by
  have hT : ∀ j c, sT P j c ≤ 1000000 := fun j c => (sT_ok P j).2.1 c
  obtain ⟨S1, e1, c1, o1⟩ := se_2 fu hfu hP (nI G) (pN P) 0 fu S (by omega) (by have := hP.1; omega) hm (fun x y hx hy hxy => absurd hxy (by omega))
  obtain ⟨S2, e2, f2, g2⟩ := se_64 fu (by omega) hP hn hT (sT_ok P) hG (G + 1) 0 fu S1 (by omega) (by omega) (mRep_co hm c1 (Or.inl rfl) hP) o1 (fun j hj => absurd hj (by omega))
  refine ⟨S2, ?_, zCo_t c1 (oR_co f2 (fun k => by unfold scI; omega)), oO_f o1 (funext fun i => f2.2 93 i (by omega)), g2⟩
  exact e1.trans e2

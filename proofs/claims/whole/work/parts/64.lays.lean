/-! how soon, on paper: the reference's side -/
def pThB (P : zP) (law : List lC) (a b : Nat) : Bool := decide (a ≠ b ∧ pFar P a b ≠ 0 ∧ pBar P law a b = false)
def pPs (P : zP) (law : List lC) (a b : Nat) : Bool := decide (a ≠ b ∧ pFar P a b ≠ 0 ∧ pBar P law a b = false ∧ pSh P a b = false)
/-- nothing but what is asked of a law is written -/
def aF (S S' : zSt) : Prop := zCo S S' ∧ ∀ j, j ≠ 72 → j ≠ 84 → zI S' j = zI S j
theorem aF_r (S : zSt) : aF S S := ⟨zCo_r S, fun _ _ _ => rfl⟩
theorem aF_t {S S' S'' : zSt} (h : aF S S') (h2 : aF S' S'') : aF S S'' := ⟨zCo_t h.1 h2.1, fun j a b => (h2.2 j a b).trans (h.2 j a b)⟩
section MLS
variable {P : zP}
theorem far_le {a b : Nat} (hP : pOK P) (ha : a < 9) (hb : b < 9) : pFar P a b ≤ 0 ↔ pFar P a b = 0 := by
  obtain ⟨v, hv, he⟩ := hP.2.2.2.1 a b ha hb
  rw [he]
  constructor
  · intro h
    have := (n_le (b := 0) (by omega) (by omega)).mp h
    rw [show v = 0 by omega]; rfl
  · intro h
    have := (n_eq (b := 0) (by omega) (by omega)).mp h
    exact (n_le (b := 0) (by omega) (by omega)).mpr (by omega)
theorem m_through (fu : Nat) (hfu : 500 ≤ fu) {S : zSt} (h : mRep S 74 0 P) (hP : pOK P) {a b : Nat} (ha : a < pN P) (hb : b < pN P) : ∃ S', f_M_goesThrough fu (nI a) (nI b) S = some (b2 (pThB P (pLaw P) a b), S') ∧ aF S S' := by
  have h9 := hP.1
  unfold f_M_goesThrough pThB
  by_cases hab : a = b
  · rw [if_pos (by rw [hab]), decide_eq_false (fun h => h.1 hab)]
    exact ⟨S, rfl, aF_r S⟩
  · rw [if_neg (fun h => hab ((n_eq (by omega) (by omega)).mp h)), qb1 (m_far h (by omega) (by omega) hab)]
    by_cases hf : pFar P a b = 0
    · rw [if_pos ((far_le hP (by omega) (by omega)).mpr hf), decide_eq_false (fun h => h.2.1 hf)]
      exact ⟨S, rfl, aF_r S⟩
    · rw [if_neg (fun h => hf ((far_le hP (by omega) (by omega)).mp h))]
      obtain ⟨S1, e1, c1, f1⟩ := m_barred fu hfu h hP ha hb hab
      rw [qb2 e1]
      cases hbar : pBar P (pLaw P) a b with
      | true =>
        rw [if_neg (show ¬ b2 true = 0 by decide), decide_eq_false (fun h => absurd h.2.2 (by decide))]
        exact ⟨S1, rfl, c1, f1⟩
      | false =>
        rw [if_pos (show b2 false = 0 from rfl), decide_eq_true (⟨hab, hf, rfl⟩)]
        exact ⟨S1, rfl, c1, f1⟩
theorem m_passed (fu : Nat) (hfu : 500 ≤ fu) {S : zSt} (h : mRep S 74 0 P) (hP : pOK P) {a b : Nat} (ha : a < pN P) (hb : b < pN P) : ∃ S', f_M_isPassed fu (nI a) (nI b) S = some (b2 (pPs P (pLaw P) a b), S') ∧ aF S S' := by
  have h9 := hP.1
  obtain ⟨S1, e1, f1⟩ := m_through fu hfu h hP ha hb
  unfold f_M_isPassed
  rw [qb2 e1]
  unfold pPs
  unfold pThB
  by_cases ht : a ≠ b ∧ pFar P a b ≠ 0 ∧ pBar P (pLaw P) a b = false
  · rw [decide_eq_true ht, if_neg (show ¬ b2 true = 0 by decide), qb1 (m_shut (mRep_co h f1.1 (Or.inl rfl) hP) (by omega) (by omega) ht.1)]
    cases hs : pSh P a b with
    | true =>
      rw [if_neg (show ¬ b2 true = 0 by decide), decide_eq_false (fun h => absurd h.2.2.2 (by decide))]
      exact ⟨S1, rfl, f1⟩
    | false =>
      rw [if_pos (show b2 false = 0 from rfl), decide_eq_true ⟨ht.1, ht.2.1, ht.2.2, rfl⟩]
      exact ⟨S1, rfl, f1⟩
  · rw [decide_eq_false ht, if_pos (show b2 false = 0 from rfl), decide_eq_false (fun h => ht ⟨h.1, h.2.1, h.2.2.1⟩)]
    exact ⟨S1, rfl, f1⟩
theorem leg_of {a b : Nat} (law : List lC) : pLeg P law a b = if pPs P law a b = true then (pTl P law 0 a b).toInt.toNat else 1000000 := by
  unfold pLeg pThr pPs
  by_cases h1 : a = b
  · rw [if_neg (fun h => h.1 h1), if_pos (Or.inl h1), decide_eq_false (fun h => h.1 h1)]; rfl
  by_cases h2 : pFar P a b = 0
  · rw [if_pos (c := a = b ∨ _) (Or.inr (Or.inl h2)), decide_eq_false (fun h => h.2.1 h2)]
    split <;> rfl
  cases h3 : pBar P law a b with
  | true =>
    rw [if_pos (c := a = b ∨ _) (Or.inr (Or.inr rfl)), decide_eq_false (fun h => absurd h.2.2.1 (by decide))]
    split <;> rfl
  | false =>
    have hn : ¬ (a = b ∨ pFar P a b = 0 ∨ false = true) := by
      rintro (h | h | h)
      · exact h1 h
      · exact h2 h
      · exact absurd h (by decide)
    rw [if_neg (c := a = b ∨ _) hn]
    cases h4 : pSh P a b with
    | true => rw [if_pos ⟨h1, rfl⟩, decide_eq_false (fun h => absurd h.2.2.2 (by decide))]; rfl
    | false => rw [if_neg (fun h => absurd h.2 (by decide)), decide_eq_true ⟨h1, h2, rfl, rfl⟩]; rfl
theorem thr_of {a b : Nat} (law : List lC) : pThr P law a b = if pThB P law a b = true then (pTl P law 0 a b).toInt.toNat else 1000000 := by
  unfold pThr pThB
  by_cases h1 : a = b
  · rw [if_pos (Or.inl h1), decide_eq_false (fun h => h.1 h1)]; rfl
  by_cases h2 : pFar P a b = 0
  · rw [if_pos (c := a = b ∨ _) (Or.inr (Or.inl h2)), decide_eq_false (fun h => h.2.1 h2)]; rfl
  cases h3 : pBar P law a b with
  | true => rw [if_pos (c := a = b ∨ _) (Or.inr (Or.inr rfl)), decide_eq_false (fun h => absurd h.2.2 (by decide))]; rfl
  | false =>
    have hn : ¬ (a = b ∨ pFar P a b = 0 ∨ false = true) := by
      rintro (h | h | h)
      · exact h1 h
      · exact h2 h
      · exact absurd h (by decide)
    rw [if_neg (c := a = b ∨ _) hn, decide_eq_true ⟨h1, h2, rfl⟩]; rfl
/-- rows ahead of (a, b) -/
def mLg (S : zSt) (P : zP) (a b : Nat) : Prop := ∀ x y, x < pN P → y < pN P → (x < a ∨ (x = a ∧ y < b)) → zI S 89 (9 * x + y) = nI (pLeg P (pLaw P) x y) ∧ zI S 90 (9 * x + y) = nI (pD0 P (pLaw P) x y)
theorem lays_49 (fu : Nat) (hP : pOK P) (k2 : Int32 → zSt → Option zSt) (k12 : Int32 → Int32 → zSt → Option zSt) {S : zSt} {a b : Nat} (ha : a < pN P) (hb : b < pN P) (hL : mLg S P a b) : ∃ S', f_M_laysSoon_49 fu k2 k12 (nI a) (nI b) (nI (pLeg P (pLaw P) a b)) (nI (9 * a + b)) S = k12 (nI a) (nI (b + 1)) S' ∧ zCo S S' ∧ mLg S' P a (b + 1) := by
  have h9 := hP.1
  have hD0 : pD0 P (pLaw P) a b = if a = b then 0 else pLeg P (pLaw P) a b := rfl
  have c57 : zCo S (zwI S 89 (9 * a + b) (nI (pLeg P (pLaw P) a b))) := zCo_w S _ (by unfold scI; omega)
  have L : ∀ v, v = nI (pD0 P (pLaw P) a b) → mLg (zwI (zwI S 89 (9 * a + b) (nI (pLeg P (pLaw P) a b))) 90 (9 * a + b) v) P a (b + 1) := by
    intro v hv x' y hx' hy hxy
    by_cases e : x' = a ∧ y = b
    · rw [e.1, e.2]
      exact ⟨by rw [qIIo _ _ (by omega), qIIs], by rw [qIIs, hv]⟩
    · have := hL x' y hx' hy (by omega)
      exact ⟨by rw [qIIo _ _ (by omega), qIIo _ _ (by omega)]; exact this.1, by rw [qIIo _ _ (by omega), qIIo _ _ (by omega)]; exact this.2⟩
  unfold f_M_laysSoon_49
  rw [n_gd (by omega) (by omega), qb1 (m_pair (by omega) (by omega)), q_cl (by omega)]
  by_cases hab : a = b
  · rw [if_pos (by rw [hab]), qgd ⟨n_0 (by omega), by omega⟩, n_1]
    exact ⟨_, rfl, zCo_t c57 (zCo_w _ _ (by unfold scI; omega)), L 0 (by rw [hD0, if_pos hab]; rfl)⟩
  · rw [if_neg (fun h => hab ((n_eq (by omega) (by omega)).mp h)), qb1 (m_pair (by omega) (by omega)), q_cl (by omega), qgd ⟨n_0 (by omega), by omega⟩, qgd ⟨n_0 (by omega), by omega⟩, n_1, qIIs]
    exact ⟨_, rfl, zCo_t c57 (zCo_w _ _ (by unfold scI; omega)), L _ (by rw [hD0, if_neg hab])⟩
theorem lays_12 (fu : Nat) (hfu : 500 ≤ fu) (hP : pOK P) (k2 : Int32 → zSt → Option zSt) {a : Nat} (ha : a < pN P) : ∀ (m b : Nat) (S : zSt), b ≤ pN P → pN P < m + b → mRep S 74 0 P → mLg S P a b → ∃ S', f_M_laysSoon_12 fu k2 m (nI a) (nI b) S = k2 (nI (a + 1)) S' ∧ zCo S S' ∧ mLg S' P (a + 1) 0 := by
  have h9 := hP.1
  intro m
  induction m with
  | zero => intro b S h1 h2; omega
  | succ m ih =>
    intro b S h1 h2 h hL
    rw [f_M_laysSoon_12, qb1 (m_many h)]
    by_cases hb : b = pN P
    · rw [if_pos ((n_le (by omega) (by omega)).mpr (by omega)), n_1]
      exact ⟨S, rfl, zCo_r S, fun x y hx hy hxy => hL x y hx hy (by omega)⟩
    · rw [if_neg (fun h => absurd ((n_le (by omega) (by omega)).mp h) (by omega)), qb1 (m_pair (by omega) (by omega))]
      obtain ⟨S1, e1, f1⟩ := m_passed fu hfu h hP ha (by omega : b < pN P)
      have hm1 := mRep_co h f1.1 (Or.inl rfl) hP
      have hL1 : ∀ S2, (zI S2 89 = zI S 89) → (zI S2 90 = zI S 90) → mLg S2 P a b := by
        intro S2 r1 r2
        unfold mLg
        rw [r1, r2]
        exact hL
      rw [qb2 e1]
      have hleg := leg_of (P := P) (a := a) (b := b) (pLaw P)
      cases hp : pPs P (pLaw P) a b with
      | false =>
        rw [hp, if_neg (by decide)] at hleg
        rw [if_pos (show b2 false = 0 from rfl)]
        obtain ⟨S2, x1, x2, x3⟩ := lays_49 fu hP k2 (f_M_laysSoon_12 fu k2 m) ha (by omega : b < pN P) (hL1 S1 (f1.2 89 (by omega) (by omega)) (f1.2 90 (by omega) (by omega)))
        rw [hleg] at x1
        obtain ⟨S3, y1, y2, y3⟩ := ih (b + 1) S2 (by omega) (by omega) (mRep_co hm1 x2 (Or.inl rfl) hP) x3
        exact ⟨S3, x1.trans y1, zCo_t f1.1 (zCo_t x2 y2), y3⟩
      | true =>
        rw [hp, if_pos rfl] at hleg
        rw [if_neg (show ¬ b2 true = 0 by decide)]
        have hpp := of_decide_eq_true hp
        obtain ⟨S2, e2, c2, f2⟩ := m_takes_for fu hfu hm1 hP ha (by omega : b < pN P) hpp.1
        rw [qb2 e2]
        obtain ⟨v, v1, v2, v3⟩ := takes_rg hP (pLaw P) (by omega : a < 9) (by omega : b < 9) hpp.2.1
        have et : pTl P (pLaw P) 0 a b = nI (pLeg P (pLaw P) a b) := by
          rw [hleg, v3, q_nI (by omega)]
          rfl
        rw [et]
        obtain ⟨S3, x1, x2, x3⟩ := lays_49 fu hP k2 (f_M_laysSoon_12 fu k2 m) ha (by omega : b < pN P) (hL1 S2 ((f2 89 (by omega) (by omega)).trans (f1.2 89 (by omega) (by omega))) ((f2 90 (by omega) (by omega)).trans (f1.2 90 (by omega) (by omega))))
        obtain ⟨S4, y1, y2, y3⟩ := ih (b + 1) S3 (by omega) (by omega) (mRep_co (mRep_co hm1 c2 (Or.inl rfl) hP) x2 (Or.inl rfl) hP) x3
        exact ⟨S4, x1.trans y1, zCo_t f1.1 (zCo_t c2 (zCo_t x2 y2)), y3⟩
theorem lays_113 (fu : Nat) (hP : pOK P) (k93 : Int32 → zSt → Option zSt) (k103 : Int32 → Int32 → zSt → Option zSt) {k a : Nat} (hk : k < pN P) (ha : a < pN P) : ∀ (m b : Nat) (S : zSt) (D : zD), b ≤ pN P → pN P < m + b → mRep S 74 0 P → rowD S 90 (pN P) D → ∃ S', f_M_laysSoon_113 fu k93 k103 m (nI k) (nI a) (nI b) S = k103 (nI k) (nI (a + 1)) S' ∧ oR 90 S S' ∧ rowD S' 90 (pN P) (fB k a (pN P - b) b D) := by
  have h9 := hP.1
  intro m
  induction m with
  | zero => intro b S D h1 h2; omega
  | succ m ih =>
    intro b S D h1 h2 h h4
    rw [f_M_laysSoon_113, qb1 (m_many h)]
    by_cases hb : b = pN P
    · rw [if_pos ((n_le (by omega) (by omega)).mpr (by omega)), n_1, hb, Nat.sub_self]
      exact ⟨S, rfl, oR_r _ _, h4⟩
    · obtain ⟨d1, d2⟩ := h4 a k ha hk
      obtain ⟨d3, d4⟩ := h4 k b hk (by omega)
      obtain ⟨d5, d6⟩ := h4 a b ha (by omega)
      have l := n_le (a := D a k + D k b) (b := D a b) (by omega) (by omega)
      have eL : f_M_lesser (nI (D a b)) (nI (D a k + D k b)) = some (nI (min (D a b) (D a k + D k b))) := by
        unfold f_M_lesser
        by_cases hs : D a k + D k b ≤ D a b
        · rw [if_pos (l.mpr hs), Nat.min_eq_right hs]
        · rw [if_neg (fun h => hs (l.mp h)), Nat.min_eq_left (by omega)]
      rw [if_neg (fun h => absurd ((n_le (by omega) (by omega)).mp h) (by omega)), qb1 (m_pair (by omega) (by omega)), qb1 (m_pair (by omega) (by omega)), n_gd (by omega) (by omega), qb1 (m_pair (by omega) (by omega)), n_gd (by omega) (by omega), qb1 (m_pair (by omega) (by omega)), n_gd (by omega) (by omega), q_cl (by omega), q_cl (by omega), q_cl (by omega), d1, d3, d5, n_add, qb1 eL, qgd ⟨n_0 (by omega), by omega⟩, n_1]
      have eF : fB k a (pN P - b) b D = fB k a (pN P - (b + 1)) (b + 1) (fUp D k a b) := by
        rw [show pN P - b = (pN P - (b + 1)) + 1 by omega]
        rfl
      rw [eF]
      have hw := rowD_up h9 h4 (k := k) (a := a) (b := b) hk ha (by omega)
      have o1 := oR_w 90 S (9 * a + b) (nI (min (D a b) (D a k + D k b)))
      obtain ⟨S', x1, x2, x3⟩ := ih (b + 1) _ _ (by omega) (by omega) (mRep_co h (oR_co o1 (fun k => by unfold scI; omega)) (Or.inl rfl) hP) hw
      exact ⟨S', x1, oR_t o1 x2, x3⟩
theorem lays_103 (fu : Nat) (hfu : 100 ≤ fu) (hP : pOK P) (k93 : Int32 → zSt → Option zSt) {k : Nat} (hk : k < pN P) : ∀ (m a : Nat) (S : zSt) (D : zD), a ≤ pN P → pN P < m + a → mRep S 74 0 P → rowD S 90 (pN P) D → ∃ S', f_M_laysSoon_103 fu k93 m (nI k) (nI a) S = k93 (nI (k + 1)) S' ∧ oR 90 S S' ∧ rowD S' 90 (pN P) (fA (pN P) k (pN P - a) a D) := by
  have h9 := hP.1
  intro m
  induction m with
  | zero => intro a S D h1 h2; omega
  | succ m ih =>
    intro a S D h1 h2 h h4
    rw [f_M_laysSoon_103, qb1 (m_many h)]
    by_cases ha : a = pN P
    · rw [if_pos ((n_le (by omega) (by omega)).mpr (by omega)), n_1, ha, Nat.sub_self]
      exact ⟨S, rfl, oR_r _ _, h4⟩
    · rw [if_neg (fun h => absurd ((n_le (by omega) (by omega)).mp h) (by omega))]
      obtain ⟨S1, x1, x2, x3⟩ := lays_113 fu hP k93 (f_M_laysSoon_103 fu k93 m) hk (a := a) (by omega) fu 0 S D (by omega) (by omega) h h4
      have x1' : f_M_laysSoon_113 fu k93 (f_M_laysSoon_103 fu k93 m) fu (nI k) (nI a) 0 S = _ := x1
      obtain ⟨S2, y1, y2, y3⟩ := ih (a + 1) S1 _ (by omega) (by omega) (mRep_co h (oR_co x2 (fun k => by unfold scI; omega)) (Or.inl rfl) hP) x3
      refine ⟨S2, x1'.trans y1, oR_t x2 y2, ?_⟩
      have eF : fA (pN P) k (pN P - a) a D = fA (pN P) k (pN P - (a + 1)) (a + 1) (fB k a (pN P) 0 D) := by
        rw [show pN P - a = (pN P - (a + 1)) + 1 by omega]
        rfl
      rw [eF]
      exact y3
theorem lays_93 (fu : Nat) (hfu : 100 ≤ fu) (hP : pOK P) : ∀ (m k : Nat) (S : zSt) (D : zD), k ≤ pN P → pN P < m + k → mRep S 74 0 P → rowD S 90 (pN P) D → ∃ S', f_M_laysSoon_93 fu m (nI k) S = some S' ∧ oR 90 S S' ∧ rowD S' 90 (pN P) (fK (pN P) (pN P - k) k D) := by
  have h9 := hP.1
  intro m
  induction m with
  | zero => intro k S D h1 h2; omega
  | succ m ih =>
    intro k S D h1 h2 h h4
    rw [f_M_laysSoon_93, qb1 (m_many h)]
    by_cases hk : k = pN P
    · rw [if_pos ((n_le (by omega) (by omega)).mpr (by omega)), hk, Nat.sub_self]
      exact ⟨S, rfl, oR_r _ _, h4⟩
    · rw [if_neg (fun h => absurd ((n_le (by omega) (by omega)).mp h) (by omega))]
      obtain ⟨S1, x1, x2, x3⟩ := lays_103 fu hfu hP (f_M_laysSoon_93 fu m) (k := k) (by omega) fu 0 S D (by omega) (by omega) h h4
      have x1' : f_M_laysSoon_103 fu (f_M_laysSoon_93 fu m) fu (nI k) 0 S = _ := x1
      obtain ⟨S2, y1, y2, y3⟩ := ih (k + 1) S1 _ (by omega) (by omega) (mRep_co h (oR_co x2 (fun k => by unfold scI; omega)) (Or.inl rfl) hP) x3
      refine ⟨S2, x1'.trans y1, oR_t x2 y2, ?_⟩
      have eF : fK (pN P) (pN P - k) k D = fK (pN P) (pN P - (k + 1)) (k + 1) (fA (pN P) k (pN P) 0 D) := by
        rw [show pN P - k = (pN P - (k + 1)) + 1 by omega]
        rfl
      rw [eF]
      exact y3
theorem lays_2 (fu : Nat) (hfu : 500 ≤ fu) (hP : pOK P) : ∀ (m a : Nat) (S : zSt), a ≤ pN P → pN P < m + a → mRep S 74 0 P → mLg S P a 0 → ∃ S', f_M_laysSoon_2 fu m (nI a) S = f_M_laysSoon_93 fu fu 0 S' ∧ zCo S S' ∧ mLg S' P (pN P) 0 := by
  have h9 := hP.1
  intro m
  induction m with
  | zero => intro a S h1 h2; omega
  | succ m ih =>
    intro a S h1 h2 h hL
    rw [f_M_laysSoon_2, qb1 (m_many h)]
    by_cases ha : a = pN P
    · rw [if_pos ((n_le (by omega) (by omega)).mpr (by omega))]
      rw [ha] at hL
      exact ⟨S, rfl, zCo_r S, hL⟩
    · rw [if_neg (fun h => absurd ((n_le (by omega) (by omega)).mp h) (by omega))]
      obtain ⟨S1, x1, x2, x3⟩ := lays_12 fu hfu hP (f_M_laysSoon_2 fu m) (a := a) (by omega) fu 0 S (by omega) (by omega) h hL
      have x1' : f_M_laysSoon_12 fu (f_M_laysSoon_2 fu m) fu (nI a) 0 S = _ := x1
      obtain ⟨S2, y1, y2, y3⟩ := ih (a + 1) S1 (by omega) (by omega) (mRep_co h x2 (Or.inl rfl) hP) x3
      exact ⟨S2, x1'.trans y1, zCo_t x2 y2, y3⟩
/-- the reference's rows hold all of it -/
def mPp (S : zSt) (P : zP) : Prop := rowD S 90 (pN P) (pD P (pLaw P)) ∧ ∀ x y, x < pN P → y < pN P → zI S 89 (9 * x + y) = nI (pLeg P (pLaw P) x y)
theorem lays_soon (fu : Nat) (hfu : 500 ≤ fu) (hP : pOK P) {S : zSt} (h : mRep S 74 0 P) : ∃ S', f_M_laysSoon fu S = some S' ∧ zCo S S' ∧ mPp S' P := by
  have h9 := hP.1
  obtain ⟨S1, x1, x2, x3⟩ := lays_2 fu hfu hP fu 0 S (by omega) (by omega) h (fun x y _ _ hxy => by omega)
  have hr0 : rowD S1 90 (pN P) (pD0 P (pLaw P)) := fun a b ha hb => ⟨(x3 a b ha hb (by omega)).2, by
    unfold pD0
    split
    · omega
    · have := pLeg_rg hP (pLaw P) (by omega : a < 9) (by omega : b < 9); omega⟩
  obtain ⟨S2, y1, y2, y3⟩ := lays_93 fu (by omega) hP fu 0 S1 _ (by omega) (by omega) (mRep_co h x2 (Or.inl rfl) hP) hr0
  have x1' : f_M_laysSoon_2 fu fu 0 S = _ := x1
  have y1' : f_M_laysSoon_93 fu fu 0 S1 = _ := y1
  refine ⟨S2, ?_, zCo_t x2 (oR_co y2 (fun k => by unfold scI; omega)), y3, fun a b ha hb => ?_⟩
  · unfold f_M_laysSoon
    rw [x1']
    exact y1'
  · rw [y2.2 89 _ (by omega)]
    exact (x3 a b ha hb (by omega)).1
end MLS

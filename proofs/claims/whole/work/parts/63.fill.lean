/-! how soon, on paper: the class's side -/
abbrev zD : Type := Nat → Nat → Nat
def pThr (P : zP) (law : List lC) (a b : Nat) : Nat := if a = b ∨ pFar P a b = 0 ∨ pBar P law a b = true then 1000000 else (pTl P law 0 a b).toInt.toNat
def pLeg (P : zP) (law : List lC) (a b : Nat) : Nat := if a ≠ b ∧ pSh P a b = true then 1000000 else pThr P law a b
def pD0 (P : zP) (law : List lC) (a b : Nat) : Nat := if a = b then 0 else pLeg P law a b
theorem takes_rg {P : zP} (hP : pOK P) (law : List lC) {a b : Nat} (ha : a < 9) (hb : b < 9) (h : pFar P a b ≠ 0) : ∃ v : Nat, 1 ≤ v ∧ v ≤ 99 ∧ pTl P law 0 a b = nI v := by
  unfold pTl
  cases lTell 0 (eC P a b) law with
  | some v => exact ⟨clN 1 99 v, (clN_rg (by omega) v).1, (clN_rg (by omega) v).2, rfl⟩
  | none =>
    obtain ⟨v, hv, he⟩ := hP.2.2.2.1 a b ha hb
    refine ⟨v, ?_, by omega, he⟩
    refine Nat.pos_of_ne_zero (fun h0 => h ?_)
    rw [he, h0]; rfl
theorem pThr_rg {P : zP} (hP : pOK P) (law : List lC) {a b : Nat} (ha : a < 9) (hb : b < 9) : 1 ≤ pThr P law a b ∧ (pThr P law a b ≤ 99 ∨ pThr P law a b = 1000000) := by
  unfold pThr
  by_cases h : a = b ∨ pFar P a b = 0 ∨ pBar P law a b = true
  · rw [if_pos h]; omega
  · rw [if_neg h]
    obtain ⟨v, h1, h2, h3⟩ := takes_rg hP law ha hb (fun h2 => h (Or.inr (Or.inl h2)))
    rw [h3, q_nI (by omega)]; omega
theorem pLeg_rg {P : zP} (hP : pOK P) (law : List lC) {a b : Nat} (ha : a < 9) (hb : b < 9) : 1 ≤ pLeg P law a b ∧ (pLeg P law a b ≤ 99 ∨ pLeg P law a b = 1000000) := by
  unfold pLeg
  split
  · omega
  · exact pThr_rg hP law ha hb
def fUp (D : zD) (k a b : Nat) : zD := fun x y => if x = a ∧ y = b then min (D a b) (D a k + D k b) else D x y
def fB (k a : Nat) : Nat → Nat → zD → zD
  | 0, _, D => D
  | m + 1, b, D => fB k a m (b + 1) (fUp D k a b)
def fA (n k : Nat) : Nat → Nat → zD → zD
  | 0, _, D => D
  | m + 1, a, D => fA n k m (a + 1) (fB k a n 0 D)
def fK (n : Nat) : Nat → Nat → zD → zD
  | 0, _, D => D
  | m + 1, k, D => fK n m (k + 1) (fA n k n 0 D)
def pD (P : zP) (law : List lC) : zD := fK (pN P) (pN P) 0 (pD0 P law)
/-- the row r holds D -/
def rowD (S : zSt) (r n : Nat) (D : zD) : Prop := ∀ a b, a < n → b < n → zI S r (9 * a + b) = nI (D a b) ∧ D a b ≤ 1000000
/-- one row alone is written -/
def oR (r : Nat) (S S' : zSt) : Prop := S'.2 = S.2 ∧ ∀ j k, j ≠ r → zI S' j k = zI S j k
theorem oR_r (r : Nat) (S : zSt) : oR r S S := ⟨rfl, fun _ _ _ => rfl⟩
theorem oR_t {r : Nat} {S S' S'' : zSt} (h : oR r S S') (h2 : oR r S' S'') : oR r S S'' := ⟨h2.1.trans h.1, fun j k a => (h2.2 j k a).trans (h.2 j k a)⟩
theorem oR_w (r : Nat) (S : zSt) (k : Nat) (v : Int32) : oR r S (zwI S r k v) := ⟨rfl, fun j k' a => qIIo _ _ (by omega)⟩
theorem oR_co {r : Nat} {S S' : zSt} (h : oR r S S') (hr : ∀ k, scI r k) : zCo S S' := by
  have e : S'.2.2 = S.2.2 := by rw [h.1]
  refine ⟨e, fun j k a => ?_, fun j k a => ?_⟩
  · by_cases hj : j = r
    · exact absurd (hj ▸ hr k) a
    · exact h.2 j k hj
  · show S'.2.1 j k = S.2.1 j k
    rw [h.1]
theorem rowD_up {S : zSt} {r n : Nat} (hn : n ≤ 9) {D : zD} (h : rowD S r n D) {k a b : Nat} (hk : k < n) (ha : a < n) (hb : b < n) : rowD (zwI S r (9 * a + b) (nI (min (D a b) (D a k + D k b)))) r n (fUp D k a b) := by
  intro x y hx hy
  unfold fUp
  by_cases e : x = a ∧ y = b
  · rw [if_pos e, e.1, e.2, qIIs]
    have := (h a b ha hb).2
    exact ⟨rfl, by omega⟩
  · rw [if_neg e, qIIo _ _ (by omega)]
    exact h x y hx hy
theorem rowD_skip {S : zSt} {r n : Nat} {D : zD} (h : rowD S r n D) {k a b : Nat} (ha : a < n) (hb : b < n) (hs : D a b ≤ D a k + D k b) : rowD S r n (fUp D k a b) := by
  intro x y hx hy
  unfold fUp
  by_cases e : x = a ∧ y = b
  · rw [if_pos e, e.1, e.2, Nat.min_eq_left hs]
    exact h a b ha hb
  · rw [if_neg e]
    exact h x y hx hy
theorem pa_pair {a b : Nat} (ha : a < 9) (hb : b < 9) : f_Pa_pair (nI a) (nI b) = some (nI (9 * a + b)) := by
  unfold f_Pa_pair
  rw [show (9 : Int32) = nI 9 from rfl, n_mul, n_add, Nat.mul_comm]
theorem goBy_12 (fu : Nat) (k2 : Int32 → Int32 → zSt → Option zSt) {n k a : Nat} (hn : n ≤ 9) (hk : k < n) (ha : a < n) : ∀ (m b : Nat) (S : zSt) (D : zD), b ≤ n → n < m + b → zI S 55 0 = nI n → rowD S 58 n D → ∃ S', f_Pa_goBy_12 fu k2 m (nI k) (nI a) (nI b) S = k2 (nI k) (nI (a + 1)) S' ∧ oR 58 S S' ∧ rowD S' 58 n (fB k a (n - b) b D) := by
  intro m
  induction m with
  | zero => intro b S D h1 h2; omega
  | succ m ih =>
    intro b S D h1 h2 h3 h4
    rw [f_Pa_goBy_12, h3]
    by_cases hb : b = n
    · rw [if_pos ((n_le (by omega) (by omega)).mpr (by omega)), n_1, hb, Nat.sub_self]
      exact ⟨S, rfl, oR_r _ _, h4⟩
    · obtain ⟨d1, d2⟩ := h4 a k ha hk
      obtain ⟨d3, d4⟩ := h4 k b hk (by omega)
      obtain ⟨d5, d6⟩ := h4 a b ha (by omega)
      have l := n_le (a := D a b) (b := D a k + D k b) (by omega) (by omega)
      rw [if_neg (fun h => absurd ((n_le (by omega) (by omega)).mp h) (by omega)), qb1 (pa_pair (by omega) (by omega)), n_gd (by omega) (by omega), qb1 (pa_pair (by omega) (by omega)), n_gd (by omega) (by omega), qb1 (pa_pair (by omega) (by omega)), n_gd (by omega) (by omega), q_cl (by omega), q_cl (by omega), q_cl (by omega), d1, d3, d5, n_add]
      have eF : fB k a (n - b) b D = fB k a (n - (b + 1)) (b + 1) (fUp D k a b) := by
        rw [show n - b = (n - (b + 1)) + 1 by omega]
        rfl
      rw [eF]
      by_cases hs : D a b ≤ D a k + D k b
      · rw [if_pos (l.mpr hs), n_1]
        exact ih (b + 1) S _ (by omega) (by omega) h3 (rowD_skip h4 ha (by omega) hs)
      · rw [if_neg (fun h => hs (l.mp h)), qb1 (pa_pair (by omega) (by omega)), n_gd (by omega) (by omega), q_cl (by omega), n_1]
        have hw := rowD_up hn h4 (k := k) (a := a) (b := b) hk ha (by omega)
        rw [Nat.min_eq_right (by omega)] at hw
        obtain ⟨S', x1, x2, x3⟩ := ih (b + 1) _ _ (by omega) (by omega) (by rw [qIIo _ _ (by omega)]; exact h3) hw
        exact ⟨S', x1, oR_t (oR_w 58 S _ _) x2, x3⟩
theorem goBy_2 (fu : Nat) (hfu : 100 ≤ fu) {n k : Nat} (hn : n ≤ 9) (hk : k < n) : ∀ (m a : Nat) (S : zSt) (D : zD), a ≤ n → n < m + a → zI S 55 0 = nI n → rowD S 58 n D → ∃ S', f_Pa_goBy_2 fu m (nI k) (nI a) S = some S' ∧ oR 58 S S' ∧ rowD S' 58 n (fA n k (n - a) a D) := by
  intro m
  induction m with
  | zero => intro a S D h1 h2; omega
  | succ m ih =>
    intro a S D h1 h2 h3 h4
    rw [f_Pa_goBy_2, h3]
    by_cases ha : a = n
    · rw [if_pos ((n_le (by omega) (by omega)).mpr (by omega)), ha, Nat.sub_self]
      exact ⟨S, rfl, oR_r _ _, h4⟩
    · rw [if_neg (fun h => absurd ((n_le (by omega) (by omega)).mp h) (by omega))]
      obtain ⟨S1, x1, x2, x3⟩ := goBy_12 fu (f_Pa_goBy_2 fu m) hn hk (a := a) (by omega) fu 0 S D (by omega) (by omega) h3 h4
      have x1' : f_Pa_goBy_12 fu (f_Pa_goBy_2 fu m) fu (nI k) (nI a) 0 S = _ := x1
      obtain ⟨S2, y1, y2, y3⟩ := ih (a + 1) S1 _ (by omega) (by omega) (by rw [x2.2 55 0 (by omega)]; exact h3) x3
      refine ⟨S2, x1'.trans y1, oR_t x2 y2, ?_⟩
      have eF : fA n k (n - a) a D = fA n k (n - (a + 1)) (a + 1) (fB k a n 0 D) := by
        rw [show n - a = (n - (a + 1)) + 1 by omega]
        rfl
      rw [eF]
      exact y3
theorem fill_174 (fu : Nat) (hfu : 100 ≤ fu) (o : Nat) {n : Nat} (hn : n ≤ 9) : ∀ (m k : Nat) (S : zSt) (D : zD), k ≤ n → n < m + k → zI S 55 0 = nI n → rowD S 58 n D → ∃ S', f_Pa_fill_174 fu o m (nI k) S = some S' ∧ oR 58 S S' ∧ rowD S' 58 n (fK n (n - k) k D) := by
  intro m
  induction m with
  | zero => intro k S D h1 h2; omega
  | succ m ih =>
    intro k S D h1 h2 h3 h4
    rw [f_Pa_fill_174, h3]
    by_cases hk : k = n
    · rw [if_pos ((n_le (by omega) (by omega)).mpr (by omega)), hk, Nat.sub_self]
      exact ⟨S, rfl, oR_r _ _, h4⟩
    · rw [if_neg (fun h => absurd ((n_le (by omega) (by omega)).mp h) (by omega))]
      obtain ⟨S1, x1, x2, x3⟩ := goBy_2 fu hfu hn (k := k) (by omega) fu 0 S D (by omega) (by omega) h3 h4
      have x1' : f_Pa_goBy fu (nI k) S = some S1 := x1
      obtain ⟨S2, y1, y2, y3⟩ := ih (k + 1) S1 _ (by omega) (by omega) (by rw [x2.2 55 0 (by omega)]; exact h3) x3
      rw [qb1 x1', n_1]
      refine ⟨S2, y1, oR_t x2 y2, ?_⟩
      have eF : fK n (n - k) k D = fK n (n - (k + 1)) (k + 1) (fA n k n 0 D) := by
        rw [show n - k = (n - (k + 1)) + 1 by omega]
        rfl
      rw [eF]
      exact y3
/-- the legs are laid for all pairs ahead of (a, b) -/
def zLg (S : zSt) (P : zP) (law : List lC) (a b : Nat) : Prop := zI S 55 0 = nI (pN P) ∧ ∀ x y, x < pN P → y < pN P → (x < a ∨ (x = a ∧ y < b)) → zI S 56 (9 * x + y) = nI (pThr P law x y) ∧ zI S 57 (9 * x + y) = nI (pLeg P law x y) ∧ zI S 58 (9 * x + y) = nI (pD0 P law x y)
section CFL
variable {P : zP} {law : List lC} {o : Nat}
theorem fill_one (fu : Nat) (hfu : 1000 ≤ fu) (hP : pOK P) (ho : o < 39) (hG : lawG law) {x : Option Nat} (k8 : Option Nat → Int32 → zSt → Option zSt) (k20 : Option Nat → Int32 → Int32 → zSt → Option zSt) {S : zSt} {a b : Nat} (h : cRep S o P) (hT : zT7 S) (hx : zLw S x law) (h98 : ∀ t, x = some t → 98 ≤ t) (ha : a < pN P) (hb : b < pN P) (hL : zLg S P law a b) :
    ∃ S', zb1 (f_Ps_pairOf o (nI a) (nI b) S) (fun r3 => zb1 (f_Ps_farOf o r3 S) (fun r5 => if r5 = 0 then f_Pa_fill_68 fu o k8 k20 x (nI a) (nI b) r3 (1 : Int32) S else zb2 (f_As_told fu o x (3 : Int32) (nI a) (nI b) S) (fun r8 S9 => if r8 = (1 : Int32) then f_Pa_fill_68 fu o k8 k20 x (nI a) (nI b) r3 (1 : Int32) S9 else f_Pa_fill_68 fu o k8 k20 x (nI a) (nI b) r3 (0 : Int32) S9))) = k20 x (nI a) (nI (b + 1)) S' ∧ zCo S S' ∧ zLg S' P law a (b + 1) := by
  have h9 := hP.1
  -- the end: three cells are written
  have FIN : ∀ (S1 : zSt) (r3 : Int32) (sh : Bool), zCo S S1 → (∀ j, 55 ≤ j → j ≤ 58 → zI S1 j = zI S j) → (∀ S2, zCo S S2 → f_Ps_isShut o r3 S2 = some (b2 sh)) → pLeg P law a b = (if sh = true then 1000000 else pThr P law a b) → ∃ S', f_Pa_fill_91 fu o k8 k20 x (nI a) (nI b) r3 (nI (pThr P law a b)) S1 = k20 x (nI a) (nI (b + 1)) S' ∧ zCo S S' ∧ zLg S' P law a (b + 1) := by
    intro S1 r3 sh hc hr hsh hleg
    have c56 : zCo S (zwI S1 56 (9 * a + b) (nI (pThr P law a b))) := zCo_t hc (zCo_w _ _ (by unfold scI; omega))
    have hD0 : pD0 P law a b = if a = b then 0 else pLeg P law a b := rfl
    have key : ∀ k0, k0 = nI (pLeg P law a b) → ∃ S', f_Pa_fill_133 fu o k8 k20 x (nI a) (nI b) (nI (9 * a + b)) k0 (nI (9 * a + b)) (zwI S1 56 (9 * a + b) (nI (pThr P law a b))) = k20 x (nI a) (nI (b + 1)) S' ∧ zCo S S' ∧ zLg S' P law a (b + 1) := by
      intro k0 hk0
      have c57 : zCo S (zwI (zwI S1 56 (9 * a + b) (nI (pThr P law a b))) 57 (9 * a + b) k0) := zCo_t c56 (zCo_w _ _ (by unfold scI; omega))
      have L : ∀ v, v = nI (pD0 P law a b) → zLg (zwI (zwI (zwI S1 56 (9 * a + b) (nI (pThr P law a b))) 57 (9 * a + b) k0) 58 (9 * a + b) v) P law a (b + 1) := by
        intro v hv
        refine ⟨?_, fun x' y hx' hy hxy => ?_⟩
        · rw [qIIo _ _ (by omega), qIIo _ _ (by omega), qIIo _ _ (by omega), hr 55 (by omega) (by omega)]
          exact hL.1
        · by_cases e : x' = a ∧ y = b
          · rw [e.1, e.2]
            refine ⟨?_, ?_, ?_⟩
            · rw [qIIo _ _ (by omega), qIIo _ _ (by omega), qIIs]
            · rw [qIIo _ _ (by omega), qIIs, hk0]
            · rw [qIIs, hv]
          · have := hL.2 x' y hx' hy (by omega)
            refine ⟨?_, ?_, ?_⟩
            · rw [qIIo _ _ (by omega), qIIo _ _ (by omega), qIIo _ _ (by omega), hr 56 (by omega) (by omega)]; exact this.1
            · rw [qIIo _ _ (by omega), qIIo _ _ (by omega), qIIo _ _ (by omega), hr 57 (by omega) (by omega)]; exact this.2.1
            · rw [qIIo _ _ (by omega), qIIo _ _ (by omega), qIIo _ _ (by omega), hr 58 (by omega) (by omega)]; exact this.2.2
      unfold f_Pa_fill_133
      rw [n_gd (by omega) (by omega), q_cl (by omega)]
      by_cases hab : a = b
      · rw [if_pos (by rw [hab]), qgd ⟨n_0 (by omega), by omega⟩, n_1]
        exact ⟨_, rfl, zCo_t c57 (zCo_w _ _ (by unfold scI; omega)), L 0 (by rw [hD0, if_pos hab]; rfl)⟩
      · rw [if_neg (fun h => hab ((n_eq (by omega) (by omega)).mp h)), qgd ⟨n_0 (by omega), by omega⟩, qgd ⟨n_0 (by omega), by omega⟩, n_1, qIIs]
        exact ⟨_, rfl, zCo_t c57 (zCo_w _ _ (by unfold scI; omega)), L k0 (by rw [hD0, if_neg hab]; exact hk0)⟩
    unfold f_Pa_fill_91
    rw [qb1 (pa_pair (by omega) (by omega)), n_gd (by omega) (by omega), q_cl (by omega), qb1 (hsh _ c56)]
    cases sh with
    | false =>
      rw [if_pos (show b2 false = 0 from rfl)]
      exact key _ (by rw [hleg]; rfl)
    | true =>
      rw [if_neg (show ¬ b2 true = 0 by decide)]
      exact key _ (by rw [hleg]; rfl)
  by_cases hab : a = b
  · rw [hab, qb1 (pair_eq _), qb1 (far_no S o), if_pos rfl]
    unfold f_Pa_fill_68
    rw [if_neg (by decide)]
    have ht : pThr P law b b = 1000000 := by unfold pThr; rw [if_pos (Or.inl rfl)]
    have := FIN S (-1) false (zCo_r S) (fun _ _ _ => rfl) (fun S2 _ => shut_no S2 o) (by unfold pLeg; rw [if_neg (fun h => h.1 hab)]; rfl)
    rw [hab, ht] at this
    exact this
  · rw [qb1 (pair_yes h hP ha hb hab), qb1 (far_yes h (by omega) (by omega) hab)]
    have hSH : ∀ S2, zCo S S2 → f_Ps_isShut o (nI (pq a b)) S2 = some (b2 (pSh P a b)) := fun S2 hc => shut_yes (cRep_co h hc ho) (by omega) (by omega) hab
    have hLeg : pLeg P law a b = (if pSh P a b = true then 1000000 else pThr P law a b) := by
      unfold pLeg
      by_cases hs : pSh P a b = true
      · rw [if_pos ⟨hab, hs⟩, if_pos hs]
      · rw [if_neg (fun h => hs h.2), if_neg hs]
    by_cases hf : pFar P a b = 0
    · rw [if_pos hf]
      unfold f_Pa_fill_68
      rw [if_neg (by decide)]
      have ht : pThr P law a b = 1000000 := by unfold pThr; rw [if_pos (Or.inr (Or.inl hf))]
      have := FIN S (nI (pq a b)) (pSh P a b) (zCo_r S) (fun _ _ _ => rfl) hSH hLeg
      rw [ht] at this
      exact this
    · rw [if_neg hf]
      obtain ⟨S1, e1, c1, f1⟩ := told_ch fu hfu h hP ho hT hx h98 (k := 3) (by omega) (by omega) ha hb hab
      have e1' : f_As_told fu o x 3 (nI a) (nI b) S = some (b2 (pBar P law a b), S1) := by
        rw [← pTl_bar hG]; exact e1
      have r1 : ∀ j, 55 ≤ j → j ≤ 58 → zI S1 j = zI S j := fun j _ _ => f1 j (by omega)
      rw [qb2 e1']
      cases hbar : pBar P law a b with
      | true =>
        rw [if_pos (show b2 true = 1 from rfl)]
        unfold f_Pa_fill_68
        rw [if_neg (by decide)]
        have ht : pThr P law a b = 1000000 := by unfold pThr; rw [if_pos (Or.inr (Or.inr hbar))]
        have := FIN S1 (nI (pq a b)) (pSh P a b) c1 r1 hSH hLeg
        rw [ht] at this
        exact this
      | false =>
        rw [if_neg (show ¬ b2 false = 1 by decide)]
        unfold f_Pa_fill_68
        rw [if_pos rfl]
        obtain ⟨S2, e2, c2, f2⟩ := told_ch fu hfu (cRep_co h c1 ho) hP ho (zT7_co hT c1) (zLw_co hx h98 c1) h98 (k := 0) (by omega) (by omega) ha hb hab
        have e2' : f_As_told fu o x 0 (nI a) (nI b) S1 = _ := e2
        rw [qb2 e2']
        obtain ⟨v, v1, v2, v3⟩ := takes_rg hP law (by omega : a < 9) (by omega : b < 9) hf
        have ht : pTl P law 0 a b = nI (pThr P law a b) := by
          unfold pThr
          rw [if_neg, v3, q_nI (by omega)]
          · rfl
          · rintro (h | h | h)
            · exact hab h
            · exact hf h
            · rw [hbar] at h; exact absurd h (by decide)
        rw [ht]
        exact FIN S2 (nI (pq a b)) (pSh P a b) (zCo_t c1 c2) (fun j _ _ => (f2 j (by omega)).trans (f1 j (by omega))) hSH hLeg
theorem fill_20 (fu : Nat) (hfu : 1000 ≤ fu) (hP : pOK P) (ho : o < 39) (hG : lawG law) {x : Option Nat} (k8 : Option Nat → Int32 → zSt → Option zSt) {a : Nat} (ha : a < pN P) (h98 : ∀ t, x = some t → 98 ≤ t) : ∀ (m b : Nat) (S : zSt), b ≤ pN P → pN P < m + b → cRep S o P → zT7 S → zLw S x law → zLg S P law a b → ∃ S', f_Pa_fill_20 fu o k8 m x (nI a) (nI b) S = k8 x (nI (a + 1)) S' ∧ zCo S S' ∧ zLg S' P law (a + 1) 0 := by
  have h9 := hP.1
  intro m
  induction m with
  | zero => intro b S h1 h2; omega
  | succ m ih =>
    intro b S h1 h2 h hT hx hL
    rw [f_Pa_fill_20, hL.1]
    by_cases hb : b = pN P
    · rw [if_pos ((n_le (by omega) (by omega)).mpr (by omega)), n_1]
      exact ⟨S, rfl, zCo_r S, hL.1, fun x y hx hy hxy => hL.2 x y hx hy (by omega)⟩
    · rw [if_neg (fun h => absurd ((n_le (by omega) (by omega)).mp h) (by omega))]
      obtain ⟨S1, x1, x2, x3⟩ := fill_one fu hfu hP ho hG k8 (f_Pa_fill_20 fu o k8 m) h hT hx h98 ha (by omega) hL
      obtain ⟨S2, y1, y2, y3⟩ := ih (b + 1) S1 (by omega) (by omega) (cRep_co h x2 ho) (zT7_co hT x2) (zLw_co hx h98 x2) x3
      exact ⟨S2, x1.trans y1, zCo_t x2 y2, y3⟩
theorem fill_8 (fu : Nat) (hfu : 1000 ≤ fu) (hP : pOK P) (ho : o < 39) (hG : lawG law) {x : Option Nat} (h98 : ∀ t, x = some t → 98 ≤ t) : ∀ (m a : Nat) (S : zSt), a ≤ pN P → pN P < m + a → cRep S o P → zT7 S → zLw S x law → zLg S P law a 0 → ∃ S', f_Pa_fill_8 fu o m x (nI a) S = f_Pa_fill_174 fu o fu 0 S' ∧ zCo S S' ∧ zLg S' P law (pN P) 0 := by
  have h9 := hP.1
  intro m
  induction m with
  | zero => intro a S h1 h2; omega
  | succ m ih =>
    intro a S h1 h2 h hT hx hL
    rw [f_Pa_fill_8, hL.1]
    by_cases ha : a = pN P
    · rw [if_pos ((n_le (by omega) (by omega)).mpr (by omega))]
      rw [ha] at hL
      exact ⟨S, rfl, zCo_r S, hL⟩
    · rw [if_neg (fun h => absurd ((n_le (by omega) (by omega)).mp h) (by omega))]
      obtain ⟨S1, x1, x2, x3⟩ := fill_20 fu hfu hP ho hG (f_Pa_fill_8 fu o m) (a := a) (by omega) h98 fu 0 S (by omega) (by omega) h hT hx hL
      have x1' : f_Pa_fill_20 fu o (f_Pa_fill_8 fu o m) fu x (nI a) 0 S = _ := x1
      obtain ⟨S2, y1, y2, y3⟩ := ih (a + 1) S1 (by omega) (by omega) (cRep_co h x2 ho) (zT7_co hT x2) (zLw_co hx h98 x2) x3
      exact ⟨S2, x1'.trans y1, zCo_t x2 y2, y3⟩
/-- the paper holds all of it -/
def zPp (S : zSt) (P : zP) (law : List lC) : Prop := zI S 55 0 = nI (pN P) ∧ rowD S 58 (pN P) (pD P law) ∧ ∀ x y, x < pN P → y < pN P → zI S 56 (9 * x + y) = nI (pThr P law x y) ∧ zI S 57 (9 * x + y) = nI (pLeg P law x y)
theorem take_is {S : zSt} (hP : pOK P) (h : cRep S o P) : f_Pa_take o S = some (zwI S 55 0 (nI (pN P))) := by
  have h9 := hP.1
  unfold f_Pa_take
  rw [h.1]
  by_cases h2 : (9 : Int32) ≤ nI (pN P)
  · have := (n_le (a := 9) (by omega) (by omega)).mp h2
    rw [if_pos h2, show pN P = 9 by omega]
    rfl
  · rw [if_neg h2]
theorem fill_is2 (fu : Nat) (hfu : 1000 ≤ fu) (hP : pOK P) (ho : o < 39) (hG : lawG law) {x : Option Nat} (h98 : ∀ t, x = some t → 98 ≤ t) {S : zSt} (h : cRep S o P) (hT : zT7 S) (hx : zLw S x law) : ∃ S', f_Pa_fill fu o x S = some S' ∧ zCo S S' ∧ zPp S' P law := by
  have h9 := hP.1
  have c0 : zCo S (zwI S 55 0 (nI (pN P))) := zCo_w S _ (by unfold scI; omega)
  obtain ⟨S1, x1, x2, x3⟩ := fill_8 fu hfu hP ho hG h98 fu 0 (zwI S 55 0 (nI (pN P))) (by omega) (by omega) (cRep_co h c0 ho) (zT7_co hT c0) (zLw_co hx h98 c0) ⟨qIIs _ _ _ _, fun x y _ _ hxy => by omega⟩
  have hr0 : rowD S1 58 (pN P) (pD0 P law) := fun a b ha hb => ⟨(x3.2 a b ha hb (by omega)).2.2, by
    unfold pD0
    split
    · omega
    · have := pLeg_rg hP law (by omega : a < 9) (by omega : b < 9); omega⟩
  obtain ⟨S2, y1, y2, y3⟩ := fill_174 fu (by omega) o h9 fu 0 S1 _ (by omega) (by omega) x3.1 hr0
  have y1' : f_Pa_fill_174 fu o fu 0 S1 = some S2 := y1
  have x1' : f_Pa_fill_8 fu o fu x 0 (zwI S 55 0 (nI (pN P))) = _ := x1
  refine ⟨S2, ?_, zCo_t (zCo_t c0 x2) (oR_co y2 (fun k => by unfold scI; omega)), ?_, y3, fun a b ha hb => ?_⟩
  · unfold f_Pa_fill
    rw [qb1 (take_is hP h), x1']
    exact y1'
  · rw [y2.2 55 0 (by omega)]; exact x3.1
  · rw [y2.2 56 _ (by omega), y2.2 57 _ (by omega)]
    have := x3.2 a b ha hb (by omega)
    exact ⟨this.1, this.2.1⟩
theorem fill_paper (fu : Nat) (hfu : 1000 ≤ fu) (hP : pOK P) (hG : lawG (pLaw P)) {S : zSt} (h : cRep S 1 P) (hT : zT7 S) : ∃ S', f_E_fillPaper fu S = some S' ∧ zCo S S' ∧ zPp S' P (pLaw P) := by
  obtain ⟨x, h1, h2, h3⟩ := law_force h hP
  obtain ⟨S1, x1, x2, x3⟩ := fill_is2 fu hfu hP (by omega) hG h3 h hT h2
  refine ⟨S1, ?_, x2, x3⟩
  unfold f_E_fillPaper
  rw [qb1 h1, qb1 x1]
end CFL

/-! how soon: what holds of the fewest days -/
def dM (D : zD) (k : Nat) : zD := fun x y => min (D x y) (D x k + D k y)
theorem fB_is {n k a : Nat} {D : zD} (hk : k < n) (ha : a < n) (h0 : D k k = 0) : ∀ (m b : Nat) (X : zD), b + m = n → (∀ x y, x < n → y < n → X x y = if x < a ∨ (x = a ∧ y < b) then dM D k x y else D x y) → ∀ x y, x < n → y < n → fB k a m b X x y = if x < a + 1 then dM D k x y else D x y := by
  intro m
  induction m with
  | zero =>
    intro b X hb hX x y hx hy
    show X x y = _
    rw [hX x y hx hy]
    by_cases h : x < a + 1
    · rw [if_pos h, if_pos (by omega)]
    · rw [if_neg h, if_neg (by omega)]
  | succ m ih =>
    intro b X hb hX x y hx hy
    show fB k a m (b + 1) (fUp X k a b) x y = _
    refine ih (b + 1) (fUp X k a b) (by omega) (fun x y hx hy => ?_) x y hx hy
    have e1 : X a b = D a b := by rw [hX a b ha (by omega), if_neg (by omega)]
    have e2 : X a k = D a k := by
      rw [hX a k ha hk]
      split
      · unfold dM; rw [h0]; omega
      · rfl
    have e3 : X k b = D k b := by
      rw [hX k b hk (by omega)]
      split
      · unfold dM; rw [h0]; omega
      · rfl
    unfold fUp
    by_cases e : x = a ∧ y = b
    · rw [if_pos e, if_pos (by omega), e.1, e.2, e1, e2, e3]
      rfl
    · rw [if_neg e, hX x y hx hy]
      by_cases h : x < a ∨ (x = a ∧ y < b)
      · rw [if_pos h, if_pos (by omega)]
      · rw [if_neg h, if_neg (by omega)]
theorem fA_is {n k : Nat} {D : zD} (hk : k < n) (h0 : D k k = 0) : ∀ (m a : Nat) (X : zD), a + m = n → (∀ x y, x < n → y < n → X x y = if x < a then dM D k x y else D x y) → ∀ x y, x < n → y < n → fA n k m a X x y = dM D k x y := by
  intro m
  induction m with
  | zero =>
    intro a X ha hX x y hx hy
    show X x y = _
    rw [hX x y hx hy, if_pos (by omega)]
  | succ m ih =>
    intro a X ha hX x y hx hy
    show fA n k m (a + 1) (fB k a n 0 X) x y = _
    refine ih (a + 1) _ (by omega) (fun x y hx hy => ?_) x y hx hy
    exact fB_is hk (by omega) h0 n 0 X (by omega) (fun x y hx hy => by
      rw [hX x y hx hy]
      by_cases h : x < a
      · rw [if_pos h, if_pos (Or.inl h)]
      · rw [if_neg h, if_neg (by omega)]) x y hx hy
/-- a walk along legs -/
def wl (L : zD) (n : Nat) : Nat → Nat → Nat → Nat → Prop
  | 0, a, b, len => a = b ∧ len = 0
  | m + 1, a, b, len => ∃ c len', c < n ∧ L a c < 1000000 ∧ len = L a c + len' ∧ wl L n m c b len'
theorem wl_cat {L : zD} {n : Nat} : ∀ (m m' a c b l1 l2 : Nat), wl L n m a c l1 → wl L n m' c b l2 → wl L n (m + m') a b (l1 + l2)
  | 0, m', a, c, b, l1, l2, h1, h2 => by
    obtain ⟨e1, e2⟩ := h1
    rw [e1, e2, Nat.zero_add, Nat.zero_add]
    exact h2
  | m + 1, m', a, c, b, l1, l2, h1, h2 => by
    obtain ⟨x, len', g1, g2, g3, g4⟩ := h1
    rw [show m + 1 + m' = (m + m') + 1 by omega]
    exact ⟨x, len' + l2, g1, g2, by omega, wl_cat m m' x c b len' l2 g4 h2⟩
def fI (L : zD) (n k : Nat) (D : zD) : Prop := (∀ a, a < n → D a a = 0) ∧ (∀ a b, a < n → b < n → a ≠ b → D a b ≤ L a b) ∧ (∀ j, j < k → ∀ a b, a < n → b < n → D a b ≤ D a j + D j b) ∧ ∀ a b, a < n → b < n → D a b < 1000000 → ∃ m, wl L n m a b (D a b)
theorem fI_eq {L D D' : zD} {n k : Nat} (hk : k ≤ n) (h : fI L n k D) (he : ∀ a b, a < n → b < n → D' a b = D a b) : fI L n k D' := by
  obtain ⟨h1, h2, h3, h4⟩ := h
  refine ⟨fun a ha => by rw [he a a ha ha]; exact h1 a ha, fun a b ha hb hab => by rw [he a b ha hb]; exact h2 a b ha hb hab, fun j hj a b ha hb => ?_, fun a b ha hb hd => ?_⟩
  · rw [he a b ha hb, he a j ha (by omega), he j b (by omega) hb]; exact h3 j hj a b ha hb
  · rw [he a b ha hb] at hd ⊢; exact h4 a b ha hb hd
theorem fI_step {L D : zD} {n k : Nat} (hk : k < n) (h : fI L n k D) : fI L n (k + 1) (dM D k) := by
  obtain ⟨h1, h2, h3, h4⟩ := h
  have k0 := h1 k hk
  refine ⟨fun a ha => ?_, fun a b ha hb hab => ?_, fun j hj a b ha hb => ?_, fun a b ha hb hd => ?_⟩
  · unfold dM; rw [h1 a ha]; omega
  · have := h2 a b ha hb hab
    unfold dM; omega
  · unfold dM
    by_cases e : j = k
    · subst e
      omega
    · have hjn : j < n := by omega
      have t1 := h3 j (by omega) a b ha hb
      have t2 := h3 j (by omega) k b hk hb
      have t3 := h3 j (by omega) a k ha hk
      omega
  · unfold dM at hd ⊢
    by_cases hs : D a b ≤ D a k + D k b
    · rw [Nat.min_eq_left hs] at hd ⊢; exact h4 a b ha hb hd
    · rw [Nat.min_eq_right (by omega)] at hd ⊢
      obtain ⟨m1, w1⟩ := h4 a k ha hk (by omega)
      obtain ⟨m2, w2⟩ := h4 k b hk hb (by omega)
      exact ⟨m1 + m2, wl_cat _ _ _ _ _ _ _ w1 w2⟩
theorem fK_is {L : zD} {n : Nat} : ∀ (m k : Nat) (D : zD), k + m = n → fI L n k D → fI L n n (fK n m k D) := by
  intro m
  induction m with
  | zero =>
    intro k D hk h
    have e : k = n := by omega
    rw [← e]
    rw [e] at h ⊢
    exact h
  | succ m ih =>
    intro k D hk h
    show fI L n n (fK n m (k + 1) (fA n k n 0 D))
    refine ih (k + 1) _ (by omega) (fI_eq (by omega) (fI_step (by omega) h) (fun a b ha hb => ?_))
    exact fA_is (by omega) (h.1 k (by omega)) n 0 D (by omega) (fun x y hx hy => by rw [if_neg (by omega)]) a b ha hb
theorem pD_fI {P : zP} (hP : pOK P) (law : List lC) : fI (pLeg P law) (pN P) (pN P) (pD P law) := by
  have h9 := hP.1
  refine fK_is (pN P) 0 (pD0 P law) (by omega) ⟨fun a _ => if_pos rfl, fun a b _ _ hab => ?_, fun j hj => by omega, fun a b ha hb hd => ?_⟩
  · unfold pD0; rw [if_neg hab]; exact Nat.le_refl _
  · unfold pD0 at hd ⊢
    by_cases e : a = b
    · rw [if_pos e]; exact ⟨0, e, rfl⟩
    · rw [if_neg e] at hd ⊢
      exact ⟨1, b, 0, hb, hd, rfl, rfl, rfl⟩
theorem wl_ge {L D : zD} {n : Nat} (h : fI L n n D) : ∀ (m a b len : Nat), a < n → b < n → wl L n m a b len → D a b ≤ len
  | 0, a, b, len, ha, hb, hw => by
    obtain ⟨e, e2⟩ := hw
    rw [e, h.1 b hb]; omega
  | m + 1, a, b, len, ha, hb, hw => by
    obtain ⟨c, len', g1, g2, g3, g4⟩ := hw
    have i := wl_ge h m c b len' g1 hb g4
    have t := h.2.2.1 c g1 a b ha hb
    by_cases e : a = c
    · rw [e]; omega
    · have := h.2.1 a c ha g1 e
      omega
/-- a next spring on a soonest way -/
theorem fI_next {L D : zD} {n : Nat} (h : fI L n n D) {a b : Nat} (ha : a < n) (hb : b < n) (hab : a ≠ b) (hd : D a b < 1000000) (hL : ∀ x, x < n → L x x = 1000000) : ∃ c, c < n ∧ L a c < 1000000 ∧ L a c + D c b = D a b := by
  obtain ⟨m, hw⟩ := h.2.2.2 a b ha hb hd
  cases m with
  | zero => exact absurd hw.1 hab
  | succ m =>
    obtain ⟨c, len', g1, g2, g3, g4⟩ := hw
    refine ⟨c, g1, g2, ?_⟩
    have i := wl_ge h m c b len' g1 hb g4
    have t := h.2.2.1 c g1 a b ha hb
    have hac : a ≠ c := fun e => by
      have := hL a ha
      rw [e] at this
      rw [e] at g2
      omega
    have := h.2.1 a c ha g1 hac
    omega
theorem pLeg_self (P : zP) (law : List lC) (a : Nat) : pLeg P law a a = 1000000 := by
  unfold pLeg pThr
  rw [if_neg (fun h => h.1 rfl), if_pos (Or.inl rfl)]

/-! the reference's parish is moved; the two journals -/
def mW (S Y : zSt) : Prop := Y.2.2 = S.2.2 ∧ (∀ j k, ¬ scI j k → ¬ (j = 74 ∧ k < 92) → zI Y j k = zI S j k) ∧ ∀ j k, ¬ scL j → zL Y j k = zL S j k
theorem mW_co {S Y : zSt} (h : zCo S Y) : mW S Y := ⟨h.1, fun j k a _ => h.2.1 j k a, fun j k a => h.2.2 j k a⟩
theorem mW_t {S X Y : zSt} (h : mW S X) (h2 : mW X Y) : mW S Y := ⟨h2.1.trans h.1, fun j k a b => (h2.2.1 j k a b).trans (h.2.1 j k a b), fun j k a => (h2.2.2 j k a).trans (h.2.2 j k a)⟩
theorem mW_w {k : Nat} (S : zSt) (v : Int32) (h : k < 92) : mW S (zwI S 74 k v) := ⟨rfl, fun j k' _ b => qIIo _ _ (fun e => b ⟨e.1, by omega⟩), fun _ _ _ => rfl⟩
theorem mRep_mw {S Y : zSt} {P : zP} (h : mRep S 74 0 P) (hP : pOK P) (hW : mW S Y) (m : zMv) (h5 : zI Y 74 0 = nI m.1) (h6 : zI Y 74 91 = nI m.2.1) (hd : ∀ s, s < pN P → zI Y 74 (1 + s) = m.2.2.1 s) (hs : ∀ a b, a < 9 → b < 9 → a ≠ b → zI Y 74 (10 + (9 * a + b)) = b2 (m.2.2.2 a b)) : mRep Y 74 0 (pSet P m) := by
  have K : ∀ k, 92 ≤ k → zI Y 74 k = zI S 74 k := fun k hk => hW.2.1 74 k (by unfold scI; omega) (by omega)
  have hz := h
  unfold mRep at hz
  simp only [Nat.zero_add] at hz
  obtain ⟨g1, g2, g3, g4, g5, g6, g7, g8, g9, g10, g11, g12, g13, g14⟩ := hz
  refine mRep_mk h hP rfl rfl ?_ (fun s hss => ?_) (fun x y hx hy hxy => ?_) hd hs h5 h6 ?_ ?_ rfl (fun k hk => K k (by omega))
  · rw [K _ (by omega)]; exact g1
  · rw [K _ (by omega)]; exact g2 s hss
  · rw [K _ (by omega)]; exact g3 x y hx hy hxy
  · rw [K _ (by omega)]; exact g8
  · rw [K _ (by omega)]; exact g9
/-! the halves of what is kept for undo -/
def jO (P : zP) (es : List (Nat × zMv)) : Prop := es.length ≤ 16 ∧ ∀ (i : Nat) (e : Nat × zMv), es[i]? = some e → e.1 ≤ 3 ∧ pOK (pSet P e.2)
def jC (S : zSt) (P : zP) (es : List (Nat × zMv)) : Prop := zI S 32 0 = nI es.length ∧ ∃ nx : Nat, nx ≤ 16 ∧ zI S 32 1 = nI nx ∧ ∀ (i : Nat) (e : Nat × zMv), es[i]? = some e →
  (zI S 33 ((nx + 31 - i) % 16) = nI e.1 ∧ zI S 34 ((nx + 31 - i) % 16) = nI e.2.1 ∧ zI S 35 ((nx + 31 - i) % 16) = nI e.2.2.1 ∧ (∀ a b, a < 9 → b < 9 → a ≠ b → bL (zL S 36 ((nx + 31 - i) % 16)) (pq a b) = e.2.2.2.2 a b) ∧ (∀ p, 36 ≤ p → bL (zL S 36 ((nx + 31 - i) % 16)) p = false) ∧ ∀ s, s < pN P → nib (zL S 37 ((nx + 31 - i) % 16)) s = e.2.2.2.1 s)
def jM (S : zSt) (P : zP) (es : List (Nat × zMv)) : Prop := zI S 72 32 = nI es.length ∧ ∀ (i : Nat) (e : Nat × zMv), es[i]? = some e →
  (zI S 86 (93 * (es.length - 1 - i)) = nI e.2.1 ∧ (∀ s, s < pN P → zI S 86 (93 * (es.length - 1 - i) + (1 + s)) = e.2.2.2.1 s) ∧ (∀ a b, a < 9 → b < 9 → a ≠ b → zI S 86 (93 * (es.length - 1 - i) + (10 + (9 * a + b))) = b2 (e.2.2.2.2 a b)) ∧ zI S 86 (93 * (es.length - 1 - i) + 91) = nI e.2.2.1 ∧ zI S 86 (93 * (es.length - 1 - i) + 92) = nI e.1)
theorem jRel_is {S : zSt} {P : zP} {es : List (Nat × zMv)} : jRel S P es ↔ jO P es ∧ jC S P es ∧ jM S P es := by
  constructor
  · rintro ⟨h1, h2, h3, nx, h4, h5, h6⟩
    exact ⟨⟨h1, fun i e h => ⟨(h6 i e h).1, (h6 i e h).2.1⟩⟩, ⟨h2, nx, h4, h5, fun i e h => (h6 i e h).2.2.1⟩, h3, fun i e h => (h6 i e h).2.2.2⟩
  · rintro ⟨⟨h1, g1⟩, ⟨h2, nx, h4, h5, g2⟩, h3, g3⟩
    exact ⟨h1, h2, h3, nx, h4, h5, fun i e h => ⟨(g1 i e h).1, (g1 i e h).2, g2 i e h, g3 i e h⟩⟩
theorem jC_f {S S' : zSt} {P : zP} {es : List (Nat × zMv)} (h : jC S P es) (hI : ∀ j, 32 ≤ j → j ≤ 35 → zI S' j = zI S j) (hL : ∀ j, j = 36 ∨ j = 37 → zL S' j = zL S j) : jC S' P es := by
  unfold jC
  rw [hI 32 (by omega) (by omega), hI 33 (by omega) (by omega), hI 34 (by omega) (by omega), hI 35 (by omega) (by omega), hL 36 (by omega), hL 37 (by omega)]
  exact h
theorem jM_f {S S' : zSt} {P : zP} {es : List (Nat × zMv)} (h : jM S P es) (hI : zI S' 86 = zI S 86) (h72 : zI S' 72 32 = zI S 72 32) : jM S' P es := by
  unfold jM
  rw [hI, h72]
  exact h
def pushJ (es : List (Nat × zMv)) (e : Nat × zMv) : List (Nat × zMv) := (e :: es).take 16
theorem push_len {es : List (Nat × zMv)} (e : Nat × zMv) (h : es.length ≤ 16) : (pushJ es e).length = min 16 (es.length + 1) := by
  unfold pushJ
  rw [List.length_take, List.length_cons]
theorem push_get {es : List (Nat × zMv)} {e x : Nat × zMv} {i : Nat} (h : (pushJ es e)[i]? = some x) : i < 16 ∧ ((i = 0 ∧ x = e) ∨ (∃ k, i = k + 1 ∧ es[k]? = some x)) := by
  unfold pushJ at h
  rw [List.getElem?_take] at h
  by_cases c : i < 16
  · rw [if_pos c] at h
    refine ⟨c, ?_⟩
    cases i with
    | zero => exact Or.inl ⟨rfl, (by injection h with h; exact h.symm)⟩
    | succ k => exact Or.inr ⟨k, rfl, h⟩
  · rw [if_neg c] at h; cases h
theorem jO_push {P : zP} {es : List (Nat × zMv)} (h : jO P es) {k : Nat} (hk : k ≤ 3) {m : zMv} (hm : pOK (pSet P m)) : jO P (pushJ es (k, m)) := by
  refine ⟨by rw [push_len _ h.1]; omega, fun i e hie => ?_⟩
  rcases (push_get hie).2 with ⟨-, rfl⟩ | ⟨t, -, ht⟩
  · exact ⟨hk, hm⟩
  · exact h.2 t e ht
/-! the class's journal -/
theorem and15 : ∀ n, n < 40 → nI n &&& 15 = nI (n % 16) := by decide +kernel
theorem jadd_ok {S : zSt} {P : zP} {es : List (Nat × zMv)} (hj : jC S P es) (hl : es.length ≤ 16) {k : Nat} {m : zMv} {x y : Int64} (hx : ∀ a b, a < 9 → b < 9 → a ≠ b → bL x (pq a b) = m.2.2.2 a b) (hx36 : ∀ p, 36 ≤ p → bL x p = false) (hy : ∀ s, s < pN P → nib y s = m.2.2.1 s) :
    ∃ X, f_Jo_add 32 (nI k) (nI m.1) (nI m.2.1) x y S = some X ∧ jC X P (pushJ es (k, m)) ∧ (∀ j, j < 32 ∨ 35 < j → zI X j = zI S j) ∧ (∀ j, j ≠ 36 → j ≠ 37 → zL X j = zL S j) ∧ X.2.2 = S.2.2 := by
  obtain ⟨j1, nx, j2, j3, j4⟩ := hj
  obtain ⟨p, ep⟩ : ∃ p, p = nx % 16 := ⟨_, rfl⟩
  have e15 : nI nx &&& 15 = nI p := by rw [ep]; exact and15 nx (by omega)
  obtain ⟨X1, eX1⟩ : ∃ X1, X1 = zwI (zwL (zwL (zwI (zwI (zwI S 33 p (nI k)) 34 p (nI m.1)) 35 p (nI m.2.1)) 36 p x) 37 p y) 32 1 (nI (p + 1)) := ⟨_, rfl⟩
  have I1 : ∀ j q, zI X1 j q = if j = 32 ∧ q = 1 then nI (p + 1) else if j = 35 ∧ q = p then nI m.2.1 else if j = 34 ∧ q = p then nI m.1 else if j = 33 ∧ q = p then nI k else zI S j q := fun j q => by rw [eX1]; rfl
  have L1 : ∀ j q, zL X1 j q = if j = 37 ∧ q = p then y else if j = 36 ∧ q = p then x else zL S j q := fun j q => by rw [eX1]; rfl
  obtain ⟨X, eX⟩ : ∃ X, X = zwI X1 32 0 (nI (min 16 (es.length + 1))) := ⟨_, rfl⟩
  have IX : ∀ j q, ¬ (j = 32 ∧ q = 0) → zI X j q = zI X1 j q := fun j q h => by rw [eX, qIIo _ _ h]
  have LX : ∀ j q, zL X j q = zL X1 j q := fun j q => by rw [eX]; rfl
  refine ⟨X, ?_, ⟨?_, p + 1, by omega, ?_, fun i e hie => ?_⟩, fun j hj => ?_, fun j h1 h2 => ?_, by rw [eX, eX1]; rfl⟩
  · unfold f_Jo_add
    rw [j3, e15, n_gd (by omega) (by omega), n_gd (by omega) (by omega), n_gd (by omega) (by omega), n_gd (by omega) (by omega), n_gd (by omega) (by omega), q_cl (by omega), n_1]
    have e0 : zI X1 32 0 = nI es.length := by rw [I1, if_neg (by omega), if_neg (by omega), if_neg (by omega), if_neg (by omega)]; exact j1
    have e1 : zwI (zwL (zwL (zwI (zwI (zwI S (32 + 1) p (nI k)) (32 + 2) p (nI m.1)) (32 + 3) p (nI m.2.1)) (32 + 4) p x) (32 + 5) p y) 32 1 (nI (p + 1)) = X1 := by rw [eX1]
    rw [e1, e0]
    by_cases c : es.length = 16
    · rw [if_pos (show (16 : Int32) ≤ nI es.length from (n_le (a := 16) (by omega) (by omega)).mpr (by omega)), eX, show min 16 (es.length + 1) = es.length by omega, zwI_id e0]
    · rw [if_neg (show ¬ (16 : Int32) ≤ nI es.length from fun h => absurd ((n_le (a := 16) (by omega) (by omega)).mp h) (by omega)), n_1, eX, show min 16 (es.length + 1) = es.length + 1 by omega]
  · rw [eX, qIIs, push_len _ hl]
  · rw [IX _ _ (by omega), I1, if_pos ⟨rfl, rfl⟩]
  · obtain ⟨hi, hc⟩ := push_get hie
    rw [LX, LX, IX _ _ (by omega), IX _ _ (by omega), IX _ _ (by omega), L1, L1, I1, I1, I1]
    rcases hc with ⟨rfl, rfl⟩ | ⟨t, rfl, ht⟩
    · have e : (p + 1 + 31 - 0) % 16 = p := by omega
      rw [e]
      simp
      exact ⟨hx, hx36, hy⟩
    · have eh : (p + 1 + 31 - (t + 1)) % 16 = (nx + 31 - t) % 16 := by omega
      have en : ¬ (nx + 31 - t) % 16 = p := by omega
      rw [eh]
      simp only [en, and_false, if_false, show ¬ ((33 : Nat) = 32 ∧ (nx + 31 - t) % 16 = 1) by omega, show ¬ ((34 : Nat) = 32 ∧ (nx + 31 - t) % 16 = 1) by omega, show ¬ ((35 : Nat) = 32 ∧ (nx + 31 - t) % 16 = 1) by omega]
      exact j4 t e ht
  · funext q
    rw [IX _ _ (by omega), I1, if_neg (by omega), if_neg (by omega), if_neg (by omega), if_neg (by omega)]
  · funext q
    rw [LX, L1, if_neg (by omega), if_neg (by omega)]

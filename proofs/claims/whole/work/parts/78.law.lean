/-! law: a text copied into a new object -/
/-- what is older than q stays -/
def nF (q : Nat) (S S' : zSt) : Prop := q ≤ zN S' ∧ ∀ j, j < q → zI S' j = zI S j ∧ zL S' j = zL S j ∧ zR S' j = zR S j ∧ zA S' j = zA S j
theorem nF_r {q : Nat} {S : zSt} (h : q ≤ zN S) : nF q S S := ⟨h, fun _ _ => ⟨rfl, rfl, rfl, rfl⟩⟩
theorem nF_t {q : Nat} {S S' S'' : zSt} (h : nF q S S') (h2 : nF q S' S'') : nF q S S'' := ⟨h2.1, fun j hj => ⟨(h2.2 j hj).1.trans (h.2 j hj).1, (h2.2 j hj).2.1.trans (h.2 j hj).2.1, (h2.2 j hj).2.2.1.trans (h.2 j hj).2.2.1, (h2.2 j hj).2.2.2.trans (h.2 j hj).2.2.2⟩⟩
theorem nF_new {q : Nat} {S X : zSt} (h : nF q S X) (len : Nat) : nF q S (znew X len) := by
  refine ⟨Nat.le_succ_of_le h.1, fun j hj => ?_⟩
  have hne : ¬ j = zN X := by have := h.1; omega
  obtain ⟨a, b, c, d⟩ := h.2 j hj
  refine ⟨?_, ?_, ?_, ?_⟩
  · rw [← a]; funext l; exact if_neg hne
  · rw [← b]; funext l; exact if_neg hne
  · rw [← c]; funext l; exact if_neg hne
  · rw [← d]; exact if_neg hne
theorem nF_wI {q : Nat} {S X : zSt} (h : nF q S X) {i : Nat} (hi : q ≤ i) (k : Nat) (v : Int32) : nF q S (zwI X i k v) := by
  refine ⟨h.1, fun j hj => ?_⟩
  obtain ⟨a, b, c, d⟩ := h.2 j hj
  refine ⟨?_, b, c, d⟩
  rw [← a]; funext l; exact qIIo _ _ (by omega)
theorem nF_wR {q : Nat} {S X : zSt} (h : nF q S X) {i : Nat} (hi : q ≤ i) (k : Nat) (v : Option Nat) : nF q S (zwR X i k v) := by
  refine ⟨h.1, fun j hj => ?_⟩
  obtain ⟨a, b, c, d⟩ := h.2 j hj
  refine ⟨a, b, ?_, d⟩
  rw [← c]; funext l
  exact if_neg (fun e => by omega)
theorem nF_cp {q : Nat} {S X : zSt} (h : nF q S X) (a : Nat) {b : Nat} (hb : q ≤ b) (n : Nat) : nF q S (zcpI X a b n) := by
  refine ⟨h.1, fun j hj => ?_⟩
  obtain ⟨a1, b1, c1, d1⟩ := h.2 j hj
  refine ⟨?_, b1, c1, d1⟩
  rw [← a1]; funext l
  exact if_neg (fun e => by omega)
theorem zK_10 {q : Nat} (h : (q - 98) % 5 = 0) (h2 : 98 ≤ q) : zK q = 10 ∧ zK (q + 1) = 50 ∧ zK (q + 2) = 50 ∧ zK (q + 3) = 50 ∧ zK (q + 4) = 50 := by
  unfold zK
  rw [if_neg (by omega), if_pos h, if_neg (by omega), if_neg (by omega), if_neg (by omega), if_neg (by omega), if_neg (by omega), if_neg (by omega), if_neg (by omega), if_neg (by omega)]
  exact ⟨rfl, rfl, rfl, rfl, rfl⟩
theorem tx_init {S : zSt} {q l : Nat} (hq : q = zN S) (h5 : (q - 98) % 5 = 0) (h98 : 98 ≤ q) (hX : q + 5 ≤ zX) (hl : l ≤ 436) (hSR : zSR S) : ∃ S3, f_Tx_init q (nI l) (znew S 0) = some S3 ∧ nF q S S3 ∧ zN S3 = q + 5 ∧ zA S3 (q + 4) = l ∧ zSR S3 := by
  obtain ⟨k0, k1, k2, k3, k4⟩ := zK_10 h5 h98
  obtain ⟨Z, eZ⟩ : ∃ Z, Z = znew S 0 := ⟨_, rfl⟩
  have hZ : zN Z = q + 1 := by rw [eZ, hq]; rfl
  have fZ : nF q S Z := by rw [eZ]; exact nF_new (nF_r (by omega)) 0
  have main : ∃ S3, f_Tx_init q (nI l) Z = some S3 ∧ nF q S S3 ∧ zA S3 (q + 4) = l := by
    have red : ∀ {c : Prop} [Decidable c] {α : Type} {A : Option α}, c → zgd c A = A := fun h => qgd h
    refine ⟨zwR (znew (zwR (znew (zwR (znew (zwR (znew (zwI (zwI (zwI Z q 1 0) q 2 0) q 3 0) 12) q 4 (some (zN Z))) 12) q 5 (some (zN Z + 1))) 36) q 6 (some (zN Z + 2))) l) q 0 (some (zN Z + 3)), ?_, ?_, ?_⟩
    · unfold f_Tx_init
      rw [hZ, qgd (show q < q + 1 by omega), qgd (show q < q + 1 by omega), qgd (show q < q + 1 by omega), qgd (show zK (q + 1) = 50 ∧ q + 1 < zX from ⟨k1, by omega⟩), qgd (show q < q + 1 + 1 by omega), qgd (show zK (q + 1 + 1) = 50 ∧ q + 1 + 1 < zX from ⟨k2, by omega⟩), qgd (show q < q + 1 + 2 by omega), qgd (show zK (q + 1 + 2) = 50 ∧ q + 1 + 2 < zX from ⟨k3, by omega⟩), qgd (show q < q + 1 + 3 by omega)]
      by_cases h0 : nI l ≤ 0
      · have : l = 0 := by have := (n_le (b := 0) (by omega) (by omega)).mp h0; omega
        rw [if_pos h0, qgd (show zK (q + 1 + 3) = 50 ∧ q + 1 + 3 < zX from ⟨k4, by omega⟩), qgd (show q < q + 1 + 4 by omega), this]
      · rw [if_neg h0, qgd (show zK (q + 1 + 3) = 50 ∧ q + 1 + 3 < zX from ⟨k4, by omega⟩), qgd (show ¬ nI l < 0 ∧ (nI l).toNatClampNeg ≤ 436 from ⟨n_neg (by omega), by rw [q_cl (by omega)]; exact hl⟩), qgd (show q < q + 1 + 4 by omega), q_cl (by omega)]
    · exact nF_wR (nF_new (nF_wR (nF_new (nF_wR (nF_new (nF_wR (nF_new (nF_wI (nF_wI (nF_wI fZ (Nat.le_refl _) _ _) (Nat.le_refl _) _ _) (Nat.le_refl _) _ _) _) (Nat.le_refl _) _ _) _) (Nat.le_refl _) _ _) _) (Nat.le_refl _) _ _) _) (Nat.le_refl _) _ _
    · have e : q + 4 = zN Z + 1 + 1 + 1 := by omega
      exact if_pos e
  obtain ⟨S3, e1, e2, e3⟩ := main
  rw [eZ] at e1
  have hz := zSR_Tx (S := S) (S3 := S3) (x := nI l) hSR (by rw [← hq]; exact ⟨k0, by omega⟩) (by rw [← hq]; exact e1)
  exact ⟨S3, e1, e2, by rw [hz.2, ← hq], e3, hz.1⟩
theorem tx_36 (fu : Nat) {q l : Nat} (hq : 98 ≤ q) (hl : l ≤ 400) : ∀ (m k n : Nat) (X : zSt), k + m = l → m + 1 ≤ n → q ≤ zN X → zA X (q + 4) = l → zA X 51 = 436 → (∀ k', k' < k → zI X (q + 4) k' = zI X 51 k') → ∃ X', f_Tx_copied_36 fu 47 q n (nI l) (nI k) X = f_Tx_copied_68 fu 47 q (nI l) X' ∧ nF q X X' ∧ X'.2 = X.2 ∧ ∀ k', k' < l → zI X' (q + 4) k' = zI X 51 k' := by
  intro m
  induction m with
  | zero =>
    intro k n X h1 h2 hN hA h51 hk
    obtain ⟨n', rfl⟩ : ∃ n', n = n' + 1 := ⟨n - 1, by omega⟩
    refine ⟨X, ?_, nF_r hN, rfl, by rw [← show k = l by omega]; exact hk⟩
    unfold f_Tx_copied_36
    rw [hA, if_pos (show l.toInt32 ≤ nI k from (n_le (a := l) (by omega) (by omega)).mpr (by omega))]
  | succ m ih =>
    intro k n X h1 h2 hN hA h51 hk
    obtain ⟨n', rfl⟩ : ∃ n', n = n' + 1 := ⟨n - 1, by omega⟩
    obtain ⟨X1, g1, g2, g3, g4⟩ := ih (k + 1) n' (zwI X (q + 4) k (zI X 51 k)) (by omega) (by omega) hN hA h51 (fun k' hk' => by
      rw [qIIo (j := 51) _ _ (by omega)]
      by_cases e : k' = k
      · rw [e, qIIs]
      · rw [qIIo _ _ (by omega)]; exact hk k' (by omega))
    refine ⟨X1, ?_, nF_t (nF_wI (nF_r hN) (by omega) _ _) g2, g3, fun k' hk' => by rw [g4 k' hk', qIIo _ _ (by omega)]⟩
    rw [← g1]
    obtain ⟨K, eK⟩ : ∃ K, K = f_Tx_copied_36 fu 47 q n' := ⟨_, rfl⟩
    rw [← eK]
    have e51 : zA X (47 + 4) = 436 := h51
    unfold f_Tx_copied_36
    rw [hA, e51, if_neg (show ¬ l.toInt32 ≤ nI k from fun h => absurd ((n_le (a := l) (by omega) (by omega)).mp h) (by omega)), if_neg (fun h => absurd ((n_le (by omega) (by omega)).mp h) (by omega)), n_gd (by omega) (by omega), n_gd (by omega) (by omega), q_cl (by omega), ← eK, n_1]
theorem zTx_copy {S S' : zSt} {t t' W : Nat} {cls : List xC} (h : zTx S t W cls) {l : Nat} (hl : zI S t 1 = nI l) (hl4 : l ≤ 400) (e1 : zI S' t' 1 = nI l) (e2 : zI S' t' 2 = zI S t 2) (e3 : zI S' t' 3 = zI S t 3) (hA : zA S' (t' + 4) = l) (r1 : ∀ k, k < 12 → zI S' (t' + 1) k = zI S (t + 1) k) (r2 : ∀ k, k < 12 → zI S' (t' + 2) k = zI S (t + 2) k) (r3 : ∀ k, k < 36 → zI S' (t' + 3) k = zI S (t + 3) k) (r4 : ∀ k, k < l → zI S' (t' + 4) k = zI S (t + 4) k) : zTx S' t' W cls := by
  obtain ⟨h1, h2, l', h3, h4, h5, h6, h7, h8, h9⟩ := h
  have el : l' = l := by
    rw [hl] at h3
    exact ((n_eq (by omega) (by omega)).mp h3).symm
  subst el
  refine ⟨e2.trans h1, h2, l', e1, h4, by omega, by omega, fun k a b => ?_, fun j x hx => ?_, fun h0 => h9 (e3.symm.trans h0)⟩
  · rw [r4 k b]; exact h7 k a b
  · have hj := (List.getElem?_eq_some_iff.mp hx).1
    obtain ⟨b1, b2, b3, b4, b5⟩ := h8 j x hx
    refine ⟨by rw [r1 j (by omega)]; exact b1, by rw [r2 j (by omega)]; exact b2, b3, b4, fun w hw => ?_⟩
    rw [r3 _ (by omega)]
    exact sg_up (b5 w hw) (Nat.le_refl _) r4
theorem copied_is (fu : Nat) (hfu : 1000 ≤ fu) {S : zSt} {q : Nat} (hq : q = zN S) (h5 : (q - 98) % 5 = 0) (h98 : 98 ≤ q) (hX : q + 5 ≤ zX) (hSR : zSR S) (h51 : zA S 51 = 436) {cls : List xC} (hT : zTx S 47 7 cls) (hb : zI S 47 3 = 0 ∨ zI S 47 3 = 1) : ∃ S', f_Tx_copied fu 47 S = some (some q, S') ∧ nF q S S' ∧ zN S' = q + 5 ∧ zSR S' ∧ zTx S' q 7 cls := by
  obtain ⟨l, hl, hl4⟩ : ∃ l, zI S 47 1 = nI l ∧ l ≤ 400 := by
    obtain ⟨-, -, l, h3, h4, -⟩ := hT
    exact ⟨l, h3, h4⟩
  have e51 : zA S (47 + 4) = 436 := h51
  have hroom : f_Tx_room 47 S = nI l := by
    unfold f_Tx_room
    rw [e51, hl, if_neg (show ¬ (436 : Nat).toInt32 ≤ nI l from fun h => absurd ((n_le (a := 436) (by omega) (by omega)).mp h) (by omega))]
  obtain ⟨S3, a1, a2, a3, a4, a5⟩ := tx_init hq h5 h98 hX (l := l) (by omega) hSR
  obtain ⟨S4, b1, b2, b3, b4⟩ := tx_36 fu h98 hl4 l 0 fu S3 (by omega) (by omega) (by omega) a4 (by rw [(a2.2 51 (by omega)).2.2.2]; exact h51) (fun k' hk' => absurd hk' (by omega))
  have o4 : ∀ j, j < q → zI S4 j = zI S j := fun j hj => (b2.2 j hj).1.trans (a2.2 j hj).1
  obtain ⟨Y, eY⟩ : ∃ Y, Y = zwI (zwI (zwI S4 q 1 (nI l)) q 2 (zI (zwI S4 q 1 (nI l)) 47 2)) q 3 (zI (zwI (zwI S4 q 1 (nI l)) q 2 (zI (zwI S4 q 1 (nI l)) 47 2)) 47 3) := ⟨_, rfl⟩
  have hY2 : Y.2 = S3.2 := by rw [eY]; exact b3
  have fY : nF q S Y := by
    rw [eY]
    exact nF_wI (nF_wI (nF_wI (nF_t a2 b2) (Nat.le_refl _) _ _) (Nat.le_refl _) _ _) (Nat.le_refl _) _ _
  have y3 : zI (zwI (zwI S4 q 1 (nI l)) q 2 (zI (zwI S4 q 1 (nI l)) 47 2)) 47 3 = zI S 47 3 := by
    rw [qIIo _ _ (by omega), qIIo _ _ (by omega), o4 47 (by omega)]
  have yq : ∀ j k, j ≠ q → zI Y j k = zI S4 j k := fun j k hj => by
    rw [eY, qIIo _ _ (by omega), qIIo _ _ (by omega), qIIo _ _ (by omega)]
  obtain ⟨S', eS⟩ : ∃ S', S' = zcpI (zcpI (zcpI Y (47 + 1) (q + 1) 12) (47 + 2) (q + 2) 12) (47 + 3) (q + 3) 36 := ⟨_, rfl⟩
  have hS2 : S'.2 = S3.2 := by rw [eS]; exact hY2
  have fS : nF q S S' := by
    rw [eS]
    exact nF_cp (nF_cp (nF_cp fY _ (by omega) _) _ (by omega) _) _ (by omega) _
  have cI : ∀ (X : zSt) (a b n j k : Nat), zI (zcpI X a b n) j k = if j = b ∧ k < n then zI X a k else zI X j k := fun _ _ _ _ _ _ => rfl
  have hN : zN S' = q + 5 := by
    have : zN S' = zN S3 := by unfold zN; rw [hS2]
    rw [this, a3]
  have hAq : zA S' (q + 4) = l := by
    have : zA S' = zA S3 := by unfold zA; rw [hS2]
    rw [this, a4]
  refine ⟨S', ?_, fS, hN, ?_, ?_⟩
  · unfold f_Tx_copied
    have a1' : f_Tx_init (zN S) (f_Tx_room 47 S) (znew S 0) = some S3 := by rw [hroom, ← hq]; exact a1
    rw [qgd (show zK (zN S) = 10 ∧ zN S < zX from by rw [← hq]; exact ⟨(zK_10 h5 h98).1, by omega⟩), qb1 a1', hroom, ← hq]
    refine Eq.trans b1 ?_
    unfold f_Tx_copied_68
    rw [qgd (by rw [y3]; exact hb), ← eY, ← eS]
  · refine zSR_e a5 ?_
    rw [hS2]
  · have rw3 : ∀ j k, j < q → zI Y j k = zI S j k := fun j k hj => by rw [yq j k (by omega), o4 j hj]
    refine zTx_copy hT hl hl4 ?_ ?_ ?_ hAq (fun k hk => ?_) (fun k hk => ?_) (fun k hk => ?_) (fun k hk => ?_)
    · rw [eS, cI, if_neg (by omega), cI, if_neg (by omega), cI, if_neg (by omega), eY, qIIo _ _ (by omega), qIIo _ _ (by omega), qIIs]
    · rw [eS, cI, if_neg (by omega), cI, if_neg (by omega), cI, if_neg (by omega), eY, qIIo _ _ (by omega), qIIs, qIIo _ _ (by omega), o4 47 (by omega)]
    · rw [eS, cI, if_neg (by omega), cI, if_neg (by omega), cI, if_neg (by omega), eY, qIIs, y3]
    · rw [eS, cI, if_neg (by omega), cI, if_neg (by omega), cI, if_pos ⟨rfl, hk⟩, rw3 _ _ (by omega)]
    · rw [eS, cI, if_neg (by omega), cI, if_pos ⟨rfl, hk⟩, cI, if_neg (by omega), rw3 _ _ (by omega)]
    · rw [eS, cI, if_pos ⟨rfl, hk⟩, cI, if_neg (by omega), cI, if_neg (by omega), rw3 _ _ (by omega)]
    · rw [eS, cI, if_neg (by omega), cI, if_neg (by omega), cI, if_neg (by omega), yq _ _ (by omega), b4 k hk, (a2.2 51 (by omega)).1]

/-! the bytes as tokens: the reference's side -/
def woff : List Nat := [0, 6, 13, 21, 26, 29, 32, 36, 40, 45, 48, 52, 57, 62, 66, 70, 75, 82, 85, 90, 95, 100, 105, 110, 115, 121]
def wrow : List Int32 := (wj.map fun j => zSby.getD j [] ++ [32]).flatten
theorem woff_s : ∀ m, m < 25 → woff.getD (m + 1) 0 = woff.getD m 0 + (zSln.getD (wj.getD m 0) 0 + 1) ∧ woff.getD m 0 + zSln.getD (wj.getD m 0) 0 < 121 ∧ 1 ≤ zSln.getD (wj.getD m 0) 0 ∧ zSln.getD (wj.getD m 0) 0 ≤ 7 := by decide
theorem wrow_b : ∀ m, m < 25 → (∀ i, i < zSln.getD (wj.getD m 0) 0 → wrow.getD (woff.getD m 0 + i) 0 = zSch (wj.getD m 0) i ∧ zSch (wj.getD m 0) i ≠ 32) ∧ wrow.getD (woff.getD m 0 + zSln.getD (wj.getD m 0) 0) 0 = 32 := by decide +kernel
theorem wj_drop : ∀ m, m < 25 → wj.drop m = wj.getD m 0 :: wj.drop (m + 1) := by decide
/-- the reference's words -/
def zW8 (S : zSt) : Prop := ∀ k, k < 121 → zI S 78 k = wrow.getD k 0
theorem w_18 (fu : Nat) (k5 : Int32 → Int32 → Int32 → Int32 → zSt → Option Int32) {S : zSt} (hw : zW8 S) (a1 a2 a3 : Int32) {m : Nat} (hm : m < 25) : ∀ n i, i ≤ zSln.getD (wj.getD m 0) 0 → zSln.getD (wj.getD m 0) 0 < n + i →
    f_M_wordOf_18 fu k5 n a1 a2 a3 (nI (woff.getD m 0)) (nI i) S = f_M_wordOf_39 fu k5 a1 a2 a3 (nI (woff.getD m 0)) (nI (zSln.getD (wj.getD m 0) 0)) S := by
  have h1 := woff_s m hm
  have h2 := wrow_b m hm
  intro n
  induction n with
  | zero => intro i h3 h4; omega
  | succ n ih =>
    intro i h3 h4
    rw [f_M_wordOf_18, n_add, n_gd (by omega) (by omega), q_cl (by omega), hw _ (by omega)]
    by_cases hi : i = zSln.getD (wj.getD m 0) 0
    · rw [hi, if_pos h2.2]
    · rw [(h2.1 i (by omega)).1, if_neg (h2.1 i (by omega)).2, n_1, ih (i + 1) (by omega) (by omega)]
theorem w_57 (fu : Nat) (k5 : Int32 → Int32 → Int32 → Int32 → zSt → Option Int32) {S : zSt} {B : Nat → Int32} {T q : Nat} (hw : zW8 S) (hB : ∀ k, k < T → zI S 79 k = B k) (hT : T ≤ 400) (a2 a3 : Int32) {m : Nat} (hm : m < 25) (hq : q + zSln.getD (wj.getD m 0) 0 ≤ T) : ∀ n i, i ≤ zSln.getD (wj.getD m 0) 0 → zSln.getD (wj.getD m 0) 0 < n + i → (∀ k, k < i → B (q + k) = zSch (wj.getD m 0) k) →
    f_M_wordOf_57 fu k5 n (nI q) a2 a3 (nI (woff.getD m 0)) (nI (zSln.getD (wj.getD m 0) 0)) 1 (nI i) S = f_M_wordOf_104 fu k5 (nI q) a2 a3 (nI (woff.getD m 0)) (nI (zSln.getD (wj.getD m 0) 0)) (if ∀ k, k < zSln.getD (wj.getD m 0) 0 → B (q + k) = zSch (wj.getD m 0) k then 1 else 0) S := by
  have h1 := woff_s m hm
  have h2 := wrow_b m hm
  intro n
  induction n with
  | zero => intro i h3 h4; omega
  | succ n ih =>
    intro i h3 h4 h5
    rw [f_M_wordOf_57]
    by_cases hi : i = zSln.getD (wj.getD m 0) 0
    · rw [if_pos ((n_le (by omega) (by omega)).mpr (by omega)), if_pos (by rw [← hi]; exact h5)]
    · rw [if_neg (fun h => absurd ((n_le (by omega) (by omega)).mp h) (by omega)), if_neg (by decide), n_add, n_add, n_gd (by omega) (by omega), n_gd (by omega) (by omega), q_cl (by omega), q_cl (by omega), hw _ (by omega), hB _ (by omega), (h2.1 i (by omega)).1]
      by_cases hc : B (q + i) = zSch (wj.getD m 0) i
      · rw [if_pos hc.symm, n_1]
        refine ih (i + 1) (by omega) (by omega) (fun k hk => ?_)
        by_cases h6 : k = i
        · rw [h6]; exact hc
        · exact h5 k (by omega)
      · rw [if_neg (fun h => hc h.symm), if_neg (fun h => hc (h i (by omega)))]
        obtain ⟨n, rfl⟩ : ∃ n', n = n' + 1 := ⟨n - 1, by omega⟩
        rw [f_M_wordOf_57, n_1]
        by_cases h6 : i + 1 = zSln.getD (wj.getD m 0) 0
        · rw [if_pos ((n_le (by omega) (by omega)).mpr (by omega))]
        · rw [if_neg (fun h => absurd ((n_le (by omega) (by omega)).mp h) (by omega)), if_pos rfl]
theorem w_5 (fu : Nat) (hfu : 500 ≤ fu) {S : zSt} {B : Nat → Int32} {T q e : Nat} (hw : zW8 S) (hB : ∀ k, k < T → zI S 79 k = B k) (hT : T ≤ 400) (hqe : q ≤ e) (heT : e ≤ T) : ∀ n m, m ≤ 25 → 25 < n + m →
    f_M_wordOf_5 fu n (nI q) (nI e) (nI (m + 1)) (nI (woff.getD m 0)) S = some (nI (wnf (fun j => decide (isW B q e j)) (m + 1) (wj.drop m))) := by
  intro n
  induction n with
  | zero => intro m h1 h2; omega
  | succ n ih =>
    intro m h1 h2
    rw [f_M_wordOf_5]
    by_cases hm : m = 25
    · rw [hm]; rfl
    · have hm : m < 25 := by omega
      have h3 := woff_s m hm
      have l : ¬ (121 : Int32) ≤ nI (woff.getD m 0) := fun h => absurd ((n_le (a := 121) (by omega) (by omega)).mp h) (by omega)
      rw [if_neg l, show (0 : Int32) = nI 0 from rfl, w_18 fu _ hw _ _ _ hm fu 0 (by omega) (by omega), f_M_wordOf_39, n_sub hqe, wj_drop m hm]
      unfold wnf
      have tail : f_M_wordOf_104 fu (f_M_wordOf_5 fu n) (nI q) (nI e) (nI (m + 1)) (nI (woff.getD m 0)) (nI (zSln.getD (wj.getD m 0) 0)) 0 S = some (nI (wnf (fun j => decide (isW B q e j)) (m + 1 + 1) (wj.drop (m + 1)))) := by
        rw [f_M_wordOf_104, if_pos rfl, n_1, n_1, n_add, ← h3.1]
        exact ih (m + 1) (by omega) (by omega)
      by_cases hl : e - q = zSln.getD (wj.getD m 0) 0
      · rw [if_pos (by rw [hl])]
        refine (w_57 fu (f_M_wordOf_5 fu n) hw hB hT (nI e) (nI (m + 1)) hm (by omega) fu 0 (by omega) (by omega) (fun k hk => by omega)).trans ?_
        by_cases hc : ∀ k, k < zSln.getD (wj.getD m 0) 0 → B (q + k) = zSch (wj.getD m 0) k
        · rw [if_pos hc, if_pos (decide_eq_true ⟨hl, hc⟩), f_M_wordOf_104, if_neg (by decide)]
        · rw [if_neg hc, if_neg (fun h => hc (of_decide_eq_true h).2)]
          exact tail
      · rw [if_neg (fun h => hl ((n_eq (by omega) (by omega)).mp h).symm), if_neg (fun h => hl (of_decide_eq_true h).1)]
        obtain ⟨fu', rfl⟩ : ∃ n', fu = n' + 1 := ⟨fu - 1, by omega⟩
        have l2 : ¬ nI (zSln.getD (wj.getD m 0) 0) ≤ (0 : Int32) := fun h => absurd ((n_le (b := 0) (by omega) (by omega)).mp h) (by omega)
        rw [f_M_wordOf_57, if_neg l2, if_pos rfl]
        exact tail
theorem word_of (fu : Nat) (hfu : 500 ≤ fu) {S : zSt} {B : Nat → Int32} {T q e : Nat} (hw : zW8 S) (hB : ∀ k, k < T → zI S 79 k = B k) (hT : T ≤ 400) (hqe : q ≤ e) (heT : e ≤ T) : f_M_wordOf fu (nI q) (nI e) S = some (nI (wnum B q e)) := w_5 fu hfu hw hB hT hqe heT fu 0 (by omega) (by omega)

/-! bound: what a set's cut weighs; the lightest -/
theorem and1_is (set : Int32) {s : Nat} (hs : s < 32) : (((set >>> (nI s &&& 31)) &&& (1 : Int32)) = (1 : Int32) ↔ inS set s = true) ∧ (((set >>> (nI s &&& 31)) &&& (1 : Int32)) = (0 : Int32) ↔ inS set s = false) := by
  have e : ∀ i, i < 32 → bt ((set >>> (nI s &&& 31)) &&& 1) i = (decide (i = 0) && bt set s) := fun i hi => by
    rw [b_and, b_sshr s hs _ hi, bt_1 i hi, Bool.and_comm]
    by_cases h : i = 0
    · rw [h, if_pos (by omega), Nat.add_zero]
    · simp [h]
  constructor
  · unfold inS
    exact ⟨fun h => decide_eq_true h, fun h => of_decide_eq_true h⟩
  · rw [inS_bt set hs]
    constructor
    · intro h
      have := e 0 (by omega)
      rw [h, b_0] at this
      revert this
      cases bt set s <;> simp
    · intro h
      refine b_ext (fun i hi => ?_)
      rw [e i hi, h, b_0, Bool.and_false]
def cvP (P : zP) (set : Int32) (a b : Nat) : Nat := if inS set a = true ∧ inS set b = false then (wgP P a b).toNatClampNeg else 0
def coP (P : zP) (set : Int32) : Nat := sm (fun a => sm (fun b => cvP P set a b) (pN P)) (pN P)
theorem sm_bd {f : Nat → Nat} {c : Nat} : ∀ n, (∀ i, i < n → f i ≤ c) → sm f n ≤ n * c := by
  intro n
  induction n with
  | zero => intro _; exact Nat.zero_le _
  | succ n ih =>
    intro h
    show sm f n + f n ≤ (n + 1) * c
    have h1 := ih (fun i hi => h i (by omega))
    have h2 := h n (by omega)
    rw [Nat.succ_mul]
    omega
theorem cv_le (P : zP) (set : Int32) (a b : Nat) : cvP P set a b ≤ 99 := by
  unfold cvP
  split
  · obtain ⟨v, hv, e⟩ := wg_rg (P := P) a b
    rw [e, q_cl (by omega)]; exact hv
  · omega
theorem row_le {P : zP} (hP : pOK P) (set : Int32) (a : Nat) {n : Nat} (hn : n ≤ pN P) : sm (fun b => cvP P set a b) n ≤ 891 := by
  have h9 := hP.1
  have h := sm_bd (f := fun b => cvP P set a b) (c := 99) n (fun i _ => cv_le P set a i)
  have : n * 99 ≤ 9 * 99 := Nat.mul_le_mul_right _ (by omega)
  omega
theorem col_le {P : zP} (hP : pOK P) (set : Int32) {n : Nat} (hn : n ≤ pN P) : sm (fun a => sm (fun b => cvP P set a b) (pN P)) n ≤ 8019 := by
  have h9 := hP.1
  have h := sm_bd (f := fun a => sm (fun b => cvP P set a b) (pN P)) (c := 891) n (fun i _ => row_le hP set i (Nat.le_refl _))
  have : n * 891 ≤ 9 * 891 := Nat.mul_le_mul_right _ (by omega)
  omega
theorem wg_nI (P : zP) (a b : Nat) : wgP P a b = nI (wgP P a b).toNatClampNeg ∧ (wgP P a b).toNatClampNeg ≤ 99 := by
  obtain ⟨v, hv, e⟩ := wg_rg (P := P) a b
  rw [e, q_cl (by omega)]
  exact ⟨rfl, hv⟩
theorem c_cut_15 (fu : Nat) {S : zSt} {P : zP} (hP : pOK P) (hw : wgC S P (pN P) 0) (set : Int32) (k4 : Int32 → Int32 → Int32 → zSt → Option Int32) {a base : Nat} (ha : a < pN P) : ∀ (m b n : Nat), b + m = pN P → m + 1 ≤ n → f_Pa_cutOf_15 fu k4 n set (nI (base + sm (fun b => cvP P set a b) b)) (nI a) (nI b) S = k4 set (nI (base + sm (fun b => cvP P set a b) (pN P))) (nI (a + 1)) S := by
  have h9 := hP.1
  intro m
  induction m with
  | zero =>
    intro b n h1 h2
    obtain ⟨n', rfl⟩ : ∃ n', n = n' + 1 := ⟨n - 1, by omega⟩
    unfold f_Pa_cutOf_15
    rw [hw.1, if_pos ((n_le (by omega) (by omega)).mpr (by omega)), n_1, show b = pN P by omega]
  | succ m ih =>
    intro b n h1 h2
    obtain ⟨n', rfl⟩ : ∃ n', n = n' + 1 := ⟨n - 1, by omega⟩
    have hb : b < pN P := by omega
    rw [← ih (b + 1) n' (by omega) (by omega), show sm (fun b => cvP P set a b) (b + 1) = sm (fun b => cvP P set a b) b + (if inS set a = true ∧ inS set b = false then (wgP P a b).toNatClampNeg else 0) from rfl]
    obtain ⟨K, eK⟩ : ∃ K, K = f_Pa_cutOf_15 fu k4 n' := ⟨_, rfl⟩
    rw [← eK]
    unfold f_Pa_cutOf_15
    rw [hw.1, if_neg (fun h => absurd ((n_le (by omega) (by omega)).mp h) (by omega)), ← eK, n_1]
    have i1 := and1_is set (s := a) (by omega)
    have i2 := and1_is set (s := b) (by omega)
    have e59 : zI S 59 (9 * a + b) = wgP P a b := hw.2 a b ha hb (Or.inl ha)
    obtain ⟨w1, w2⟩ := wg_nI P a b
    by_cases c1 : inS set a = true
    · rw [if_pos (i1.1.mpr c1)]
      by_cases c2 : inS set b = false
      · rw [if_pos (i2.2.mpr c2), qb1 (pa_pair (by omega) (by omega)), n_gd (by omega) (by omega), q_cl (by omega), e59, if_pos ⟨c1, c2⟩]
        have : nI (base + sm (fun b => cvP P set a b) b) + wgP P a b = nI (base + (sm (fun b => cvP P set a b) b + (wgP P a b).toNatClampNeg)) := by
          have e3 : nI (base + sm (fun b => cvP P set a b) b) + wgP P a b = nI (base + sm (fun b => cvP P set a b) b) + nI (wgP P a b).toNatClampNeg := by rw [← w1]
          rw [e3, n_add, Nat.add_assoc]
        rw [this]
      · rw [if_neg (fun h => c2 (i2.2.mp h)), if_neg (fun h => c2 h.2)]; rfl
    · rw [if_neg (fun h => c1 (i1.1.mp h)), if_neg (fun h => c1 h.1)]; rfl

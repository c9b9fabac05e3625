/-! the reference splits: a token laid down, all of them -/
theorem zwI_2 (S : zSt) (i k : Nat) (a b : Int32) : zwI (zwI S i k a) i k b = zwI S i k b := by
  unfold zwI zup
  refine congrArg (fun f => (f, S.2)) ?_
  funext j l
  by_cases h : j = i ∧ l = k
  · simp only [if_pos h]
  · simp only [if_neg h]
theorem q72a (S : zSt) (k l : Nat) (v : Int32) : zI (zwI S 81 k v) 72 l = zI S 72 l := qIIo S v (by omega)
theorem q72b (S : zSt) (k l : Nat) (v : Int32) : zI (zwI S 82 k v) 72 l = zI S 72 l := qIIo S v (by omega)
theorem q72c (S : zSt) (k l : Nat) (v : Int32) : zI (zwI S 83 k v) 72 l = zI S 72 l := qIIo S v (by omega)
theorem q79 (S : zSt) (i k l : Nat) (v : Int32) (h : i ≠ 79) : zI (zwI S i k v) 79 l = zI S 79 l := qIIo S v (by omega)
/-- a number as the reference has it, by what the digits spell -/
def vRel (v d : Nat) : Prop := (d ≤ 1000 → v = d) ∧ (1000 < d → 1000 < v) ∧ v ≤ 20000000
theorem s_169 (fu : Nat) (k7 : Int32 → Int32 → zSt → Option zSt) {S : zSt} {B : Nat → Int32} {T q e i : Nat} {b : Int32} (hB : ∀ k, k < T → zI S 79 k = B k) (hT : T ≤ 400) (hi : i < 401) (h18 : zI S 72 18 = nI i) (hb : kd b = 2) (heT : e ≤ T) (hd : ∀ k, q ≤ k → k < e → kat B T k = 2) :
    ∀ n p v, q ≤ p → p ≤ e → e < n + p → vRel v (dv B q (p - q)) → ∃ v', vRel v' (dv B q (e - q)) ∧ f_M_splits_169 fu k7 n (nI T) b (nI e) (nI p) (zwI S 82 i (nI v)) = f_M_splits_247 fu k7 (nI T) (nI e) (zwI S 82 i (nI v')) := by
  intro n
  induction n with
  | zero => intro p v h1 h2 h3; omega
  | succ n ih =>
    intro p v h1 h2 h3 h4
    rw [f_M_splits_169]
    by_cases hp : p = e
    · rw [if_pos ((n_le (by omega) (by omega)).mpr (by omega))]
      exact ⟨v, by rw [← hp]; exact h4, rfl⟩
    · have hk := hd p h1 (by omega)
      unfold kat at hk
      rw [if_pos (by omega)] at hk
      have hbb := kd_2 hk
      obtain ⟨bn, hbn, hbi, hb31⟩ := q_ex (a := B p) (by omega)
      have hs : dv B q (p + 1 - q) = 10 * dv B q (p - q) + (bn - 48) := by
        rw [show p + 1 - q = (p - q) + 1 by omega]
        show 10 * dv B q (p - q) + ((B (q + (p - q))).toInt - 48).toNat = _
        rw [show q + (p - q) = p by omega, ← hbi]; omega
      have hv := h4.2.2
      rw [if_neg (fun h => absurd ((n_le (by omega) (by omega)).mp h) (by omega)), qb1 (kd_digit b), if_pos hb, if_neg (by decide)]
      simp only [q72b, h18]
      rw [n_gd (by omega) hi, q_cl (by omega), qIIs]
      have l6 : nI v ≤ (1000000 : Int32) ↔ v ≤ 1000000 := n_le (b := 1000000) (by omega) (by omega)
      by_cases h6 : v ≤ 1000000
      · rw [if_pos (l6.mpr h6), qgd ⟨n_0 (by omega), hi⟩, n_gd (by omega) (by omega), qgd ⟨n_0 (by omega), hi⟩, q_cl (by omega), q79 _ _ _ _ _ (by omega), hB p (by omega), hbn, zwI_2, n_1]
        have ev : ((10 : Int32) * nI v + nI bn) - (48 : Int32) = nI (10 * v + (bn - 48)) := by
          show ((nI 10 * nI v) + nI bn) - nI 48 = _
          rw [n_mul, n_add, n_sub (by omega)]
          congr 1
          omega
        rw [ev]
        refine ih (p + 1) _ (by omega) (by omega) (by omega) ?_
        rw [hs]
        obtain ⟨r1, r2, r3⟩ := h4
        refine ⟨fun h => ?_, fun h => ?_, by omega⟩
        · have := r1 (by omega); omega
        · by_cases h7 : dv B q (p - q) ≤ 1000
          · have := r1 h7; omega
          · have := r2 (by omega); omega
      · rw [if_neg (fun h => h6 (l6.mp h)), qgd ⟨n_0 (by omega), hi⟩, qgd ⟨n_0 (by omega), hi⟩, zwI_2, n_1]
        refine ih (p + 1) v (by omega) (by omega) (by omega) ?_
        rw [hs]
        obtain ⟨r1, r2, r3⟩ := h4
        have h7 : ¬ dv B q (p - q) ≤ 1000 := fun h7 => by have := r1 h7; omega
        exact ⟨fun h => by omega, fun h => by omega, by omega⟩
theorem s_169n (fu : Nat) (k7 : Int32 → Int32 → zSt → Option zSt) {S : zSt} {T q e : Nat} {b : Int32} (hT : T ≤ 400) (heT : e ≤ T) (hqe : q ≤ e) (hb : kd b ≠ 2) (n : Nat) : f_M_splits_169 fu k7 (n + 1) (nI T) b (nI e) (nI q) S = f_M_splits_247 fu k7 (nI T) (nI e) S := by
  rw [f_M_splits_169]
  by_cases h : e ≤ q
  · rw [if_pos ((n_le (by omega) (by omega)).mpr (by omega))]
  · rw [if_neg (fun h2 => h ((n_le (by omega) (by omega)).mp h2)), qb1 (kd_digit b), if_neg hb, if_pos rfl]
def vR (x y : Int32) : Prop := (y ≤ 1000 → x = y) ∧ (¬ y ≤ 1000 → ¬ x ≤ 1000)
theorem vRel_R {v d : Nat} (h : vRel v d) : vR (nI v) (if d ≤ 1000 then nI d else 1001) := by
  obtain ⟨r1, r2, r3⟩ := h
  have l : nI v ≤ (1000 : Int32) ↔ v ≤ 1000 := n_le (b := 1000) (by omega) (by omega)
  by_cases h : d ≤ 1000
  · rw [if_pos h, r1 h]
    exact ⟨fun _ => rfl, fun h2 => absurd ((n_le (a := d) (b := 1000) (by omega) (by omega)).mpr h) h2⟩
  · rw [if_neg h]
    have := r2 (by omega)
    exact ⟨fun h2 => absurd h2 (by decide), fun _ h2 => absurd (l.mp h2) (by omega)⟩
/-- a token laid down at i -/
def zLay (S : zSt) (i : Nat) (q c v : Int32) : zSt := zwI (zwI (zwI (zwI S 83 i q) 81 i c) 82 i v) 72 18 (nI (i + 1))
theorem zw_c (S : zSt) {i j : Nat} (k l : Nat) (a b : Int32) (h : i ≠ j) : zwI (zwI S i k a) j l b = zwI (zwI S j l b) i k a := by
  unfold zwI zup
  refine congrArg (fun f => (f, S.2)) ?_
  funext x y
  by_cases h1 : x = j
  · have n1 : ¬ (x = i ∧ y = k) := fun h2 => h (h2.1.symm.trans h1)
    simp only [if_neg n1]
  · have n2 : ¬ (x = j ∧ y = l) := fun h2 => h1 h2.1
    simp only [if_neg n2]
theorem s_100 (fu : Nat) (hfu : 500 ≤ fu) (k7 : Int32 → Int32 → zSt → Option zSt) {S : zSt} {B : Nat → Int32} {T q i : Nat} (h : zMt S B T) (hq : q < T) (h4 : kat B T q ≠ 4) (hi : i < 401) (h18 : zI S 72 18 = nI i) :
    ∃ v, vR v (tNum B T q) ∧ f_M_splits_100 fu k7 (nI T) (nI q) (B q) (nI (tEnd B T q)) S = k7 (nI T) (nI (tEnd B T q)) (zLay S i (nI q) (tCq B T q) v) := by
  have hT := h.2.1
  have he := tEnd_le (B := B) (T := T) (q := q) (by omega)
  have ek : kat B T q = kd (B q) := by unfold kat; rw [if_pos hq]
  have h0 : kat B T q ≠ 0 := by
    have : ∀ b, kd b ≠ 0 := by
      intro b
      unfold kd kd2
      repeat' split
      all_goals decide
    rw [ek]; exact this _
  obtain ⟨fu, rfl⟩ : ∃ n, fu = n + 1 := ⟨fu - 1, by omega⟩
  have hw8 : zMt (zwI (zwI S 83 i (nI q)) 82 i 0) B T := by
    refine ⟨fun k hk => ?_, hT, fun k hk => ?_⟩
    · rw [q79 _ _ _ _ _ (by omega), q79 _ _ _ _ _ (by omega)]; exact h.1 k hk
    · rw [qIIo _ _ (by omega), qIIo _ _ (by omega)]; exact h.2.2 k hk
  have fin : ∀ (c v : Int32), f_M_splits_247 (fu + 1) k7 (nI T) (nI (tEnd B T q)) (zwI (zwI (zwI (zwI S 83 i (nI q)) 82 i 0) 81 i c) 82 i v) = k7 (nI T) (nI (tEnd B T q)) (zLay S i (nI q) c v) := by
    intro c v
    unfold f_M_splits_247
    rw [q72b, q72a, q72b, q72c, h18, n_1, zw_c (zwI (zwI S 83 i (nI q)) 82 i 0) i i c v (by omega), zwI_2, ← zw_c (zwI S 83 i (nI q)) i i c v (by omega)]
    rfl
  have fin0 : ∀ (c : Int32), f_M_splits_247 (fu + 1) k7 (nI T) (nI (tEnd B T q)) (zwI (zwI (zwI S 83 i (nI q)) 82 i 0) 81 i c) = k7 (nI T) (nI (tEnd B T q)) (zLay S i (nI q) c 0) := by
    intro c
    unfold f_M_splits_247
    rw [q72a, q72b, q72c, h18, n_1, ← zw_c (zwI S 83 i (nI q)) i i c 0 (by omega)]
    rfl
  unfold f_M_splits_100
  simp only [q72a, q72b, q72c, h18]
  rw [n_gd (by omega) hi, q_cl (by omega), qgd ⟨n_0 (by omega), hi⟩, qb1 (kd_small _)]
  have hN0 : kd (B q) ≠ 2 → tNum B T q = 0 := fun h => by unfold tNum; rw [ek, if_neg h]
  have hN2 : kd (B q) = 2 → tNum B T q = if dv B q (tEnd B T q - q) ≤ 1000 then nI (dv B q (tEnd B T q - q)) else 1001 := fun h => by unfold tNum; rw [ek, if_pos h]
  have hC : tCq B T q = if kd (B q) = 1 then nI (wnum B q (tEnd B T q)) else if kd (B q) = 2 then 50 else 100 + (B q &&& 255) := by unfold tCq; rw [if_neg h0, ek]
  rw [ek] at h0 h4
  by_cases h1 : kd (B q) = 1
  · rw [if_pos h1, if_neg (by decide), qb1 (word_of (fu + 1) hfu hw8.2.2 hw8.1 hT he.1 he.2.1), qgd ⟨n_0 (by omega), hi⟩, s_169n (fu + 1) k7 hT he.2.1 he.1 (by rw [h1]; decide) fu, fin0, hC, if_pos h1, hN0 (by rw [h1]; decide)]
    exact ⟨0, ⟨fun _ => rfl, fun h => absurd (by decide) h⟩, rfl⟩
  · rw [if_neg h1, if_pos rfl, qb1 (kd_digit _), hC, if_neg h1]
    by_cases h2 : kd (B q) = 2
    · rw [if_pos h2, if_neg (by decide), qgd ⟨n_0 (by omega), hi⟩, if_pos h2, hN2 h2]
      have hd : ∀ k, q ≤ k → k < tEnd B T q → kat B T k = 2 := fun k h5 h6 => (tEnd_kind (B := B) (T := T) (by omega) (by rw [ek, h2]; decide) k h5 h6).trans (by rw [ek]; exact h2)
      obtain ⟨v', hv', hf⟩ := s_169 (fu + 1) k7 (S := zwI (zwI (zwI S 83 i (nI q)) 82 i 0) 81 i 50) (B := B) (T := T) (q := q) (e := tEnd B T q) (i := i) (b := B q) (fun k hk => by rw [q79 _ _ _ _ _ (by omega)]; exact hw8.1 k hk) hT hi (by rw [q72a, q72b, q72c, h18]) h2 he.2.1 hd (fu + 1) q 0 (by omega) he.1 (by omega) (by rw [Nat.sub_self]; exact ⟨fun _ => rfl, fun h => absurd h (by show ¬ 1000 < 0; omega), by omega⟩)
      have e0 : zwI (zwI (zwI (zwI S 83 i (nI q)) 82 i 0) 81 i 50) 82 i (nI 0) = zwI (zwI (zwI S 83 i (nI q)) 82 i 0) 81 i 50 := by
        rw [zw_c (zwI (zwI S 83 i (nI q)) 82 i 0) i i 50 (nI 0) (by omega), zwI_2]
        rfl
      rw [e0] at hf
      rw [hf, fin]
      exact ⟨nI v', vRel_R hv', rfl⟩
    · rw [if_neg h2, if_pos rfl, qgd ⟨n_0 (by omega), hi⟩, s_169n (fu + 1) k7 hT he.2.1 he.1 h2 fu, if_neg h2, hN0 h2, fin0]
      exact ⟨0, ⟨fun _ => rfl, fun h => absurd (by decide) h⟩, rfl⟩

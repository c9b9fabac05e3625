/-! round: the class's stops -/
def rSt (v h k : Nat) : List Nat := (List.range k).filter (fun s => v.testBit s && decide (s ≠ h))
theorem rSt_s (v h k : Nat) : rSt v h (k + 1) = rSt v h k ++ (if (v.testBit k && decide (k ≠ h)) = true then [k] else []) := by
  unfold rSt
  rw [List.range_succ, List.filter_append]
  congr 1
  cases e : (v.testBit k && decide (k ≠ h)) with
  | true => rw [if_pos rfl, List.filter_cons]; exact if_pos e
  | false => rw [if_neg (by decide), List.filter_cons]; exact if_neg (fun h2 => by have h3 : (v.testBit k && decide (k ≠ h)) = true := h2; rw [h3] at e; cases e)
theorem rSt_len (v h : Nat) : ∀ k, (rSt v h k).length + (if h < k then 1 else 0) ≤ k := by
  intro k
  induction k with
  | zero => show 0 + (if h < 0 then 1 else 0) ≤ 0; rw [if_neg (by omega)]; exact Nat.le_refl _
  | succ k ih =>
    rw [rSt_s, List.length_append]
    by_cases e : k = h
    · rw [e] at ih ⊢
      rw [if_neg (show ¬ h < h by omega)] at ih
      rw [if_neg (show ¬ (v.testBit h && decide (h ≠ h)) = true by simp), if_pos (show h < h + 1 by omega)]
      simp only [List.length_nil]
      omega
    · have : (if h < k + 1 then 1 else 0) = (if h < k then 1 else 0) := by
        by_cases h1 : h < k
        · rw [if_pos h1, if_pos (by omega)]
        · rw [if_neg h1, if_neg (by omega)]
      rw [this]
      split
      · simp only [List.length_cons, List.length_nil]; omega
      · simp only [List.length_nil]; omega
theorem rSt_mem {v h k x : Nat} : x ∈ rSt v h k ↔ x < k ∧ v.testBit x = true ∧ x ≠ h := by
  unfold rSt
  rw [List.mem_filter, List.mem_range, Bool.and_eq_true, decide_eq_true_iff]
def stO (n : Nat) (l : List Nat) : Prop := l.length ≤ 8 ∧ (∀ i, i < l.length → l.getD i 0 < n) ∧ ∀ i j, i < j → j < l.length → l.getD i 0 < l.getD j 0
theorem getD_get {l : List Nat} {i : Nat} (h : i < l.length) : l.getD i 0 = l[i] := by
  rw [List.getD_eq_getElem?_getD, List.getElem?_eq_getElem h]
  rfl
theorem rSt_stO {v h n : Nat} (hn : n ≤ 9) (hh : h < n) : stO n (rSt v h n) := by
  refine ⟨?_, fun i hi => ?_, fun i j hij hj => ?_⟩
  · have := rSt_len v h n
    rw [if_pos hh] at this
    omega
  · rw [getD_get hi]
    exact (rSt_mem.mp (List.getElem_mem hi)).1
  · have hp : List.Pairwise (· < ·) (rSt v h n) := List.Pairwise.filter _ List.pairwise_lt_range
    rw [getD_get hj, getD_get (by omega)]
    exact (List.pairwise_iff_getElem.mp hp) i j (by omega) hj hij
theorem stO_inj {n : Nat} {l : List Nat} (h : stO n l) {i j : Nat} (hi : i < l.length) (hj : j < l.length) (e : l.getD i 0 = l.getD j 0) : i = j := by
  rcases Nat.lt_trichotomy i j with h1 | h1 | h1
  · have := h.2.2 i j h1 hj; omega
  · exact h1
  · have := h.2.2 j i h1 hi; omega
/-- the springs that are still to come, when the stops in d are done -/
def pd (l : List Nat) (d : Nat) : Nat → Bool := fun s => (List.range l.length).any (fun i => !d.testBit i && decide (l.getD i 0 = s))
theorem pd_t {l : List Nat} {d s : Nat} : pd l d s = true ↔ ∃ i, i < l.length ∧ d.testBit i = false ∧ l.getD i 0 = s := by
  unfold pd
  rw [List.any_eq_true]
  constructor
  · rintro ⟨i, h1, h2⟩
    rw [Bool.and_eq_true, decide_eq_true_iff] at h2
    refine ⟨i, List.mem_range.mp h1, ?_, h2.2⟩
    have := h2.1
    revert this
    cases d.testBit i <;> simp
  · rintro ⟨i, h1, h2, h3⟩
    exact ⟨i, List.mem_range.mpr h1, by rw [h2, h3]; simp⟩
theorem pd_rm {n : Nat} {l : List Nat} (hl : stO n l) {d i : Nat} (hd : d < 256) (hi : i < l.length) (hb : d.testBit i = false) (x : Nat) : pd l (d + 2 ^ i) x = rmP (pd l d) (l.getD i 0) x := by
  have h8 := hl.1
  apply Bool.eq_iff_iff.mpr
  unfold rmP
  rw [Bool.and_eq_true, decide_eq_true_iff, pd_t, pd_t]
  constructor
  · rintro ⟨j, h1, h2, h3⟩
    rw [tb_add hd (by omega) hb (by omega)] at h2
    have h4 : d.testBit j = false ∧ ¬ j = i := by
      cases e : d.testBit j with
      | true => rw [e] at h2; cases h2
      | false =>
        rw [e, Bool.false_or] at h2
        exact ⟨rfl, of_decide_eq_false h2⟩
    exact ⟨⟨j, h1, h4.1, h3⟩, fun e => h4.2 (stO_inj hl h1 hi (by rw [h3, e]))⟩
  · rintro ⟨⟨j, h1, h2, h3⟩, h4⟩
    refine ⟨j, h1, ?_, h3⟩
    rw [tb_add hd (by omega) hb (by omega), h2, Bool.false_or]
    exact decide_eq_false (fun e => h4 (by rw [← h3, e]))
theorem pd_cd {n : Nat} {l : List Nat} (hl : stO n l) {d : Nat} : cdP (pd l d) n = 0 ↔ ∀ i, i < l.length → d.testBit i = true := by
  rw [cdP_0]
  constructor
  · intro h i hi
    cases e : d.testBit i with
    | true => rfl
    | false =>
      have h1 := h _ (hl.2.1 i hi)
      rw [pd_t.mpr ⟨i, hi, e, rfl⟩] at h1
      cases h1
  · intro h s hs
    cases e : pd l d s with
    | false => rfl
    | true =>
      obtain ⟨i, hi, h2, -⟩ := pd_t.mp e
      rw [h i hi] at h2
      cases h2
theorem full_is {c d : Nat} (hd : d < 2 ^ c) (h : ∀ i, i < c → d.testBit i = true) : d = 2 ^ c - 1 := by
  apply Nat.eq_of_testBit_eq
  intro i
  rw [Nat.testBit_two_pow_sub_one]
  by_cases hi : i < c
  · rw [h i hi, decide_eq_true hi]
  · rw [decide_eq_false hi]
    exact Nat.testBit_lt_two_pow (Nat.lt_of_lt_of_le hd (Nat.pow_le_pow_right (by omega) (by omega)))
def fwF (D : zD) (n h : Nat) (l : List Nat) (d a : Nat) : Nat → Nat := fun i => if d.testBit i = false then D a (l.getD i 0) + rdR D n h (pd l (d + 2 ^ i)) (l.getD i 0) else 1000000
theorem fw_g {D : zD} {n h : Nat} {l : List Nat} (hl : stO n l) {d : Nat} (hd : d < 256) (a : Nat) {i : Nat} (hi : i < l.length) (hb : d.testBit i = false) : fwF D n h l d a i = rdG D n h (pd l d) a (l.getD i 0) := by
  unfold fwF rdG
  rw [if_pos hb, if_pos (pd_t.mpr ⟨i, hi, hb, rfl⟩), rdR_eq (l.getD i 0) (fun s _ => pd_rm hl hd hi hb s)]
theorem fw_eq {D : zD} {n h : Nat} {l : List Nat} (hl : stO n l) {d : Nat} (hd : d < 256) (a : Nat) (hne : ¬ cdP (pd l d) n = 0) : mnF (fwF D n h l d a) l.length = rdR D n h (pd l d) a := by
  rw [rdR_s a hne]
  refine Nat.le_antisymm ?_ ?_
  · rcases mnF_or (rdG D n h (pd l d) a) n with h1 | ⟨s, hs, h1⟩
    · rw [h1]; exact mnF_le _ _
    · rw [h1]
      by_cases hp : pd l d s = true
      · obtain ⟨i, hi, hb, e⟩ := pd_t.mp hp
        rw [← e, ← fw_g hl hd a hi hb]
        exact mnF_c _ _ i hi
      · have : rdG D n h (pd l d) a s = 1000000 := by unfold rdG; rw [if_neg hp]
        rw [this]; exact mnF_le _ _
  · rcases mnF_or (fwF D n h l d a) l.length with h1 | ⟨i, hi, h1⟩
    · rw [h1]; exact mnF_le _ _
    · rw [h1]
      cases hb : d.testBit i with
      | false =>
        rw [fw_g hl hd a hi hb]
        exact mnF_c _ _ _ (hl.2.1 i hi)
      | true =>
        have : fwF D n h l d a i = 1000000 := by unfold fwF; rw [hb, if_neg (by decide)]
        rw [this]; exact mnF_le _ _
/-! round: the class's rows -/
theorem ro_of {S : zSt} {P : zP} (hP : pOK P) (hp : zPp S P (pLaw P)) {a b : Nat} (ha : a < pN P) (hb : b < pN P) : f_Ro_daysOf (nI a) (nI b) S = some (nI (pD P (pLaw P) a b)) := by
  have hle := (hp.2.1 a b ha hb).2
  unfold f_Ro_daysOf
  rw [qb1 (pa_soon hP hp ha hb)]
  by_cases hf : 1000000 ≤ pD P (pLaw P) a b
  · rw [if_pos ((pSo_m1 hle).mpr hf), show pD P (pLaw P) a b = 1000000 by omega]
    rfl
  · rw [if_neg (fun h => hf ((pSo_m1 hle).mp h))]
    unfold pSo
    rw [if_neg hf]
def rdQ (P : zP) (h : Nat) (l : List Nat) (d i : Nat) : Nat := rdR (pD P (pLaw P)) (pN P) h (pd l d) (l.getD i 0)
/-- stops, legs -/
def rA (S : zSt) (P : zP) (h : Nat) (l : List Nat) : Prop := zI S 60 1 = nI l.length ∧ (∀ i, i < l.length → zI S 61 i = nI (l.getD i 0)) ∧ (∀ i, i < l.length → zI S 62 i = nI (pD P (pLaw P) h (l.getD i 0))) ∧ ∀ i j, i < l.length → j < l.length → zI S 63 (i * 8 + j) = nI (pD P (pLaw P) (l.getD i 0) (l.getD j 0))
def rC (S : zSt) (P : zP) (h : Nat) (l : List Nat) (d : Nat) : Prop := ∀ i, i < l.length → zI S 64 (d * 8 + i) = nI (rdQ P h l d i)
def cuR (h : Nat) (l : List Nat) (cur : Int32) (a : Nat) : Prop := (cur = -1 ∧ a = h) ∨ ∃ i, i < l.length ∧ cur = nI i ∧ a = l.getD i 0
theorem n_8 (d i : Nat) : nI d * 8 + nI i = nI (d * 8 + i) := by rw [show (8 : Int32) = nI 8 from rfl, n_mul, n_add]
theorem ro_by {S : zSt} {P : zP} {h : Nat} {l : List Nat} (hl : stO (pN P) l) (hA : rA S P h l) {cur : Int32} {a : Nat} (hcu : cuR h l cur a) {d i : Nat} (hd : d < 2 ^ l.length) (hi : i < l.length) (hb : d.testBit i = false) (hC : rC S P h l (d + 2 ^ i)) : f_Ro_daysBy (nI d) cur (nI i) S = some (nI (fwF (pD P (pLaw P)) (pN P) h l d a i)) := by
  have h8 := hl.1
  have hd2 : (2 : Nat) ^ l.length ≤ 256 := Nat.le_trans (Nat.pow_le_pow_right (by omega) h8) (by decide)
  have hlt := set_lt l.length (by omega) d hd i hi hb
  have e25 : ∀ u : Nat, f_Ro_daysBy_25 (nI d) (nI i) (nI u) S = some (nI (u + rdQ P h l (d + 2 ^ i) i)) := fun u => by
    unfold f_Ro_daysBy_25
    rw [set_add d (by omega) i (by omega) hb, n_8, n_gd (by omega) (by omega), q_cl (by omega), hC i hi, n_add]
  have ef : fwF (pD P (pLaw P)) (pN P) h l d a i = pD P (pLaw P) a (l.getD i 0) + rdQ P h l (d + 2 ^ i) i := by
    unfold fwF
    rw [if_pos hb]
    rfl
  unfold f_Ro_daysBy
  rw [ef]
  rcases hcu with ⟨rfl, rfl⟩ | ⟨j, hj, rfl, rfl⟩
  · rw [if_pos rfl, n_gd (by omega) (by omega), q_cl (by omega), hA.2.2.1 i hi, e25]
  · rw [if_neg (nI_m1 (by omega)), n_8, n_gd (by omega) (by omega), q_cl (by omega), hA.2.2.2 j i hj hi, e25]
theorem ro_few6 (fu : Nat) {S : zSt} {P : zP} {h : Nat} {l : List Nat} (hl : stO (pN P) l) (hA : rA S P h l) {cur : Int32} {a : Nat} (hcu : cuR h l cur a) {d : Nat} (hd : d < 2 ^ l.length) (hC : ∀ i, i < l.length → d.testBit i = false → rC S P h l (d + 2 ^ i)) (hle : ∀ i, i < l.length → fwF (pD P (pLaw P)) (pN P) h l d a i ≤ 2000000) : ∀ (m i n : Nat), i + m = l.length → m + 1 ≤ n → f_Ro_fewestBehind_6 fu n (nI d) cur (nI (mnF (fwF (pD P (pLaw P)) (pN P) h l d a) i)) (nI i) S = some (nI (mnF (fwF (pD P (pLaw P)) (pN P) h l d a) l.length)) := by
  have h8 := hl.1
  intro m
  induction m with
  | zero =>
    intro i n h1 h2
    obtain ⟨n', rfl⟩ : ∃ n', n = n' + 1 := ⟨n - 1, by omega⟩
    unfold f_Ro_fewestBehind_6
    rw [hA.1, if_pos ((n_le (by omega) (by omega)).mpr (by omega)), show i = l.length by omega]
  | succ m ih =>
    intro i n h1 h2
    obtain ⟨n', rfl⟩ : ∃ n', n = n' + 1 := ⟨n - 1, by omega⟩
    have hi : i < l.length := by omega
    have g1 := mnF_le (fwF (pD P (pLaw P)) (pN P) h l d a) i
    have g2 := hle i hi
    rw [← ih (i + 1) n' (by omega) (by omega), show mnF (fwF (pD P (pLaw P)) (pN P) h l d a) (i + 1) = min (mnF (fwF (pD P (pLaw P)) (pN P) h l d a) i) (fwF (pD P (pLaw P)) (pN P) h l d a i) from rfl]
    obtain ⟨K, eK⟩ : ∃ K, K = f_Ro_fewestBehind_6 fu n' := ⟨_, rfl⟩
    rw [← eK]
    have hand := and1_is (nI d) (s := i) (by omega)
    unfold f_Ro_fewestBehind_6
    rw [hA.1, if_neg (fun h => absurd ((n_le (by omega) (by omega)).mp h) (by omega)), ← eK, n_1]
    cases hb : d.testBit i with
    | false =>
      rw [if_pos (hand.2.mpr (by rw [inS_n d (by omega)]; exact hb)), qb1 (ro_by hl hA hcu hd hi hb (hC i hi hb))]
      by_cases hc : mnF (fwF (pD P (pLaw P)) (pN P) h l d a) i ≤ fwF (pD P (pLaw P)) (pN P) h l d a i
      · rw [if_pos ((n_le (by omega) (by omega)).mpr hc), Nat.min_eq_left hc]
      · rw [if_neg (fun h => hc ((n_le (by omega) (by omega)).mp h)), Nat.min_eq_right (by omega)]
    | true =>
      have e1 : fwF (pD P (pLaw P)) (pN P) h l d a i = 1000000 := by unfold fwF; rw [hb, if_neg (by decide)]
      rw [if_neg (fun h => by have := hand.2.mp h; rw [inS_n d (by omega), hb] at this; cases this), e1, Nat.min_eq_left g1]
theorem cuR_n {P : zP} {h : Nat} (hh : h < pN P) {l : List Nat} (hl : stO (pN P) l) {cur : Int32} {a : Nat} (hcu : cuR h l cur a) : a < pN P := by
  rcases hcu with ⟨-, rfl⟩ | ⟨i, hi, -, rfl⟩
  · exact hh
  · exact hl.2.1 i hi
theorem fwF_le {P : zP} {S : zSt} (hp : zPp S P (pLaw P)) {h a d : Nat} {l : List Nat} (hl : stO (pN P) l) (ha : a < pN P) (i : Nat) (hi : i < l.length) : fwF (pD P (pLaw P)) (pN P) h l d a i ≤ 2000000 := by
  unfold fwF
  have := (hp.2.1 a _ ha (hl.2.1 i hi)).2
  have := rdR_le (pD P (pLaw P)) (pN P) h (pd l (d + 2 ^ i)) (l.getD i 0)
  split <;> omega
theorem ro_few (fu : Nat) (hfu : 100 ≤ fu) {S : zSt} {P : zP} (hp : zPp S P (pLaw P)) {h : Nat} (hh : h < pN P) {l : List Nat} (hl : stO (pN P) l) (hA : rA S P h l) {cur : Int32} {a : Nat} (hcu : cuR h l cur a) {d : Nat} (hd : d < 2 ^ l.length) (hC : ∀ i, i < l.length → d.testBit i = false → rC S P h l (d + 2 ^ i)) (hne : ¬ cdP (pd l d) (pN P) = 0) : f_Ro_fewestBehind fu (nI d) cur S = some (nI (rdR (pD P (pLaw P)) (pN P) h (pd l d) a)) := by
  have h8 := hl.1
  have hd2 : (2 : Nat) ^ l.length ≤ 256 := Nat.le_trans (Nat.pow_le_pow_right (by omega) h8) (by decide)
  rw [← fw_eq hl (by omega) a hne]
  exact ro_few6 fu hl hA hcu hd hC (fun i hi => fwF_le hp hl (cuR_n hh hl hcu) i hi) l.length 0 fu (by omega) (by omega)
theorem rC_w {S : zSt} {P : zP} {h : Nat} {l : List Nat} (hl : l.length ≤ 8) {d d' k : Nat} (hC : rC S P h l d') (hne : d' ≠ d) (hk : k < 8) (v : Int32) : rC (zwI S 64 (d * 8 + k) v) P h l d' := fun i hi => by
  rw [qIIo _ _ (by omega)]
  exact hC i hi
theorem rA_o {S S' : zSt} {P : zP} {h : Nat} {l : List Nat} (hA : rA S P h l) (ho : oR 64 S S') : rA S' P h l := by
  obtain ⟨h1, h2, h3, h4⟩ := hA
  exact ⟨by rw [ho.2 60 1 (by omega)]; exact h1, fun i hi => by rw [ho.2 61 i (by omega)]; exact h2 i hi, fun i hi => by rw [ho.2 62 i (by omega)]; exact h3 i hi, fun i j hi hj => by rw [ho.2 63 _ (by omega)]; exact h4 i j hi hj⟩
theorem zPp_o {S S' : zSt} {P : zP} {law : List lC} (h : zPp S P law) {r : Nat} (hr : 58 < r) (ho : oR r S S') : zPp S' P law := zPp_f h (fun j a b => funext fun i => ho.2 j i (by omega))
/-- one line of the class's table -/
theorem ro_204 (fu : Nat) (hfu : 100 ≤ fu) {P : zP} {h : Nat} (hh : h < pN P) {l : List Nat} (hl : stO (pN P) l) {d : Nat} (hd : d < 2 ^ l.length) (hne : ¬ cdP (pd l d) (pN P) = 0) (k : Int32 → zSt → Option zSt) : ∀ (m i n : Nat) (S : zSt), i + m = l.length → m + 1 ≤ n → zPp S P (pLaw P) → rA S P h l → (∀ d', d < d' → d' < 2 ^ l.length → rC S P h l d') → (∀ i', i' < i → zI S 64 (d * 8 + i') = nI (rdQ P h l d i')) → ∃ S', f_Ro_plan_204 fu k n (nI d) (nI i) S = k (nI d + -1) S' ∧ oR 64 S S' ∧ ∀ d', d ≤ d' → d' < 2 ^ l.length → rC S' P h l d' := by
  have h8 := hl.1
  have hd2 : (2 : Nat) ^ l.length ≤ 256 := Nat.le_trans (Nat.pow_le_pow_right (by omega) h8) (by decide)
  intro m
  induction m with
  | zero =>
    intro i n S h1 h2 hp hA hC hr
    obtain ⟨n', rfl⟩ : ∃ n', n = n' + 1 := ⟨n - 1, by omega⟩
    refine ⟨S, ?_, oR_r _ S, fun d' g1 g2 => ?_⟩
    · unfold f_Ro_plan_204
      rw [hA.1, if_pos ((n_le (by omega) (by omega)).mpr (by omega))]
    · by_cases e : d' = d
      · rw [e]; exact fun i' hi' => hr i' (by omega)
      · exact hC d' (by omega) g2
  | succ m ih =>
    intro i n S h1 h2 hp hA hC hr
    obtain ⟨n', rfl⟩ : ∃ n', n = n' + 1 := ⟨n - 1, by omega⟩
    have hi : i < l.length := by omega
    have ef := ro_few fu hfu hp hh hl hA (cur := nI i) (a := l.getD i 0) (Or.inr ⟨i, hi, rfl, rfl⟩) hd (fun j hj hb => hC _ (by have := Nat.two_pow_pos j; omega) (set_lt l.length (by omega) d hd j hj hb)) hne
    obtain ⟨S1, g1, g2, g3⟩ := ih (i + 1) n' (zwI S 64 (d * 8 + i) (nI (rdQ P h l d i))) (by omega) (by omega) (zPp_o hp (r := 64) (by omega) (oR_w _ _ _ _)) (rA_o hA (oR_w _ _ _ _)) (fun d' a b => rC_w h8 (hC d' a b) (by omega) (by omega) _) (fun i' hi' => by
      by_cases e : i' = i
      · rw [e, qIIs]
      · rw [qIIo _ _ (by omega)]; exact hr i' (by omega))
    refine ⟨S1, ?_, oR_t (oR_w _ _ _ _) g2, g3⟩
    rw [← g1]
    obtain ⟨K, eK⟩ : ∃ K, K = f_Ro_plan_204 fu k n' := ⟨_, rfl⟩
    rw [← eK]
    unfold f_Ro_plan_204
    rw [hA.1, if_neg (fun h => absurd ((n_le (by omega) (by omega)).mp h) (by omega)), qb1 ef, n_8, n_gd (by omega) (by omega), q_cl (by omega), ← eK, n_1]
    rfl
theorem n_dn (d : Nat) : nI (d + 1) + -1 = nI d := by
  have e : nI (d + 1) - 1 = nI d := n_sub (a := d + 1) (b := 1) (by omega)
  rw [← e]
  exact (Int32.sub_eq_add_neg _ _).symm
theorem ro_196 (fu : Nat) (hfu : 100 ≤ fu) {P : zP} {h : Nat} (hh : h < pN P) {l : List Nat} (hl : stO (pN P) l) : ∀ (d n : Nat) (S : zSt), d + 1 < 2 ^ l.length → d + 1 ≤ n → zPp S P (pLaw P) → rA S P h l → (∀ d', d < d' → d' < 2 ^ l.length → rC S P h l d') → ∃ S', f_Ro_plan_196 fu n (nI d) S = some S' ∧ oR 64 S S' ∧ ∀ d', 0 < d' → d' < 2 ^ l.length → rC S' P h l d' := by
  have h8 := hl.1
  have hd2 : (2 : Nat) ^ l.length ≤ 256 := Nat.le_trans (Nat.pow_le_pow_right (by omega) h8) (by decide)
  intro d
  induction d with
  | zero =>
    intro n S h0 h1 hp hA hC
    obtain ⟨n', rfl⟩ : ∃ n', n = n' + 1 := ⟨n - 1, by omega⟩
    exact ⟨S, rfl, oR_r _ S, fun d' a b => hC d' a b⟩
  | succ d ih =>
    intro n S h0 h1 hp hA hC
    obtain ⟨n', rfl⟩ : ∃ n', n = n' + 1 := ⟨n - 1, by omega⟩
    have hne : ¬ cdP (pd l (d + 1)) (pN P) = 0 := fun h => by
      have := full_is (c := l.length) (d := d + 1) (by omega) ((pd_cd hl).mp h)
      omega
    obtain ⟨S1, s1, s2, s3⟩ := ro_204 fu hfu hh hl (d := d + 1) (by omega) hne (f_Ro_plan_196 fu n') l.length 0 fu S (by omega) (by omega) hp hA hC (fun i' hi' => absurd hi' (by omega))
    obtain ⟨S2, g1, g2, g3⟩ := ih n' S1 (by omega) (by omega) (zPp_o hp (by omega) s2) (rA_o hA s2) (fun d' a b => s3 d' (by omega) b)
    refine ⟨S2, ?_, oR_t s2 g2, g3⟩
    rw [← g1]
    rw [n_dn] at s1
    refine Eq.trans ?_ s1
    rw [show f_Ro_plan_196 fu (n' + 1) (nI (d + 1)) S = if nI (d + 1) ≤ 0 then some S else f_Ro_plan_204 fu (f_Ro_plan_196 fu n') fu (nI (d + 1)) 0 S from rfl, if_neg (show ¬ nI (d + 1) ≤ 0 from fun h => absurd ((n_le (b := 0) (by omega) (by omega)).mp h) (by omega))]
    rfl
/-! round: the legs -/
def rL (S : zSt) (l : List Nat) : Prop := zI S 60 1 = nI l.length ∧ ∀ i, i < l.length → zI S 61 i = nI (l.getD i 0)
def rB (S : zSt) (P : zP) (h : Nat) (l : List Nat) (i : Nat) : Prop := ∀ i', i' < i → zI S 62 i' = nI (pD P (pLaw P) h (l.getD i' 0)) ∧ zI S 64 ((2 ^ l.length - 1) * 8 + i') = nI (pD P (pLaw P) (l.getD i' 0) h) ∧ ∀ j, j < l.length → zI S 63 (i' * 8 + j) = nI (pD P (pLaw P) (l.getD i' 0) (l.getD j 0))
theorem ro_138 (fu : Nat) {P : zP} (hP : pOK P) {l : List Nat} (hl : stO (pN P) l) (k : Int32 → Int32 → Int32 → zSt → Option zSt) (x y : Int32) {i : Nat} (hi : i < l.length) : ∀ (m j n : Nat) (S : zSt), j + m = l.length → m + 1 ≤ n → zPp S P (pLaw P) → rL S l → (∀ j', j' < j → zI S 63 (i * 8 + j') = nI (pD P (pLaw P) (l.getD i 0) (l.getD j' 0))) → ∃ S', f_Ro_plan_138 fu k n x y (nI i) (nI j) S = k x y (nI (i + 1)) S' ∧ S'.2 = S.2 ∧ (∀ a b, ¬ (a = 63 ∧ i * 8 ≤ b ∧ b < i * 8 + 8) → zI S' a b = zI S a b) ∧ ∀ j', j' < l.length → zI S' 63 (i * 8 + j') = nI (pD P (pLaw P) (l.getD i 0) (l.getD j' 0)) := by
  have h8 := hl.1
  intro m
  induction m with
  | zero =>
    intro j n S h1 h2 hp hL hr
    obtain ⟨n', rfl⟩ : ∃ n', n = n' + 1 := ⟨n - 1, by omega⟩
    refine ⟨S, ?_, rfl, fun _ _ _ => rfl, by rw [← show j = l.length by omega]; exact hr⟩
    unfold f_Ro_plan_138
    rw [hL.1, if_pos ((n_le (by omega) (by omega)).mpr (by omega)), n_1]
  | succ m ih =>
    intro j n S h1 h2 hp hL hr
    obtain ⟨n', rfl⟩ : ∃ n', n = n' + 1 := ⟨n - 1, by omega⟩
    have hj : j < l.length := by omega
    obtain ⟨v, ev⟩ : ∃ v, v = nI (pD P (pLaw P) (l.getD i 0) (l.getD j 0)) := ⟨_, rfl⟩
    have eo := ro_of hP hp (hl.2.1 i hi) (hl.2.1 j hj)
    obtain ⟨S1, g1, g2, g3, g4⟩ := ih (j + 1) n' (zwI S 63 (i * 8 + j) v) (by omega) (by omega) (zPp_o hp (r := 63) (by omega) (oR_w _ _ _ _)) ⟨by rw [qIIo _ _ (by omega)]; exact hL.1, fun i' hi' => by rw [qIIo _ _ (by omega)]; exact hL.2 i' hi'⟩ (fun j' hj' => by
      by_cases e : j' = j
      · rw [e, qIIs, ev]
      · rw [qIIo _ _ (by omega)]; exact hr j' (by omega))
    refine ⟨S1, ?_, g2, fun a b hab => (g3 a b hab).trans (qIIo _ _ (by omega)), g4⟩
    rw [← g1]
    obtain ⟨K, eK⟩ : ∃ K, K = f_Ro_plan_138 fu k n' := ⟨_, rfl⟩
    rw [← eK]
    unfold f_Ro_plan_138
    rw [hL.1, if_neg (fun h => absurd ((n_le (by omega) (by omega)).mp h) (by omega)), n_gd (by omega) (by omega), n_gd (by omega) (by omega), q_cl (by omega), q_cl (by omega), hL.2 i hi, hL.2 j hj, qb1 eo, n_8, n_gd (by omega) (by omega), q_cl (by omega), ← eK, n_1, ev]
theorem ro_82 (fu : Nat) (hfu : 100 ≤ fu) {P : zP} (hP : pOK P) {h : Nat} (hh : h < pN P) {l : List Nat} (hl : stO (pN P) l) : ∀ (m i n : Nat) (S : zSt), i + m = l.length → m + 1 ≤ n → zPp S P (pLaw P) → rL S l → rB S P h l i → ∃ S', f_Ro_plan_82 fu n (nI h) (nI (2 ^ l.length - 1)) (nI i) S = f_Ro_plan_190 fu (nI (2 ^ l.length - 1)) S' ∧ zCo S S' ∧ zPp S' P (pLaw P) ∧ rL S' l ∧ rB S' P h l l.length := by
  have h8 := hl.1
  have hd2 : (2 : Nat) ^ l.length ≤ 256 := Nat.le_trans (Nat.pow_le_pow_right (by omega) h8) (by decide)
  intro m
  induction m with
  | zero =>
    intro i n S h1 h2 hp hL hB
    obtain ⟨n', rfl⟩ : ∃ n', n = n' + 1 := ⟨n - 1, by omega⟩
    refine ⟨S, ?_, zCo_r S, hp, hL, by rw [← show i = l.length by omega]; exact hB⟩
    unfold f_Ro_plan_82
    rw [hL.1, if_pos ((n_le (by omega) (by omega)).mpr (by omega))]
  | succ m ih =>
    intro i n S h1 h2 hp hL hB
    obtain ⟨n', rfl⟩ : ∃ n', n = n' + 1 := ⟨n - 1, by omega⟩
    have hi : i < l.length := by omega
    have hli := hl.2.1 i hi
    obtain ⟨u, eu⟩ : ∃ u, u = nI (pD P (pLaw P) h (l.getD i 0)) := ⟨_, rfl⟩
    obtain ⟨w, ew⟩ : ∃ w, w = nI (pD P (pLaw P) (l.getD i 0) h) := ⟨_, rfl⟩
    have o1 : oR 62 S (zwI S 62 i u) := oR_w _ _ _ _
    have p1 : zPp (zwI S 62 i u) P (pLaw P) := zPp_o hp (by omega) o1
    have o2 : oR 64 (zwI S 62 i u) (zwI (zwI S 62 i u) 64 ((2 ^ l.length - 1) * 8 + i) w) := oR_w _ _ _ _
    have p2 := zPp_o p1 (by omega) o2
    obtain ⟨S0, eS0⟩ : ∃ S0, S0 = zwI (zwI S 62 i u) 64 ((2 ^ l.length - 1) * 8 + i) w := ⟨_, rfl⟩
    rw [← eS0] at o2 p2
    have f0 : ∀ a b, ¬ (a = 62 ∧ b = i) → ¬ (a = 64 ∧ b = (2 ^ l.length - 1) * 8 + i) → zI S0 a b = zI S a b := fun a b n1 n2 => by rw [eS0, qIIo _ _ n2, qIIo _ _ n1]
    have l0 : rL S0 l := ⟨by rw [f0 60 1 (by omega) (by omega)]; exact hL.1, fun i' hi' => by rw [f0 61 i' (by omega) (by omega)]; exact hL.2 i' hi'⟩
    obtain ⟨S1, s1, s2, s3, s4⟩ := ro_138 fu hP hl (f_Ro_plan_82 fu n') (nI h) (nI (2 ^ l.length - 1)) hi l.length 0 fu S0 (by omega) (by omega) p2 l0 (fun j' hj' => absurd hj' (by omega))
    have c01 : oR 63 S0 S1 := ⟨s2, fun a b hab => s3 a b (by omega)⟩
    have cS : zCo S S1 := zCo_t (oR_co o1 (fun k => by unfold scI; omega)) (zCo_t (oR_co o2 (fun k => by unfold scI; omega)) (oR_co c01 (fun k => by unfold scI; omega)))
    have l1 : rL S1 l := ⟨by rw [s3 60 1 (by omega)]; exact l0.1, fun i' hi' => by rw [s3 61 i' (by omega)]; exact l0.2 i' hi'⟩
    have b1 : rB S1 P h l (i + 1) := fun i' hi' => by
      rw [s3 62 i' (by omega), s3 64 _ (by omega)]
      by_cases e : i' = i
      · rw [e]
        refine ⟨?_, ?_, s4⟩
        · rw [eS0, qIIo _ _ (by omega), qIIs, eu]
        · rw [eS0, qIIs, ew]
      · rw [f0 62 i' (by omega) (by omega), f0 64 _ (by omega) (by omega)]
        obtain ⟨b1, b2, b3⟩ := hB i' (by omega)
        exact ⟨b1, b2, fun j hj => by rw [s3 63 _ (by omega), f0 63 _ (by omega) (by omega)]; exact b3 j hj⟩
    obtain ⟨S2, g1, g2, g3, g4, g5⟩ := ih (i + 1) n' S1 (by omega) (by omega) (zPp_o p2 (by omega) c01) l1 b1
    refine ⟨S2, ?_, zCo_t cS g2, g3, g4, g5⟩
    rw [← g1]
    refine Eq.trans ?_ s1
    have x1 : f_Ro_daysOf (nI h) (nI (l.getD i 0)) S = some u := by rw [eu]; exact ro_of hP hp hh hli
    have x2 : f_Ro_daysOf (nI (l.getD i 0)) (nI h) (zwI S 62 i u) = some w := by rw [ew]; exact ro_of hP p1 hli hh
    obtain ⟨K, eK⟩ : ∃ K, K = f_Ro_plan_82 fu n' := ⟨_, rfl⟩
    rw [← eK]
    unfold f_Ro_plan_82
    rw [hL.1, if_neg (fun h => absurd ((n_le (by omega) (by omega)).mp h) (by omega)), n_gd (by omega) (by omega), q_cl (by omega), hL.2 i hi, qb1 x1, qgd ⟨n_0 (by omega), by omega⟩, qgd ⟨n_0 (by omega), by omega⟩, qIIo _ _ (by omega), hL.2 i hi, qb1 x2, n_8, n_gd (by omega) (by omega), q_cl (by omega), ← eK, ← eS0]
    rfl
theorem ro_8 (fu : Nat) {P : zP} (hP : pOK P) {h v : Nat} (hh : h < pN P) : ∀ (m s n : Nat) (S : zSt), s + m = pN P → m + 1 ≤ n → zPp S P (pLaw P) → rL S (rSt v h s) → ∃ S', f_Ro_plan_8 fu n (nI h) (nI v) (nI s) S = f_Ro_plan_69 fu (nI h) S' ∧ zCo S S' ∧ zPp S' P (pLaw P) ∧ rL S' (rSt v h (pN P)) := by
  have h9 := hP.1
  intro m
  induction m with
  | zero =>
    intro s n S h1 h2 hp hL
    obtain ⟨n', rfl⟩ : ∃ n', n = n' + 1 := ⟨n - 1, by omega⟩
    refine ⟨S, ?_, zCo_r S, hp, by rw [← show s = pN P by omega]; exact hL⟩
    unfold f_Ro_plan_8
    rw [hp.1, if_pos ((n_le (by omega) (by omega)).mpr (by omega))]
  | succ m ih =>
    intro s n S h1 h2 hp hL
    obtain ⟨n', rfl⟩ : ∃ n', n = n' + 1 := ⟨n - 1, by omega⟩
    have hln := rSt_len v h s
    have hss := rSt_s v h s
    obtain ⟨l, el⟩ : ∃ l, l = rSt v h s := ⟨_, rfl⟩
    rw [← el] at hL hln hss
    by_cases h8 : 8 ≤ l.length
    · refine ⟨S, ?_, zCo_r S, hp, ?_⟩
      · unfold f_Ro_plan_8
        rw [hp.1, if_neg (fun h => absurd ((n_le (by omega) (by omega)).mp h) (by omega)), hL.1, if_pos (show (8 : Int32) ≤ nI l.length from (n_le (a := 8) (by omega) (by omega)).mpr h8)]
      · by_cases hs : h < s
        · rw [if_pos hs] at hln; omega
        · rw [if_neg hs] at hln
          have e1 : pN P = s + 1 := by omega
          have e2 : s = h := by omega
          rw [e1, hss, if_neg (show ¬ (v.testBit s && decide (s ≠ h)) = true by rw [e2]; simp), List.append_nil]
          exact hL
    · have st : ∃ S0, f_Ro_plan_8 fu (n' + 1) (nI h) (nI v) (nI s) S = f_Ro_plan_8 fu n' (nI h) (nI v) (nI (s + 1)) S0 ∧ zCo S S0 ∧ zPp S0 P (pLaw P) ∧ rL S0 (rSt v h (s + 1)) := by
        have hand := and1_is (nI v) (s := s) (by omega)
        obtain ⟨K, eK⟩ : ∃ K, K = f_Ro_plan_8 fu n' := ⟨_, rfl⟩
        rw [hss, ← eK]
        unfold f_Ro_plan_8
        rw [hp.1, if_neg (fun h => absurd ((n_le (by omega) (by omega)).mp h) (by omega)), hL.1, if_neg (show ¬ (8 : Int32) ≤ nI l.length from fun h => absurd ((n_le (a := 8) (by omega) (by omega)).mp h) (by omega)), ← eK, n_1]
        by_cases e1 : s = h
        · rw [if_pos (show nI s = nI h by rw [e1])]
          refine ⟨S, rfl, zCo_r S, hp, ?_⟩
          rw [if_neg (show ¬ (v.testBit s && decide (s ≠ h)) = true by rw [e1]; simp), List.append_nil]
          exact hL
        rw [if_neg (fun h => e1 ((n_eq (by omega) (by omega)).mp h))]
        cases e2 : v.testBit s with
        | false =>
          rw [if_neg (fun h => by have := hand.1.mp h; rw [inS_n v (by omega), e2] at this; cases this)]
          refine ⟨S, rfl, zCo_r S, hp, ?_⟩
          rw [if_neg (show ¬ (false && decide (s ≠ h)) = true by simp), List.append_nil]
          exact hL
        | true =>
          rw [if_pos (hand.1.mpr (by rw [inS_n v (by omega), e2])), n_gd (by omega) (by omega), q_cl (by omega), qIIo _ _ (by omega), hL.1, n_1]
          refine ⟨_, rfl, zCo_t (zCo_w S (j := 61) (k := l.length) (nI s) (by unfold scI; omega)) (zCo_w _ _ (by unfold scI; omega)), zPp_f hp (fun j a b => funext fun i => by rw [qIIo _ _ (by omega), qIIo _ _ (by omega)]), ?_⟩
          rw [if_pos (show (true && decide (s ≠ h)) = true by simp [e1])]
          refine ⟨by rw [qIIs, List.length_append]; rfl, fun i hi => ?_⟩
          rw [List.length_append] at hi
          have hi' : i < l.length + 1 := hi
          rw [qIIo _ _ (by omega)]
          by_cases e3 : i = l.length
          · rw [e3, qIIs, List.getD_eq_getElem?_getD, List.getElem?_append_right (Nat.le_refl _), Nat.sub_self]
            rfl
          · rw [qIIo _ _ (by omega), hL.2 i (by omega), List.getD_eq_getElem?_getD, List.getD_eq_getElem?_getD, List.getElem?_append_left (by omega)]
      obtain ⟨S0, s1, s2, s3, s4⟩ := st
      obtain ⟨S1, g1, g2, g3, g4⟩ := ih (s + 1) n' S0 (by omega) (by omega) s3 s4
      exact ⟨S1, s1.trans g1, zCo_t s2 g2, g3, g4⟩
theorem ro_plan (fu : Nat) (hfu : 1000 ≤ fu) {P : zP} (hP : pOK P) {h v : Nat} (hh : h < pN P) {S : zSt} (hp : zPp S P (pLaw P)) : ∃ S', f_Ro_plan fu (nI h) (nI v) S = some S' ∧ zCo S S' ∧ zPp S' P (pLaw P) ∧ rA S' P h (rSt v h (pN P)) ∧ ∀ d, 0 < d → d < 2 ^ (rSt v h (pN P)).length → rC S' P h (rSt v h (pN P)) d := by
  have h9 := hP.1
  have c0 : zCo S (zwI S 60 1 0) := zCo_w S _ (by unfold scI; omega)
  obtain ⟨S1, a1, a2, a3, a4⟩ := ro_8 fu hP (v := v) hh (pN P) 0 fu (zwI S 60 1 0) (by omega) (by omega) (zPp_f hp (fun j a b => funext fun i => by rw [qIIo _ _ (by omega)])) ⟨by rw [qIIs]; rfl, fun i hi => absurd hi (by show ¬ i < 0; omega)⟩
  have hl := rSt_stO (v := v) h9 hh
  obtain ⟨l, el⟩ : ∃ l, l = rSt v h (pN P) := ⟨_, rfl⟩
  rw [← el] at a4 hl ⊢
  have h8 := hl.1
  have hd2 : (2 : Nat) ^ l.length ≤ 256 := Nat.le_trans (Nat.pow_le_pow_right (by omega) h8) (by decide)
  have hp1 : 1 ≤ (2 : Nat) ^ l.length := Nat.two_pow_pos _
  obtain ⟨S2, b1, b2, b3, b4, b5⟩ := ro_82 fu (by omega) hP hh hl l.length 0 fu S1 (by omega) (by omega) a3 a4 (fun i' hi' => absurd hi' (by omega))
  have hA : rA S2 P h l := ⟨b4.1, b4.2, fun i hi => (b5 i hi).1, fun i j hi hj => (b5 i hi).2.2 j hj⟩
  have hfull : rC S2 P h l (2 ^ l.length - 1) := fun i hi => by
    rw [(b5 i hi).2.1]
    have : rdQ P h l (2 ^ l.length - 1) i = min 1000000 (pD P (pLaw P) (l.getD i 0) h) := by
      unfold rdQ
      refine rdR_0 _ (fun s hs => ?_)
      cases e : pd l (2 ^ l.length - 1) s with
      | false => rfl
      | true =>
        obtain ⟨j, hj, h2, -⟩ := pd_t.mp e
        rw [Nat.testBit_two_pow_sub_one, decide_eq_true hj] at h2
        cases h2
    have hle := (b3.2.1 _ h (hl.2.1 i hi) hh).2
    rw [this, Nat.min_eq_right hle]
  have e69 : f_Ro_plan_69 fu (nI h) S1 = f_Ro_plan_190 fu (nI (2 ^ l.length - 1)) S2 := by
    rw [← b1]
    unfold f_Ro_plan_69
    rw [a4.1, sh_n _ (by omega), show nI (2 ^ l.length) - 1 = nI (2 ^ l.length - 1) from n_sub (a := 2 ^ l.length) (b := 1) hp1]
    rfl
  have e190 : ∃ S3, f_Ro_plan_190 fu (nI (2 ^ l.length - 1)) S2 = some S3 ∧ oR 64 S2 S3 ∧ ∀ d, 0 < d → d < 2 ^ l.length → rC S3 P h l d := by
    unfold f_Ro_plan_190
    by_cases e1 : 2 ^ l.length - 1 = 0
    · refine ⟨S2, ?_, oR_r _ S2, fun d g1 g2 => absurd g1 (by omega)⟩
      obtain ⟨f', rfl⟩ : ∃ f', fu = f' + 1 := ⟨fu - 1, by omega⟩
      rw [e1]
      unfold f_Ro_plan_196
      rw [if_pos (show nI 0 - 1 ≤ 0 by decide)]
    · rw [show nI (2 ^ l.length - 1) - 1 = nI (2 ^ l.length - 1 - 1) from n_sub (a := 2 ^ l.length - 1) (b := 1) (by omega)]
      exact ro_196 fu (by omega) hh hl (2 ^ l.length - 1 - 1) fu S2 (by omega) (by omega) b3 hA (fun d' g1 g2 => by rw [show d' = 2 ^ l.length - 1 by omega]; exact hfull)
  obtain ⟨S3, t1, t2, t3⟩ := e190
  refine ⟨S3, ?_, zCo_t c0 (zCo_t a2 (zCo_t b2 (oR_co t2 (fun k => by unfold scI; omega)))), zPp_o b3 (by omega) t2, rA_o hA t2, t3⟩
  unfold f_Ro_plan
  exact a1.trans (e69.trans t1)

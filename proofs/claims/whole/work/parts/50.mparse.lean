/-! the reference's parser: the token's number, how many parts, the fault; all else stays -/
def zQ (S : zSt) (t v b : Int32) : zSt := zwI (zwI (zwI S 72 19 t) 72 20 v) 72 21 b
theorem zQ_19 (S : zSt) (t v b : Int32) : zI (zQ S t v b) 72 19 = t := by unfold zQ; rw [qIIo _ _ (by omega), qIIo _ _ (by omega), qIIs]
theorem zQ_20 (S : zSt) (t v b : Int32) : zI (zQ S t v b) 72 20 = v := by unfold zQ; rw [qIIo _ _ (by omega), qIIs]
theorem zQ_21 (S : zSt) (t v b : Int32) : zI (zQ S t v b) 72 21 = b := by unfold zQ; rw [qIIs]
theorem zQ_o (S : zSt) (t v b : Int32) {j k : Nat} (h : j ≠ 72 ∨ (k ≠ 19 ∧ k ≠ 20 ∧ k ≠ 21)) : zI (zQ S t v b) j k = zI S j k := by unfold zQ; rw [qIIo _ _ (by omega), qIIo _ _ (by omega), qIIo _ _ (by omega)]
theorem zQ_w19 (S : zSt) (t v b t' : Int32) : zwI (zQ S t v b) 72 19 t' = zQ S t' v b := by
  unfold zQ zwI zup
  refine congrArg (fun f => (f, S.2)) ?_
  funext j l
  by_cases hj : j = 72
  · by_cases h1 : l = 19
    · simp [hj, h1]
    · simp [hj, h1]
  · simp [hj]
theorem zQ_w20 (S : zSt) (t v b v' : Int32) : zwI (zQ S t v b) 72 20 v' = zQ S t v' b := by
  unfold zQ zwI zup
  refine congrArg (fun f => (f, S.2)) ?_
  funext j l
  by_cases hj : j = 72
  · by_cases h1 : l = 20
    · simp [hj, h1]
    · simp [hj, h1]
  · simp [hj]
theorem zQ_w21 (S : zSt) (t v b b' : Int32) : zwI (zQ S t v b) 72 21 b' = zQ S t v b' := by
  unfold zQ zwI zup
  refine congrArg (fun f => (f, S.2)) ?_
  funext j l
  by_cases hj : j = 72
  · by_cases h1 : l = 21
    · simp [hj, h1]
    · simp [hj, h1]
  · simp [hj]
theorem m_fine1 (S : zSt) (t v : Int32) : f_M_fine (zQ S t v (-1)) = some 1 := by unfold f_M_fine; rw [zQ_21, if_pos rfl]
theorem m_fine0 (S : zSt) (t v : Int32) {b : Int32} (h : b ≠ -1) : f_M_fine (zQ S t v b) = some 0 := by unfold f_M_fine; rw [zQ_21, if_neg h]
/-- what the reference's rows hold while it reads -/
def zMS (S : zSt) (B : Nat → Int32) (T N : Nat) : Prop := N ≤ 400 ∧ T ≤ 400 ∧ tNo B T N ∧ (∀ j, j ≤ N → zI S 81 j = tC B T j ∧ zI S 83 j = nI (tPos B T j)) ∧ (∀ j, j < N → vR (zI S 82 j) (tV B T j))
theorem tC_end {B : Nat → Int32} {T N : Nat} (hN : tNo B T N) {j : Nat} (h : N ≤ j) : tC B T j = 0 := by
  unfold tC tCq
  rw [if_pos ((kat_end hN j).mpr h)]
theorem tok_in {B : Nat → Int32} {T N : Nat} (hN : tNo B T N) {j : Nat} (h : tC B T j ≠ 0) : j < N := Nat.lt_of_not_le (fun h2 => h (tC_end hN h2))
theorem pos_ne (B : Nat → Int32) {T : Nat} (hT : T ≤ 400) (j : Nat) : nI (tPos B T j) ≠ -1 := by
  have := tPos_le B T j
  exact fun h => absurd (congrArg Int32.toInt h) (by rw [q_nI (by omega), show (-1 : Int32).toInt = -1 from rfl]; omega)
theorem m_takes_dead (S : zSt) (t v : Int32) {b : Int32} (h : b ≠ -1) (c : Int32) : f_M_takes0 c (zQ S t v b) = some (0, zQ S t v b) := by
  unfold f_M_takes0
  rw [qb1 (m_fine0 S t v h), if_pos rfl, f_M_takes0_25, if_pos rfl, qgd (by decide)]
theorem m_takes {S : zSt} {B : Nat → Int32} {T N i : Nat} (hM : zMS S B T N) (hi : i ≤ N) (v c : Int32) :
    (tC B T i = c → f_M_takes0 c (zQ S (nI i) v (-1)) = some (1, zQ S (nI (i + 1)) v (-1))) ∧ (tC B T i ≠ c → f_M_takes0 c (zQ S (nI i) v (-1)) = some (0, zQ S (nI i) v (-1))) := by
  have hN := hM.1
  have e := (hM.2.2.2.1 i hi).1
  constructor
  · intro hc
    unfold f_M_takes0
    rw [qb1 (m_fine1 S _ v), if_neg (by decide), zQ_19, n_gd (by omega) (by omega), q_cl (by omega), zQ_o _ _ _ _ (Or.inl (by omega)), e, if_pos hc, f_M_takes0_25, if_neg (by decide), qgd (by decide), zQ_19, n_1, zQ_w19]
  · intro hc
    unfold f_M_takes0
    rw [qb1 (m_fine1 S _ v), if_neg (by decide), zQ_19, n_gd (by omega) (by omega), q_cl (by omega), zQ_o _ _ _ _ (Or.inl (by omega)), e, if_neg hc, f_M_takes0_25, if_pos rfl, qgd (by decide)]
theorem m_faults_dead (S : zSt) (t v : Int32) {b : Int32} (h : b ≠ -1) : f_M_faults (zQ S t v b) = some (zQ S t v b) := by
  unfold f_M_faults
  rw [qb1 (m_fine0 S t v h), if_pos rfl]
theorem m_faults {S : zSt} {B : Nat → Int32} {T N i : Nat} (hM : zMS S B T N) (hi : i ≤ N) (v : Int32) : f_M_faults (zQ S (nI i) v (-1)) = some (zQ S (nI i) v (nI (tPos B T i))) := by
  have hN := hM.1
  have e := (hM.2.2.2.1 i hi).2
  unfold f_M_faults
  rw [qb1 (m_fine1 S _ v), if_neg (by decide), zQ_19, n_gd (by omega) (by omega), q_cl (by omega), zQ_o _ _ _ _ (Or.inl (by omega)), e, zQ_w21]
theorem m_must_dead (S : zSt) (t v : Int32) {b : Int32} (h : b ≠ -1) (c : Int32) : f_M_must c (zQ S t v b) = some (zQ S t v b) := by
  unfold f_M_must
  rw [qb2 (m_takes_dead S t v h c), if_pos rfl, qb1 (m_faults_dead S t v h)]
theorem m_must {S : zSt} {B : Nat → Int32} {T N i : Nat} (hM : zMS S B T N) (hi : i ≤ N) (v c : Int32) :
    (tC B T i = c → f_M_must c (zQ S (nI i) v (-1)) = some (zQ S (nI (i + 1)) v (-1))) ∧ (tC B T i ≠ c → f_M_must c (zQ S (nI i) v (-1)) = some (zQ S (nI i) v (nI (tPos B T i)))) := by
  have t := m_takes hM hi v c
  constructor
  · intro hc
    unfold f_M_must
    rw [qb2 (t.1 hc), if_neg (by decide)]
  · intro hc
    unfold f_M_must
    rw [qb2 (t.2 hc), if_pos rfl, qb1 (m_faults hM hi v)]
theorem m_lies (x lo hi : Int32) : f_M_lies x lo hi = some (if lo ≤ x ∧ x ≤ hi then 1 else 0) := by
  unfold f_M_lies
  by_cases h1 : x < lo
  · rw [if_pos h1, if_neg (fun h => absurd h.1 (by rw [q_le]; rw [q_lt] at h1; omega))]
  · rw [if_neg h1]
    by_cases h2 : hi < x
    · rw [if_pos h2, if_neg (fun h => absurd h.2 (by rw [q_le]; rw [q_lt] at h2; omega))]
    · rw [if_neg h2, if_pos ⟨by rw [q_le]; rw [q_lt] at h1; omega, by rw [q_le]; rw [q_lt] at h2; omega⟩]
theorem vR_lies {x y : Int32} (h : vR x y) (lo hi : Int32) (hh : hi.toInt ≤ 1000) : (lo ≤ x ∧ x ≤ hi) ↔ (lo ≤ y ∧ y ≤ hi) := by
  have e : (1000 : Int32).toInt = 1000 := rfl
  by_cases h1 : y ≤ 1000
  · rw [h.1 h1]
  · have h2 := h.2 h1
    rw [q_le, e] at h1 h2
    constructor
    · intro h3
      have := h3.2
      rw [q_le] at this
      omega
    · intro h3
      have := h3.2
      rw [q_le] at this
      omega
theorem m_number_dead (S : zSt) (t v : Int32) {b : Int32} (h : b ≠ -1) (lo hi : Int32) : f_M_mustNumber lo hi (zQ S t v b) = some (zQ S t v b) := by
  unfold f_M_mustNumber
  rw [qb1 (m_fine0 S t v h), if_pos rfl, qb1 (m_fine0 S t v h), if_pos rfl]
theorem m_number {S : zSt} {B : Nat → Int32} {T N i : Nat} (hM : zMS S B T N) (hi : i ≤ N) (v lo hi' : Int32) (hh : hi'.toInt ≤ 1000) :
    (tC B T i = 50 ∧ lo ≤ tV B T i ∧ tV B T i ≤ hi' → f_M_mustNumber lo hi' (zQ S (nI i) v (-1)) = some (zQ S (nI (i + 1)) v (-1))) ∧ (¬ (tC B T i = 50 ∧ lo ≤ tV B T i ∧ tV B T i ≤ hi') → f_M_mustNumber lo hi' (zQ S (nI i) v (-1)) = some (zQ S (nI i) v (nI (tPos B T i)))) := by
  have hN := hM.1
  have e := (hM.2.2.2.1 i hi).1
  have F : f_M_mustNumber_38 (zQ S (nI i) v (-1)) = some (zQ S (nI i) v (nI (tPos B T i))) := by
    unfold f_M_mustNumber_38
    rw [qb1 (m_faults hM hi v), qb1 (m_fine0 S _ v (pos_ne B hM.2.1 i)), if_pos rfl]
  have U : f_M_mustNumber lo hi' (zQ S (nI i) v (-1)) = if tC B T i = 50 then (if lo ≤ zI S 82 i ∧ zI S 82 i ≤ hi' then some (zQ S (nI (i + 1)) v (-1)) else some (zQ S (nI i) v (nI (tPos B T i)))) else some (zQ S (nI i) v (nI (tPos B T i))) := by
    unfold f_M_mustNumber
    rw [qb1 (m_fine1 S _ v), if_neg (by decide), zQ_19, n_gd (by omega) (by omega), q_cl (by omega), zQ_o _ _ _ _ (Or.inl (by omega)), e, qgd ⟨n_0 (by omega), by omega⟩, zQ_o _ _ _ _ (Or.inl (by omega)), m_lies, qb1s, F]
    by_cases h1 : tC B T i = 50
    · rw [if_pos h1, if_pos h1]
      by_cases h2 : lo ≤ zI S 82 i ∧ zI S 82 i ≤ hi'
      · rw [if_pos h2, if_pos h2, if_neg (by decide), qb1 (m_fine1 S _ v), if_neg (by decide), n_1, zQ_w19]
      · rw [if_neg h2, if_neg h2, if_pos rfl]
    · rw [if_neg h1, if_neg h1]
  rw [U]
  by_cases h1 : tC B T i = 50
  · have hlt : i < N := tok_in hM.2.2.1 (by rw [h1]; decide)
    have hv := vR_lies (hM.2.2.2.2 i hlt) lo hi' hh
    rw [if_pos h1]
    constructor
    · intro h; rw [if_pos (hv.mpr h.2)]
    · intro h; rw [if_neg (fun h2 => h ⟨h1, hv.mp h2⟩)]
  · rw [if_neg h1]
    exact ⟨fun h => absurd h.1 h1, fun _ => rfl⟩
/-! pieces -/
def sR {α : Type} (R : Nat ⊕ (Nat × Nat × α)) : Nat ⊕ (Nat × Nat) := match R with
  | .inl j => .inl j
  | .inr (j, q, _) => .inr (j, q)
def mR (B : Nat → Int32) (T N i q : Nat) (R : Nat ⊕ (Nat × Nat)) (t v b : Int32) : Prop := match R with
  | .inl j => j ≤ N ∧ b = nI (tPos B T j)
  | .inr (j, q') => t = nI j ∧ v = nI q' ∧ b = -1 ∧ i ≤ j ∧ j ≤ N ∧ q ≤ q' ∧ q' ≤ 50
def mOk (S : zSt) (B : Nat → Int32) (T N : Nat) (f : zSt → Option zSt) (p : Nat → Nat → Nat ⊕ (Nat × Nat)) : Prop := (∀ t v b, b ≠ -1 → f (zQ S t v b) = some (zQ S t v b)) ∧ ∀ i q, i ≤ N → q ≤ 50 → ∃ t v b, f (zQ S (nI i) (nI q) (-1)) = some (zQ S t v b) ∧ mR B T N i q (p i q) t v b
theorem mR_up {B : Nat → Int32} {T N i i' q q' : Nat} {R : Nat ⊕ (Nat × Nat)} {t v b : Int32} (h : mR B T N i' q' R t v b) (hi : i ≤ i') (hq : q ≤ q') : mR B T N i q R t v b := by
  cases R with
  | inl j => exact h
  | inr x =>
    obtain ⟨j, q2⟩ := x
    obtain ⟨h1, h2, h3, h4, h5, h6, h7⟩ := h
    exact ⟨h1, h2, h3, by omega, h5, by omega, h7⟩
theorem m_leaf {S : zSt} {B : Nat → Int32} {T N i q : Nat} (hM : zMS S B T N) (hi : i ≤ N) (hq : q ≤ 50) :
    (q < 50 → f_M_leaf (zQ S (nI i) (nI q) (-1)) = some (zQ S (nI (i + 1)) (nI (q + 1)) (-1))) ∧ (50 ≤ q → f_M_leaf (zQ S (nI i) (nI q) (-1)) = some (zQ S (nI i) (nI (q + 1)) (nI (tPos B T i)))) := by
  constructor
  · intro h
    have ne : ¬ nI q = (50 : Int32) := fun h2 => absurd ((n_eq (b := 50) (by omega) (by omega)).mp h2) (by omega)
    unfold f_M_leaf f_M_leaf_13
    rw [zQ_20, if_neg ne, n_1, zQ_w20, qb1 (m_fine1 S _ _), if_neg (by decide), zQ_19, n_1, zQ_w19]
  · intro h
    have e : nI q = (50 : Int32) := by rw [show q = 50 by omega]; rfl
    have hf := m_faults hM hi (nI q)
    unfold f_M_leaf
    rw [zQ_20, if_pos e, qb1 hf]
    unfold f_M_leaf_13
    rw [zQ_20, n_1, zQ_w20, qb1 (m_fine0 S _ _ (pos_ne B hM.2.1 i)), if_pos rfl]
/-- the reference's words of a language -/
def zMW (S : zSt) (ord : Bool) : Prop := zI S 72 10 = b2 ord ∧ zI S 72 8 = (if ord = true then 14 else 9) ∧ zI S 72 9 = (if ord = true then 20 else 15)
theorem m_111 (fu : Nat) (cS : Int32 → zSt → Option zSt) {S : zSt} {B : Nat → Int32} {T N i q : Nat} {ord : Bool} (hM : zMS S B T N) (hW : zMW S ord) (hi : i < N) (hq : q ≤ 50) (c : Int32) :
    (50 ≤ q → ∃ t v, f_M_readPart_111 cS fu c (zQ S (nI i) (nI q) (-1)) = some (zQ S t v (nI (tPos B T i)))) ∧
    (q < 50 → ¬ (ord = true ∧ (c = 14 ∨ c = 20)) → f_M_readPart_111 cS fu c (zQ S (nI i) (nI q) (-1)) = some (zQ S (nI (i + 1)) (nI (q + 1)) (-1))) ∧
    (q < 50 → ord = true → (c = 14 ∨ c = 20) → f_M_readPart_111 cS fu c (zQ S (nI i) (nI q) (-1)) = if tC B T (i + 1) = 50 ∧ tV B T (i + 1) ≤ 8 then some (zQ S (nI (i + 2)) (nI (q + 1)) (-1)) else some (zQ S (nI (i + 1)) (nI (q + 1)) (nI (tPos B T (i + 1))))) := by
  have L := m_leaf hM (i := i) (q := q) (by omega) hq
  have W1 : ∀ t v b, zI (zQ S t v b) 72 10 = b2 ord := fun t v b => (zQ_o _ _ _ _ (Or.inr ⟨by omega, by omega, by omega⟩)).trans hW.1
  refine ⟨fun h => ?_, fun h hn => ?_, fun h ho hc => ?_⟩
  · have pn := pos_ne B hM.2.1 i
    refine ⟨nI i, nI (q + 1), ?_⟩
    unfold f_M_readPart_111
    rw [qb1 (L.2 h), W1]
    split
    · rfl
    · split
      · exact qb1 (m_number_dead S _ _ pn 0 8)
      · split
        · exact qb1 (m_number_dead S _ _ pn 0 8)
        · rfl
  · unfold f_M_readPart_111
    rw [qb1 (L.1 h), W1]
    cases ord with
    | false => rfl
    | true =>
      rw [if_neg (by decide), if_neg (fun h2 => hn ⟨rfl, Or.inl h2⟩), if_neg (fun h2 => hn ⟨rfl, Or.inr h2⟩)]
  · have hN := m_number hM (i := i + 1) (by omega) (nI (q + 1)) 0 8 (by decide)
    have ge : 0 ≤ tV B T (i + 1) := by
      have e1000 : (1000 : Int32).toInt = 1000 := rfl
      by_cases h1 : tV B T (i + 1) ≤ 1000
      · obtain ⟨w, hw, hw2⟩ := tV_nat h1
        rw [hw2]; exact n_0 (by omega)
      · rw [q_le, e1000] at h1
        rw [q_le, q_0]
        omega
    have R : zb1 (f_M_mustNumber 0 8 (zQ S (nI (i + 1)) (nI (q + 1)) (-1))) (fun S6 => some S6) = if tC B T (i + 1) = 50 ∧ tV B T (i + 1) ≤ 8 then some (zQ S (nI (i + 2)) (nI (q + 1)) (-1)) else some (zQ S (nI (i + 1)) (nI (q + 1)) (nI (tPos B T (i + 1)))) := by
      by_cases hv : tC B T (i + 1) = 50 ∧ tV B T (i + 1) ≤ 8
      · rw [if_pos hv]; exact qb1 (hN.1 ⟨hv.1, ge, hv.2⟩)
      · rw [if_neg hv]; exact qb1 (hN.2 (fun h2 => hv ⟨h2.1, h2.2.2⟩))
    unfold f_M_readPart_111
    rw [qb1 (L.1 h), W1, ho, if_neg (by decide)]
    rcases hc with hc | hc
    · rw [if_pos hc]; exact R
    · rw [if_neg (by rw [hc]; decide), if_pos hc]; exact R

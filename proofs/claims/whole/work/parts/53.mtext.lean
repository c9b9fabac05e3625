/-! the reference's parser: clauses, a whole text -/
section MTX
variable {S : zSt} {B : Nat → Int32} {T N : Nat}
def sB (R : Nat ⊕ (Nat × Nat)) (p2 : Nat → Nat → Nat ⊕ (Nat × Nat)) : Nat ⊕ (Nat × Nat) := match R with
  | .inl j => .inl j
  | .inr (j, q) => p2 j q
theorem m_seq {f g : zSt → Option zSt} {p p2 : Nat → Nat → Nat ⊕ (Nat × Nat)} (hT : T ≤ 400) (hf : mOk S B T N f p) (hg : mOk S B T N g p2) : mOk S B T N (fun S => zb1 (f S) g) (fun i q => sB (p i q) p2) := by
  refine ⟨fun t v b hb => ?_, fun i q hi hq => ?_⟩
  · show zb1 (f (zQ S t v b)) g = _
    rw [qb1 (hf.1 t v b hb)]
    exact hg.1 t v b hb
  · obtain ⟨t, v, b, x1, x2⟩ := hf.2 i q hi hq
    show ∃ t v b, zb1 (f (zQ S (nI i) (nI q) (-1))) g = _ ∧ mR B T N i q (sB (p i q) p2) t v b
    rw [qb1 x1]
    revert x2
    cases p i q with
    | inl j =>
      intro x2
      obtain ⟨x3, rfl⟩ := x2
      exact ⟨t, v, _, hg.1 t v _ (pos_ne B hT j), x3, rfl⟩
    | inr y =>
      obtain ⟨j, q'⟩ := y
      intro x2
      obtain ⟨rfl, rfl, rfl, x3, x4, x5, x6⟩ := x2
      obtain ⟨t, v, b, y1, y2⟩ := hg.2 j q' x4 x6
      exact ⟨t, v, b, y1, mR_up y2 x3 x5⟩
theorem m_eq {f : zSt → Option zSt} {p p2 : Nat → Nat → Nat ⊕ (Nat × Nat)} (hf : mOk S B T N f p) (h : ∀ i q, p i q = p2 i q) : mOk S B T N f p2 := by
  have e : p = p2 := funext fun i => funext fun q => h i q
  rw [← e]; exact hf
theorem m_alt {f g : zSt → Option zSt} {p p2 : Nat → Nat → Nat ⊕ (Nat × Nat)} (hM : zMS S B T N) (c : Int32) (hc : c ≠ 0) (hf : mOk S B T N f p) (hg : mOk S B T N g p2) : mOk S B T N (fun S => zb2 (f_M_takes0 c S) (fun r S3 => if r = 0 then g S3 else f S3)) (fun i q => if tC B T i = c then p (i + 1) q else p2 i q) := by
  refine ⟨fun t v b hb => ?_, fun i q hi hq => ?_⟩
  · show zb2 (f_M_takes0 c (zQ S t v b)) _ = _
    rw [qb2 (m_takes_dead S t v hb c), if_pos rfl]
    exact hg.1 t v b hb
  · have tk := m_takes hM hi (nI q) c
    show ∃ t v b, zb2 (f_M_takes0 c (zQ S (nI i) (nI q) (-1))) _ = _ ∧ mR B T N i q (if tC B T i = c then p (i + 1) q else p2 i q) t v b
    by_cases h : tC B T i = c
    · have hlt : i < N := tok_in hM.2.2.1 (by rw [h]; exact hc)
      rw [qb2 (tk.1 h), if_neg (by decide), if_pos h]
      obtain ⟨t, v, b, y1, y2⟩ := hf.2 (i + 1) q (by omega) hq
      exact ⟨t, v, b, y1, mR_up y2 (by omega) (Nat.le_refl q)⟩
    · rw [qb2 (tk.2 h), if_pos rfl, if_neg h]
      exact hg.2 i q hi hq
theorem m_some : mOk S B T N some (fun i q => .inr (i, q)) := ⟨fun _ _ _ _ => rfl, fun i q hi hq => ⟨_, _, _, rfl, rfl, rfl, rfl, Nat.le_refl i, hi, Nat.le_refl q, hq⟩⟩
theorem m_musts (hM : zMS S B T N) (c : Int32) (hc : c ≠ 0) : mOk S B T N (f_M_must c) (fun i q => if tC B T i = c then .inr (i + 1, q) else .inl i) := by
  refine ⟨fun t v b hb => m_must_dead S t v hb c, fun i q hi hq => ?_⟩
  have tk := m_must hM hi (nI q) c
  show ∃ t v b, _ ∧ mR B T N i q (if tC B T i = c then .inr (i + 1, q) else .inl i) t v b
  by_cases h : tC B T i = c
  · have hlt : i < N := tok_in hM.2.2.1 (by rw [h]; exact hc)
    rw [if_pos h]
    exact ⟨_, _, _, tk.1 h, rfl, rfl, rfl, by omega, by omega, Nat.le_refl q, hq⟩
  · rw [if_neg h]
    exact ⟨_, _, _, tk.2 h, hi, rfl⟩
theorem m_numbers (hM : zMS S B T N) (lo hi' : Int32) (hh : hi'.toInt ≤ 1000) : mOk S B T N (f_M_mustNumber lo hi') (fun i q => if tC B T i = 50 ∧ lo ≤ tV B T i ∧ tV B T i ≤ hi' then .inr (i + 1, q) else .inl i) := by
  refine ⟨fun t v b hb => m_number_dead S t v hb lo hi', fun i q hi hq => ?_⟩
  have tk := m_number hM hi (nI q) lo hi' hh
  show ∃ t v b, _ ∧ mR B T N i q (if tC B T i = 50 ∧ lo ≤ tV B T i ∧ tV B T i ≤ hi' then .inr (i + 1, q) else .inl i) t v b
  by_cases h : tC B T i = 50 ∧ lo ≤ tV B T i ∧ tV B T i ≤ hi'
  · have hlt : i < N := tok_in hM.2.2.1 (by rw [h.1]; decide)
    rw [if_pos h]
    exact ⟨_, _, _, tk.1 h, rfl, rfl, rfl, by omega, by omega, Nat.le_refl q, hq⟩
  · rw [if_neg h]
    exact ⟨_, _, _, tk.2 h, hi, rfl⟩
def f_if (fu : Nat) (S : zSt) : Option zSt := zb2 (f_M_takes0 5 S) (fun r S3 => if r = 0 then some S3 else zb1 (f_M_readTest fu 64 0 S3) (fun S8 => some S8))
def pIf (ord : Bool) (C V : Nat → Int32) (n : Nat) (i q : Nat) : Nat ⊕ (Nat × Nat) := if C i = 5 then sR (ltest (lplain ord C V n 8) C n (i + 1) q) else .inr (i, q)
theorem sR_lif (ord : Bool) (C V : Nat → Int32) (n i q : Nat) (cl : Nat × lD × lD × Nat) : sR (lif ord C V n i q cl) = pIf ord C V n i q := by
  unfold lif pIf
  by_cases h : C i = 5
  · rw [if_pos h, if_pos h]
    cases ltest (lplain ord C V n 8) C n (i + 1) q <;> rfl
  · rw [if_neg h, if_neg h]; rfl
theorem zb1_eta (f : zSt → Option zSt) (S : zSt) : zb1 (f S) (fun S8 => some S8) = f S := by
  cases f S <;> rfl
theorem m_if (fu : Nat) (hfu : 500 ≤ fu) {n : Nat} {ord : Bool} (hM : zMS S B T N) (hW : zMW S ord) (hn : 401 ≤ n) : mOk S B T N (f_if fu) (pIf ord (tC B T) (tV B T) n) := by
  have h := m_alt (f := f_M_readTest fu 64 0) (g := some) hM 5 (by decide) (mtests_ok fu hfu hM hW hn 8 (by omega) 64 (by omega)) m_some
  have e : f_if fu = fun S => zb2 (f_M_takes0 5 S) (fun r S3 => if r = 0 then some S3 else f_M_readTest fu 64 0 S3) := by
    funext S
    unfold f_if
    simp only [zb1_eta]
  rw [e]
  exact h
theorem m_clawOk (fu : Nat) (hfu : 500 ≤ fu) {n : Nat} (hM : zMS S B T N) (hW : zMW S false) (hn : 401 ≤ n) : mOk S B T N (f_M_readClause fu) (fun i q => sR (lclauseL (tC B T) (tV B T) n i q)) := by
  have hI := m_if fu hfu hM hW hn
  have hS : mOk S B T N (f_M_readSum fu 64 0) (fun i q => sR (lsum (lpart false (tC B T) (tV B T) n 8) (tC B T) n i q)) := msums_ok fu hfu hM hW hn 8 (by omega) 64 (by omega)
  have h24 := m_seq hM.2.1 hS hI
  have h4 := m_seq hM.2.1 (m_musts hM 4 (by decide)) hI
  have h := m_alt hM 1 (by decide) h24 (m_alt hM 2 (by decide) h24 (m_alt hM 3 (by decide) h24 h4))
  refine m_eq (f := f_M_readClause fu) h (fun i q => ?_)
  have P24 : ∀ k i q, sB (sR (lsum (lpart false (tC B T) (tV B T) n 8) (tC B T) n i q)) (pIf false (tC B T) (tV B T) n) = sR (match lsum (lpart false (tC B T) (tV B T) n 8) (tC B T) n i q with
      | .inl j => .inl j
      | .inr (j, q', d) => lif false (tC B T) (tV B T) n j q' (k, d, lone, 1)) := by
    intro k i q
    cases lsum (lpart false (tC B T) (tV B T) n 8) (tC B T) n i q with
    | inl j => rfl
    | inr x =>
      obtain ⟨j, q', d⟩ := x
      exact (sR_lif _ _ _ _ _ _ _).symm
  unfold lclauseL
  by_cases c1 : tC B T i = 1
  · rw [if_pos c1, if_pos (Or.inl c1)]; exact P24 _ _ _
  rw [if_neg c1]
  by_cases c2 : tC B T i = 2
  · rw [if_pos c2, if_pos (Or.inr (Or.inl c2))]; exact P24 _ _ _
  rw [if_neg c2]
  by_cases c3 : tC B T i = 3
  · rw [if_pos c3, if_pos (Or.inr (Or.inr c3))]; exact P24 _ _ _
  have hor : ¬ (tC B T i = 1 ∨ tC B T i = 2 ∨ tC B T i = 3) := by
    rintro (h | h | h)
    · exact c1 h
    · exact c2 h
    · exact c3 h
  rw [if_neg c3, if_neg hor]
  by_cases c4 : tC B T i = 4
  · rw [if_pos c4, if_pos c4]; exact (sR_lif _ _ _ _ _ _ _).symm
  · rw [if_neg c4, if_neg c4]; rfl
def pTm (C V : Nat → Int32) (n : Nat) (i q : Nat) : Nat ⊕ (Nat × Nat) := if C i = 25 then (if C (i + 1) = 50 ∧ 1 ≤ V (i + 1) ∧ V (i + 1) ≤ 20 then pIf true C V n (i + 2) q else .inl (i + 1)) else pIf true C V n i q
theorem sR_ltimes (C V : Nat → Int32) (n i q : Nat) (cl : Nat × lD × lD) : sR (ltimes C V n i q cl) = pTm C V n i q := by
  unfold ltimes pTm
  by_cases h : C i = 25
  · rw [if_pos h, if_pos h]
    by_cases h2 : C (i + 1) = 50 ∧ 1 ≤ V (i + 1) ∧ V (i + 1) ≤ 20
    · rw [if_pos h2, if_pos h2]; exact sR_lif _ _ _ _ _ _ _
    · rw [if_neg h2, if_neg h2]; rfl
  · rw [if_neg h, if_neg h]; exact sR_lif _ _ _ _ _ _ _
theorem m_times (fu : Nat) (hfu : 500 ≤ fu) {n : Nat} (hM : zMS S B T N) (hW : zMW S true) (hn : 401 ≤ n) : mOk S B T N (f_M_readOrder_60 fu) (pTm (tC B T) (tV B T) n) := by
  have hI := m_if fu hfu hM hW hn
  have h := m_alt hM 25 (by decide) (m_seq hM.2.1 (m_numbers hM 1 20 (by decide)) hI) hI
  refine m_eq (f := f_M_readOrder_60 fu) h (fun i q => ?_)
  show (if tC B T i = 25 then sB (if tC B T (i + 1) = 50 ∧ 1 ≤ tV B T (i + 1) ∧ tV B T (i + 1) ≤ 20 then .inr (i + 1 + 1, q) else .inl (i + 1)) (pIf true (tC B T) (tV B T) n) else pIf true (tC B T) (tV B T) n i q) = _
  unfold pTm
  by_cases c1 : tC B T i = 25
  · rw [if_pos c1, if_pos c1]
    by_cases h2 : tC B T (i + 1) = 50 ∧ 1 ≤ tV B T (i + 1) ∧ tV B T (i + 1) ≤ 20
    · rw [if_pos h2, if_pos h2]; rfl
    · rw [if_neg h2, if_neg h2]; rfl
  · rw [if_neg c1, if_neg c1]
theorem m_cordOk (fu : Nat) (hfu : 500 ≤ fu) {n : Nat} (hM : zMS S B T N) (hW : zMW S true) (hn : 401 ≤ n) : mOk S B T N (f_M_readOrder fu) (fun i q => sR (lclauseO (tC B T) (tV B T) n i q)) := by
  have hT := m_times fu hfu hM hW hn
  have hS : mOk S B T N (f_M_readSum fu 64 0) (fun i q => sR (lsum (lpart true (tC B T) (tV B T) n 8) (tC B T) n i q)) := msums_ok fu hfu hM hW hn 8 (by omega) 64 (by omega)
  have h1 := m_seq hM.2.1 hS hT
  have h2 := m_seq hM.2.1 hS (m_seq hM.2.1 (m_musts hM 10 (by decide)) h1)
  have h := m_alt hM 22 (by decide) h2 (m_alt hM 23 (by decide) h2 (m_alt hM 21 (by decide) h1 (m_seq hM.2.1 (m_musts hM 24 (by decide)) hT)))
  refine m_eq (f := f_M_readOrder fu) h (fun i q => ?_)
  have P1 : ∀ (k : Nat) (d0 : lD → lD × lD) (i q : Nat), sB (sR (lsum (lpart true (tC B T) (tV B T) n 8) (tC B T) n i q)) (pTm (tC B T) (tV B T) n) = sR (match lsum (lpart true (tC B T) (tV B T) n 8) (tC B T) n i q with
      | .inl j => .inl j
      | .inr (j, q', d) => ltimes (tC B T) (tV B T) n j q' (k, d0 d)) := by
    intro k d0 i q
    cases lsum (lpart true (tC B T) (tV B T) n 8) (tC B T) n i q with
    | inl j => rfl
    | inr x =>
      obtain ⟨j, q', d⟩ := x
      exact (sR_ltimes _ _ _ _ _ _).symm
  have P2 : ∀ (k i q : Nat), sB (sR (lsum (lpart true (tC B T) (tV B T) n 8) (tC B T) n i q)) (fun i q => sB (if tC B T i = 10 then .inr (i + 1, q) else .inl i) (fun i q => sB (sR (lsum (lpart true (tC B T) (tV B T) n 8) (tC B T) n i q)) (pTm (tC B T) (tV B T) n))) = sR (match lsum (lpart true (tC B T) (tV B T) n 8) (tC B T) n i q with
      | .inl j => .inl j
      | .inr (j, q', d) => if tC B T j = 10 then (match lsum (lpart true (tC B T) (tV B T) n 8) (tC B T) n (j + 1) q' with
        | .inl k => .inl k
        | .inr (k2, q2, d2) => ltimes (tC B T) (tV B T) n k2 q2 (k, d, d2)) else .inl j) := by
    intro k i q
    cases lsum (lpart true (tC B T) (tV B T) n 8) (tC B T) n i q with
    | inl j => rfl
    | inr x =>
      obtain ⟨j, q', d⟩ := x
      show sB (if tC B T j = 10 then .inr (j + 1, q') else .inl j) _ = sR (if tC B T j = 10 then _ else .inl j)
      by_cases c : tC B T j = 10
      · rw [if_pos c, if_pos c]
        exact P1 k (fun d2 => (d, d2)) (j + 1) q'
      · rw [if_neg c, if_neg c]; rfl
  unfold lclauseO
  by_cases c1 : tC B T i = 22
  · rw [if_pos c1, if_pos (Or.inl c1)]; exact P2 _ _ _
  rw [if_neg c1]
  by_cases c2 : tC B T i = 23
  · rw [if_pos c2, if_pos (Or.inr c2)]; exact P2 _ _ _
  have hor : ¬ (tC B T i = 22 ∨ tC B T i = 23) := by
    rintro (h | h)
    · exact c1 h
    · exact c2 h
  rw [if_neg c2, if_neg hor]
  by_cases c3 : tC B T i = 21
  · rw [if_pos c3, if_pos c3]; exact P1 0 (fun d => (d, lone)) (i + 1) q
  rw [if_neg c3, if_neg c3]
  by_cases c4 : tC B T i = 24
  · rw [if_pos c4, if_pos c4]; exact (sR_ltimes _ _ _ _ _ _).symm
  · rw [if_neg c4, if_neg c4]; rfl
theorem m_one (fu : Nat) (hfu : 500 ≤ fu) {n : Nat} {ord : Bool} (hM : zMS S B T N) (hW : zMW S ord) (hn : 401 ≤ n) : mOk S B T N (f_M_readOne fu) (fun i q => sR (lclause ord (tC B T) (tV B T) n i q)) := by
  have W1 : ∀ t v b, zI (zQ S t v b) 72 10 = b2 ord := fun t v b => (zQ_o _ _ _ _ (Or.inr ⟨by omega, by omega, by omega⟩)).trans hW.1
  cases ord with
  | false =>
    have h := m_clawOk fu hfu hM hW hn
    have e : ∀ t v b, f_M_readOne fu (zQ S t v b) = f_M_readClause fu (zQ S t v b) := fun t v b => by
      unfold f_M_readOne
      rw [if_pos (show zI (zQ S t v b) 72 10 = 0 from W1 t v b)]
      exact zb1_eta (f_M_readClause fu) _
    exact ⟨fun t v b hb => (e t v b).trans (h.1 t v b hb), fun i q hi hq => by rw [e]; exact h.2 i q hi hq⟩
  | true =>
    have h := m_cordOk fu hfu hM hW hn
    have e : ∀ t v b, f_M_readOne fu (zQ S t v b) = f_M_readOrder fu (zQ S t v b) := fun t v b => by
      unfold f_M_readOne
      rw [if_neg (show ¬ zI (zQ S t v b) 72 10 = 0 by rw [W1]; decide)]
      exact zb1_eta (f_M_readOrder fu) _
    exact ⟨fun t v b hb => (e t v b).trans (h.1 t v b hb), fun i q hi hq => by rw [e]; exact h.2 i q hi hq⟩
/-- behind a whole text -/
def mE (B : Nat → Int32) (T N : Nat) (R : Nat ⊕ List lC) (b : Int32) : Prop := match R with
  | .inl j => j ≤ N ∧ b = nI (tPos B T j)
  | .inr _ => b = -1
theorem m_end_dead (fu : Nat) (t v : Int32) {b : Int32} (hb : b ≠ -1) {k : Nat} (hk : 1 ≤ k) (a : Int32) : f_M_reads_34 fu k a (zQ S t v b) = some (0, zwI (zQ S t v b) 72 14 b) := by
  obtain ⟨k, rfl⟩ : ∃ k', k = k' + 1 := ⟨k - 1, by omega⟩
  have e : f_M_fine (zwI (zQ S t v b) 72 14 b) = some 0 := by
    unfold f_M_fine
    rw [qIIo _ _ (by omega), zQ_21, if_neg hb]
  rw [f_M_reads_34, show f_M_sign 59 = some 159 from rfl, qb1s, qb2 (m_takes_dead S t v hb _), if_pos rfl]
  unfold f_M_reads_73
  rw [qb1 (m_fine0 S t v hb), if_pos rfl, zQ_21, qb1 e, qgd (by decide)]
theorem m_text (fu : Nat) (hfu : 500 ≤ fu) {n : Nat} {ord : Bool} (hM : zMS S B T N) (hW : zMW S ord) (h18 : zI S 72 18 = nI N) (hn : 401 ≤ n) : ∀ (m a k i q : Nat) (acc : List lC), a + m = 12 → m + 2 ≤ k → i ≤ N → q ≤ 50 →
    ∃ t v b, f_M_reads_34 fu k (nI a) (zQ S (nI i) (nI q) (-1)) = some (if b = -1 then 1 else 0, zwI (zQ S t v b) 72 14 b) ∧ mE B T N (if tC B T i = 159 then ltx ord (tC B T) (tV B T) n N m (i + 1) q acc else if N ≤ i then .inr acc else .inl i) b := by
  have hO := m_one fu hfu hM hW hn
  have hN := hM.1
  intro m
  induction m with
  | zero =>
    intro a k i q acc h1 h2 hi hq
    obtain ⟨k, rfl⟩ : ∃ k', k = k' + 1 := ⟨k - 1, by omega⟩
    have tk := m_takes hM hi (nI q) 159
    rw [f_M_reads_34, show f_M_sign 59 = some 159 from rfl, qb1s]
    by_cases c : tC B T i = 159
    · have hlt : i < N := tok_in hM.2.2.1 (by rw [c]; decide)
      have e : nI a = (12 : Int32) := by rw [show a = 12 by omega]; rfl
      have pn := pos_ne B hM.2.1 (i + 1)
      rw [qb2 (tk.1 c), if_neg (by decide), if_pos e, qb1 (m_faults hM (by omega) _), qb1 (m_fine0 S _ _ pn), if_pos rfl, m_end_dead fu _ _ pn (by omega), if_pos c]
      exact ⟨_, _, _, by rw [if_neg pn], by omega, rfl⟩
    · rw [qb2 (tk.2 c), if_pos rfl, if_neg c]
      unfold f_M_reads_73
      rw [qb1 (m_fine1 S _ _), if_neg (by decide), zQ_o _ _ _ _ (Or.inr ⟨by omega, by omega, by omega⟩), h18, zQ_19]
      by_cases hle : N ≤ i
      · have e : f_M_fine (zwI (zQ S (nI i) (nI q) (-1)) 72 14 (-1)) = some 1 := by
          unfold f_M_fine
          rw [qIIo _ _ (by omega), zQ_21, if_pos rfl]
        rw [if_pos ((n_le (by omega) (by omega)).mpr hle), zQ_21, qb1 e, qgd (by decide), if_pos hle]
        exact ⟨_, _, _, rfl, rfl⟩
      · have pn := pos_ne B hM.2.1 i
        have e : f_M_fine (zwI (zQ S (nI i) (nI q) (nI (tPos B T i))) 72 14 (nI (tPos B T i))) = some 0 := by
          unfold f_M_fine
          rw [qIIo _ _ (by omega), zQ_21, if_neg pn]
        rw [if_neg (fun h => hle ((n_le (by omega) (by omega)).mp h)), qb1 (m_faults hM hi _), zQ_21, qb1 e, qgd (by decide), if_neg hle]
        exact ⟨_, _, _, by rw [if_neg pn], hi, rfl⟩
  | succ m ih =>
    intro a k i q acc h1 h2 hi hq
    obtain ⟨k, rfl⟩ : ∃ k', k = k' + 1 := ⟨k - 1, by omega⟩
    have tk := m_takes hM hi (nI q) 159
    rw [f_M_reads_34, show f_M_sign 59 = some 159 from rfl, qb1s]
    by_cases c : tC B T i = 159
    · have hlt : i < N := tok_in hM.2.2.1 (by rw [c]; decide)
      have ne : ¬ nI a = (12 : Int32) := fun h2 => absurd ((n_eq (b := 12) (by omega) (by omega)).mp h2) (by omega)
      rw [qb2 (tk.1 c), if_neg (by decide), if_neg ne, qb1 (m_fine1 S _ _), if_neg (by decide), if_pos c]
      obtain ⟨t, v, b, x1, x2⟩ := hO.2 (i + 1) q (by omega) hq
      rw [qb1 x1, n_1]
      show ∃ t v b, _ ∧ mE B T N (match lclause ord (tC B T) (tV B T) n (i + 1) q with
        | .inl j => .inl j
        | .inr (j, q', cl) => if tC B T j = 159 then ltx ord (tC B T) (tV B T) n N m (j + 1) q' (acc ++ [cl]) else if N ≤ j then .inr (acc ++ [cl]) else .inl j) b
      revert x2
      show mR B T N (i + 1) q (sR (lclause ord (tC B T) (tV B T) n (i + 1) q)) t v b → _
      cases lclause ord (tC B T) (tV B T) n (i + 1) q with
      | inl j =>
        intro x2
        obtain ⟨x3, rfl⟩ := x2
        have pn := pos_ne B hM.2.1 j
        rw [m_end_dead fu t v pn (by omega)]
        exact ⟨_, _, _, by rw [if_neg pn], x3, rfl⟩
      | inr y =>
        obtain ⟨j, q', cl⟩ := y
        intro x2
        obtain ⟨rfl, rfl, rfl, x3, x4, x5, x6⟩ := x2
        exact ih (a + 1) k j q' (acc ++ [cl]) (by omega) (by omega) x4 x6
    · rw [qb2 (tk.2 c), if_pos rfl, if_neg c]
      unfold f_M_reads_73
      rw [qb1 (m_fine1 S _ _), if_neg (by decide), zQ_o _ _ _ _ (Or.inr ⟨by omega, by omega, by omega⟩), h18, zQ_19]
      by_cases hle : N ≤ i
      · have e : f_M_fine (zwI (zQ S (nI i) (nI q) (-1)) 72 14 (-1)) = some 1 := by
          unfold f_M_fine
          rw [qIIo _ _ (by omega), zQ_21, if_pos rfl]
        rw [if_pos ((n_le (by omega) (by omega)).mpr hle), zQ_21, qb1 e, qgd (by decide), if_pos hle]
        exact ⟨_, _, _, rfl, rfl⟩
      · have pn := pos_ne B hM.2.1 i
        have e : f_M_fine (zwI (zQ S (nI i) (nI q) (nI (tPos B T i))) 72 14 (nI (tPos B T i))) = some 0 := by
          unfold f_M_fine
          rw [qIIo _ _ (by omega), zQ_21, if_neg pn]
        rw [if_neg (fun h => hle ((n_le (by omega) (by omega)).mp h)), qb1 (m_faults hM hi _), zQ_21, qb1 e, qgd (by decide), if_neg hle]
        exact ⟨_, _, _, by rw [if_neg pn], hi, rfl⟩
end MTX

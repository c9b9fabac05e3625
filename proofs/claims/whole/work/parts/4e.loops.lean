/-! the class's parser: loops of terms and of sums, comparisons -/
/-- what stands behind an operator: read, and joined to what stood ahead -/
def opB (f : zSt → Option (Int32 × zSt)) (fu : Nat) (k12 : zSt → Option (Int32 × zSt)) (w : Int32) (S : zSt) : Option (Int32 × zSt) := zb1 (f_Ta_next fu S) (fun S2 => zb2 (f S2) (fun r4 S5 => if r4 = 0 then some ((0 : Int32), S5) else zb1 (f_Tx_emit 47 w (0 : Int32) S5) (fun S8 => k12 S8)))
def xopD (w : Nat) (d1 d2 : lD) : lD := fun E => (d1 E).bind fun x => (d2 E).bind fun y => xop (nI w) x y
theorem noSoon_x {d1 d2 : lD} (o : Nat) (h1 : noSoon d1) (h2 : noSoon d2) : noSoon (xopD o d1 d2) := by
  intro E E' hE
  unfold xopD
  rw [h1 E E' hE, h2 E E' hE]
theorem xopD_lop {w : Nat} (hw : 5 ≤ w ∧ w ≤ 9) (d1 d2 : lD) : xopD w d1 d2 = lopD w d1 d2 := by
  funext E
  unfold xopD lopD
  cases d1 E with
  | none => rfl
  | some x =>
    cases d2 E with
    | none => rfl
    | some y => exact xop_lop hw x y
theorem xopD_cmp {w : Nat} (hw : w = 10 ∨ w = 11 ∨ w = 12) (d1 d2 : lD) : xopD w d1 d2 = xT (lcmpD w d1 d2) := by
  funext E
  rcases hw with rfl | rfl | rfl
  · show ((d1 E).bind fun x => (d2 E).bind fun y => xop 10 x y) = ((d1 E).bind fun x => (d2 E).bind fun y => some (decide (x < y))).map (fun b => if b = true then 1 else 0)
    cases d1 E with
    | none => rfl
    | some x =>
      cases d2 E with
      | none => rfl
      | some y =>
        show xop 10 x y = some (if decide (x < y) = true then 1 else 0)
        rw [xop10]; simp only [decide_eq_true_eq]
  · show ((d1 E).bind fun x => (d2 E).bind fun y => xop 11 x y) = ((d1 E).bind fun x => (d2 E).bind fun y => some (decide (y < x))).map (fun b => if b = true then 1 else 0)
    cases d1 E with
    | none => rfl
    | some x =>
      cases d2 E with
      | none => rfl
      | some y =>
        show xop 11 x y = some (if decide (y < x) = true then 1 else 0)
        rw [xop11]; simp only [decide_eq_true_eq]
  · show ((d1 E).bind fun x => (d2 E).bind fun y => xop 12 x y) = ((d1 E).bind fun x => (d2 E).bind fun y => some (decide (x = y))).map (fun b => if b = true then 1 else 0)
    cases d1 E with
    | none => rfl
    | some x =>
      cases d2 E with
      | none => rfl
      | some y =>
        show xop 12 x y = some (if decide (x = y) = true then 1 else 0)
        rw [xop12]; simp only [decide_eq_true_eq]
theorem op_acc (fu : Nat) (hfu : 500 ≤ fu) {B : Nat → Int32} {T : Nat} {ord : Int32} {W b : Nat} {f : zSt → Option (Int32 × zSt)} {p : Nat → Nat → lR} (hp : pOk B T ord W b f p) {S0 S : zSt} {i0 q0 l0 j q w : Nat} {d : lD} (hl0 : l0 ≤ i0 + 30) (hw : 5 ≤ w ∧ w ≤ 12) (ho : zOut S0 B T ord W i0 q0 b l0 (.inr (j, q, d)) 1 S) (h0 : tC B T j ≠ 0) (k12 : zSt → Option (Int32 × zSt)) :
    (∃ k S2, p (j + 1) q = .inl k ∧ opB f fu k12 (nI w) S = some (0, S2) ∧ zOut S0 B T ord W i0 q0 b l0 (.inl k) 0 S2) ∨
    (∃ k q' d' S3, p (j + 1) q = .inr (k, q', d') ∧ opB f fu k12 (nI w) S = k12 S3 ∧ j < k ∧ zOut S0 B T ord W i0 q0 b l0 (.inr (k, q', xopD w d d')) 1 S3) := by
  obtain ⟨hF, -, l, hS, g1, g2, g3, g4, g5, g6, g7, g8, g9⟩ := ho
  have hj : j < 400 := tC_lt hS.1.1.2.1 h0
  obtain ⟨S1, e1, F1, hh⟩ := op_step fu hfu hp (w := w) hS (by omega) (by omega) (by omega) hj
  unfold opB
  rcases hh with ⟨k, S2, e2, e3, F2, H2⟩ | ⟨k, q', d', S2, S3, l', e2, e3, e4, F3, hS3, m1, m2, m3, m4, m5, m6, x1, x2, x3, x4⟩
  · refine Or.inl ⟨k, S2, e2, ?_, zPF_t hF F2 (by omega), rfl, H2⟩
    rw [qb1 e1, qb2 e3, if_pos rfl]
  · refine Or.inr ⟨k, q', d', S3, e2, ?_, by omega, zPF_t hF F3 (by omega), rfl, l' + 1, hS3, by omega, m2, by omega, m4, by omega, by omega, ?_, ?_, ?_⟩
    · rw [qb1 e1, qb2 e3, if_neg (by decide)]; exact qb1 e4
    · have y1 := xseg_eq g7 (fun k _ hk => F3.2.2.2.2.2.1 k hk)
      exact xseg_up (xseg_op (k := (q - q0) + (q' - q) - 1) (xseg_up y1 (by omega)) (xseg_up x1 (by omega)) (by omega) (by omega) (by omega) x2) (by omega)
    · exact codeOk_t (codeOk_e g8 (fun k hk => F3.2.2.2.2.2.1 k hk)) x3
    · intro h3; exact noSoon_x w (g9 (F3.2.2.2.2.2.2.1 h3)) (x4 h3)
theorem out_lt {S0 S : zSt} {B : Nat → Int32} {T : Nat} {ord : Int32} {W i0 q0 b l0 j q : Nat} {d : lD} (ho : zOut S0 B T ord W i0 q0 b l0 (.inr (j, q, d)) 1 S) : j ≤ 400 ∧ i0 < j ∧ zHd S B T j := by
  obtain ⟨hF, -, l, hS, g1, g2, -⟩ := ho
  exact ⟨g2, g1, hS.1⟩
theorem term_loop (fu : Nat) (hfu : 500 ≤ fu) {B : Nat → Int32} {T : Nat} {ord : Int32} {W b : Nat} {f : zSt → Option (Int32 × zSt)} {p : Nat → Nat → lR} (hp : pOk B T ord W b f p) {S0 : zSt} {i0 q0 l0 : Nat} (hl0 : l0 ≤ i0 + 30) : ∀ (n m a : Nat) (S : zSt) (j q : Nat) (d : lD), 401 ≤ n + j → 401 ≤ m + j → a < j → zOut S0 B T ord W i0 q0 b l0 (.inr (j, q, d)) 1 S →
    ∃ r S', f_Re_readTerm_12 f fu n (nI a) S = some (r, S') ∧ zOut S0 B T ord W i0 q0 b l0 (lloopT p (tC B T) m j q d) r S' := by
  intro n
  induction n with
  | zero =>
    intro m a S j q d h1 h2 h3 ho
    have := (out_lt ho).1
    omega
  | succ n ih =>
    intro m a S j q d h1 h2 h3 ho
    obtain ⟨hj, -, hH⟩ := out_lt ho
    obtain ⟨m, rfl⟩ : ∃ m', m = m' + 1 := ⟨m - 1, by omega⟩
    have l4 : ¬ (400 : Int32) ≤ nI a := fun h => absurd ((n_le (a := 400) (by omega) (by omega)).mp h) (by omega)
    rw [f_Re_readTerm_12, if_neg l4, lloopT]
    have STEP : ∀ w, 5 ≤ w ∧ w ≤ 9 → tC B T j ≠ 0 → ∃ r S', f_Re_readTerm_63 f fu (f_Re_readTerm_12 f fu n) (nI a) (nI w) S = some (r, S') ∧ zOut S0 B T ord W i0 q0 b l0 (match p (j + 1) q with
      | .inl j => .inl j
      | .inr (j, q', d') => lloopT p (tC B T) m j q' (lopD w d d')) r S' := by
      intro w hw h0
      rcases op_acc fu hfu hp hl0 (w := w) (by omega) ho h0 (f_Re_readTerm_12 f fu n (nI a + 1)) with ⟨k, S2, e1, e2, e3⟩ | ⟨k, q', d', S3, e1, e2, e3, e4⟩
      · rw [e1]; exact ⟨0, S2, e2, e3⟩
      · rw [e1]
        rw [xopD_lop hw] at e4
        obtain ⟨r, S', x1, x2⟩ := ih m (a + 1) S3 k q' _ (by omega) (by omega) (by omega) e4
        refine ⟨r, S', ?_, x2⟩
        rw [← n_1] at x1
        exact e2.trans x1
    have s42 : f_Ta_isSign 42 S = some (if tC B T j = 142 then 1 else 0) := is_sign (c := 42) hH (by omega)
    have s47 : f_Ta_isSign 47 S = some (if tC B T j = 147 then 1 else 0) := is_sign (c := 47) hH (by omega)
    have s37 : f_Ta_isSign 37 S = some (if tC B T j = 137 then 1 else 0) := is_sign (c := 37) hH (by omega)
    rw [qb1 s42]
    by_cases c1 : tC B T j = 142
    · have hor : tC B T j = 142 ∨ tC B T j = 147 ∨ tC B T j = 137 := Or.inl c1
      simp only [if_pos c1, if_pos hor]
      exact STEP 7 (by omega) (by rw [c1]; decide)
    · simp only [if_neg c1, if_true]
      rw [qb1 s47]
      by_cases c2 : tC B T j = 147
      · have hor : tC B T j = 142 ∨ tC B T j = 147 ∨ tC B T j = 137 := Or.inr (Or.inl c2)
        simp only [if_pos c2, if_pos hor]
        exact STEP 8 (by omega) (by rw [c2]; decide)
      · simp only [if_neg c2, if_true]
        rw [qb1 s37]
        by_cases c3 : tC B T j = 137
        · have hor : tC B T j = 142 ∨ tC B T j = 147 ∨ tC B T j = 137 := Or.inr (Or.inr c3)
          simp only [if_pos c3, if_pos hor]
          exact STEP 9 (by omega) (by rw [c3]; decide)
        · have hor : ¬ (tC B T j = 142 ∨ tC B T j = 147 ∨ tC B T j = 137) := by
            rintro (h | h | h)
            · exact c1 h
            · exact c2 h
            · exact c3 h
          simp only [if_neg c3, if_neg hor]
          exact ⟨1, S, rfl, ho⟩
theorem term_ok (fu : Nat) (hfu : 500 ≤ fu) {B : Nat → Int32} {T : Nat} {ord : Int32} {W b : Nat} {f : zSt → Option (Int32 × zSt)} {p : Nat → Nat → lR} (hp : pOk B T ord W b f p) {n : Nat} (hn : 401 ≤ n) : pOk B T ord W b (f_Re_readTerm_o f fu) (fun i q => lterm p (tC B T) n i q) := by
  intro S i q l h hl hq
  obtain ⟨r, S2, e, o⟩ := hp S i q l h hl hq
  show ∃ r S', f_Re_readTerm_o f fu S = some (r, S') ∧ zOut S B T ord W i q b l (lterm p (tC B T) n i q) r S'
  unfold f_Re_readTerm_o lterm
  rw [qb2 e]
  cases hpp : p i q with
  | inl k =>
    rw [hpp] at o
    obtain ⟨F, rfl, H⟩ := o
    exact ⟨0, S2, by rw [if_pos rfl], F, rfl, H⟩
  | inr x =>
    obtain ⟨k, q', d⟩ := x
    rw [hpp] at o
    have hr : r = 1 := o.2.1
    subst hr
    rw [if_neg (by decide)]
    exact term_loop fu hfu hp hl fu n 0 S2 k q' d (by omega) (by omega) (by have := (out_lt o).2.1; omega) o
theorem sum_loop (fu : Nat) (hfu : 500 ≤ fu) {B : Nat → Int32} {T : Nat} {ord : Int32} {W b : Nat} {f : zSt → Option (Int32 × zSt)} {p : Nat → Nat → lR} {N : Nat} (hp : pOk B T ord W b f (fun i q => lterm p (tC B T) N i q)) {S0 : zSt} {i0 q0 l0 : Nat} (hl0 : l0 ≤ i0 + 30) : ∀ (n m a : Nat) (S : zSt) (j q : Nat) (d : lD), 401 ≤ n + j → 401 ≤ m + j → a < j → zOut S0 B T ord W i0 q0 b l0 (.inr (j, q, d)) 1 S →
    ∃ r S', f_Re_readSum_12 f fu n (nI a) S = some (r, S') ∧ zOut S0 B T ord W i0 q0 b l0 (lloopS p (tC B T) N m j q d) r S' := by
  intro n
  induction n with
  | zero =>
    intro m a S j q d h1 h2 h3 ho
    have := (out_lt ho).1
    omega
  | succ n ih =>
    intro m a S j q d h1 h2 h3 ho
    obtain ⟨hj, -, hH⟩ := out_lt ho
    obtain ⟨m, rfl⟩ : ∃ m', m = m' + 1 := ⟨m - 1, by omega⟩
    have l4 : ¬ (400 : Int32) ≤ nI a := fun h => absurd ((n_le (a := 400) (by omega) (by omega)).mp h) (by omega)
    rw [f_Re_readSum_12, if_neg l4, lloopS]
    have STEP : ∀ w, 5 ≤ w ∧ w ≤ 9 → tC B T j ≠ 0 → ∃ r S', f_Re_readSum_52 f fu (f_Re_readSum_12 f fu n) (nI a) (nI w) S = some (r, S') ∧ zOut S0 B T ord W i0 q0 b l0 (match lterm p (tC B T) N (j + 1) q with
      | .inl j => .inl j
      | .inr (j, q', d') => lloopS p (tC B T) N m j q' (lopD w d d')) r S' := by
      intro w hw h0
      rcases op_acc fu hfu hp hl0 (w := w) (by omega) ho h0 (f_Re_readSum_12 f fu n (nI a + 1)) with ⟨k, S2, e1, e2, e3⟩ | ⟨k, q', d', S3, e1, e2, e3, e4⟩
      · have e1' : lterm p (tC B T) N (j + 1) q = .inl k := e1
        rw [e1']; exact ⟨0, S2, e2, e3⟩
      · have e1' : lterm p (tC B T) N (j + 1) q = .inr (k, q', d') := e1
        rw [e1']
        rw [xopD_lop hw] at e4
        obtain ⟨r, S', x1, x2⟩ := ih m (a + 1) S3 k q' _ (by omega) (by omega) (by omega) e4
        refine ⟨r, S', ?_, x2⟩
        rw [← n_1] at x1
        exact e2.trans x1
    have s43 : f_Ta_isSign 43 S = some (if tC B T j = 143 then 1 else 0) := is_sign (c := 43) hH (by omega)
    have s45 : f_Ta_isSign 45 S = some (if tC B T j = 145 then 1 else 0) := is_sign (c := 45) hH (by omega)
    rw [qb1 s43]
    by_cases c1 : tC B T j = 143
    · have hor : tC B T j = 143 ∨ tC B T j = 145 := Or.inl c1
      have e1 : (if tC B T j = 143 then (1 : Int32) else 0) = 1 := if_pos c1
      have e2 : (if tC B T j = 143 then 5 else 6) = 5 := if_pos c1
      rw [e1, if_neg (by decide), qb1 s43, e1, if_neg (by decide), if_pos hor, e2]
      exact STEP 5 (by omega) (by rw [c1]; decide)
    · have e1 : (if tC B T j = 143 then (1 : Int32) else 0) = 0 := if_neg c1
      have e2 : (if tC B T j = 143 then 5 else 6) = 6 := if_neg c1
      rw [e1, if_pos rfl, qb1 s45, e2]
      by_cases c2 : tC B T j = 145
      · have hor : tC B T j = 143 ∨ tC B T j = 145 := Or.inr c2
        have e3 : (if tC B T j = 145 then (1 : Int32) else 0) = 1 := if_pos c2
        rw [e3, if_neg (by decide), qb1 s43, e1, if_pos rfl, if_pos hor]
        exact STEP 6 (by omega) (by rw [c2]; decide)
      · have hor : ¬ (tC B T j = 143 ∨ tC B T j = 145) := by
          rintro (h | h)
          · exact c1 h
          · exact c2 h
        have e3 : (if tC B T j = 145 then (1 : Int32) else 0) = 0 := if_neg c2
        rw [e3, if_pos rfl, if_neg hor]
        exact ⟨1, S, rfl, ho⟩
theorem sum_ok (fu : Nat) (hfu : 500 ≤ fu) {B : Nat → Int32} {T : Nat} {ord : Int32} {W b : Nat} {f : zSt → Option (Int32 × zSt)} {p : Nat → Nat → lR} {n : Nat} (hn : 401 ≤ n) (hp : pOk B T ord W b f (fun i q => lterm p (tC B T) n i q)) : pOk B T ord W b (f_Re_readSum_o f fu) (fun i q => lsum p (tC B T) n i q) := by
  intro S i q l h hl hq
  obtain ⟨r, S2, e, o⟩ := hp S i q l h hl hq
  have o : zOut S B T ord W i q b l (lterm p (tC B T) n i q) r S2 := o
  show ∃ r S', f_Re_readSum_o f fu S = some (r, S') ∧ zOut S B T ord W i q b l (lsum p (tC B T) n i q) r S'
  unfold f_Re_readSum_o lsum
  rw [qb2 e]
  cases hpp : lterm p (tC B T) n i q with
  | inl k =>
    rw [hpp] at o
    obtain ⟨F, rfl, H⟩ := o
    exact ⟨0, S2, by rw [if_pos rfl], F, rfl, H⟩
  | inr x =>
    obtain ⟨k, q', d⟩ := x
    rw [hpp] at o
    have hr : r = 1 := o.2.1
    subst hr
    rw [if_neg (by decide)]
    exact sum_loop fu hfu hp hl fu n 0 S2 k q' d (by omega) (by omega) (by have := (out_lt o).2.1; omega) o
theorem comp_ok (fu : Nat) (hfu : 500 ≤ fu) {B : Nat → Int32} {T : Nat} {ord : Int32} {W b : Nat} {f : zSt → Option (Int32 × zSt)} {p : Nat → Nat → lR} {n : Nat} (hp : pOk B T ord W b f (fun i q => lsum p (tC B T) n i q)) : pOkT B T ord W b (f_Re_readComparison_o f fu) (fun i q => lcomp p (tC B T) n i q) := by
  intro S i q l h hl hq
  obtain ⟨r, S2, e, o⟩ := hp S i q l h hl hq
  have o : zOut S B T ord W i q b l (lsum p (tC B T) n i q) r S2 := o
  show ∃ r S', f_Re_readComparison_o f fu S = some (r, S') ∧ zOutT S B T ord W i q b l (lcomp p (tC B T) n i q) r S'
  unfold f_Re_readComparison_o lcomp
  rw [qb2 e]
  cases hpp : lsum p (tC B T) n i q with
  | inl k =>
    rw [hpp] at o
    obtain ⟨F, rfl, H⟩ := o
    exact ⟨0, S2, by rw [if_pos rfl], F, rfl, H⟩
  | inr x =>
    obtain ⟨j, q', d⟩ := x
    rw [hpp] at o
    have hr : r = 1 := o.2.1
    subst hr
    obtain ⟨hj, -, hH⟩ := out_lt o
    have STEP : ∀ w, w = 10 ∨ w = 11 ∨ w = 12 → tC B T j ≠ 0 → ∃ r S', f_Re_readComparison_54 f fu (nI w) S2 = some (r, S') ∧ zOutT S B T ord W i q b l (match lsum p (tC B T) n (j + 1) q' with
      | .inl k => .inl k
      | .inr (k, q2, d2) => .inr (k, q2, lcmpD w d d2)) r S' := by
      intro w hw h0
      rcases op_acc fu hfu hp hl (w := w) (by omega) o h0 (fun S8 => some (1, S8)) with ⟨k, S3, e1, e2, e3⟩ | ⟨k, q2, d', S3, e1, e2, e3, e4⟩
      · have e1' : lsum p (tC B T) n (j + 1) q' = .inl k := e1
        rw [e1']; exact ⟨0, S3, e2, e3⟩
      · have e1' : lsum p (tC B T) n (j + 1) q' = .inr (k, q2, d') := e1
        rw [e1']
        rw [xopD_cmp hw] at e4
        exact ⟨1, S3, e2, e4⟩
    have s60 : f_Ta_isSign 60 S2 = some (if tC B T j = 160 then 1 else 0) := is_sign (c := 60) hH (by omega)
    have s62 : f_Ta_isSign 62 S2 = some (if tC B T j = 162 then 1 else 0) := is_sign (c := 62) hH (by omega)
    have s61 : f_Ta_isSign 61 S2 = some (if tC B T j = 161 then 1 else 0) := is_sign (c := 61) hH (by omega)
    rw [if_neg (by decide), qb1 s60]
    by_cases c1 : tC B T j = 160
    · have hor : tC B T j = 160 ∨ tC B T j = 162 ∨ tC B T j = 161 := Or.inl c1
      simp only [if_pos c1, if_pos hor]
      exact STEP 10 (by omega) (by rw [c1]; decide)
    · simp only [if_neg c1, if_true]
      rw [qb1 s62]
      by_cases c2 : tC B T j = 162
      · have hor : tC B T j = 160 ∨ tC B T j = 162 ∨ tC B T j = 161 := Or.inr (Or.inl c2)
        simp only [if_pos c2, if_pos hor]
        exact STEP 11 (by omega) (by rw [c2]; decide)
      · simp only [if_neg c2, if_true]
        rw [qb1 s61]
        by_cases c3 : tC B T j = 161
        · have hor : tC B T j = 160 ∨ tC B T j = 162 ∨ tC B T j = 161 := Or.inr (Or.inr c3)
          simp only [if_pos c3, if_pos hor]
          exact STEP 12 (by omega) (by rw [c3]; decide)
        · have hor : ¬ (tC B T j = 160 ∨ tC B T j = 162 ∨ tC B T j = 161) := by
            rintro (h | h | h)
            · exact c1 h
            · exact c2 h
            · exact c3 h
          simp only [if_neg c3, if_neg hor]
          exact ⟨0, S2, rfl, o.1, rfl, hH⟩

/-! the class's parser: a whole clause -/
theorem take_law (fu : Nat) (hfu : 500 ≤ fu) {S : zSt} {B : Nat → Int32} {T i : Nat} (h : zHd S B T i) :
    (∀ n, n < 4 → tC B T i = nI (n + 1) → f_Re_takeLaw fu S = some (nI n, zTk S B T (tPos B T (i + 1)))) ∧ ((∀ n, n < 4 → tC B T i ≠ nI (n + 1)) → f_Re_takeLaw fu S = some (-1, S)) := by
  have t4 := take_word fu hfu h (n := 0) (j := 4) (by omega) rfl
  have t5 := take_word fu hfu h (n := 1) (j := 5) (by omega) rfl
  have t6 := take_word fu hfu h (n := 2) (j := 6) (by omega) rfl
  have t7 := take_word fu hfu h (n := 3) (j := 7) (by omega) rfl
  have ne : ∀ a b, a < 100 → b < 100 → a ≠ b → tC B T i = nI a → tC B T i ≠ nI b := fun a b h1 h2 h3 h4 h5 => h3 ((n_eq (by omega) (by omega)).mp (h4.symm.trans h5))
  unfold f_Re_takeLaw
  constructor
  · intro n hn hc
    rcases (by omega : n = 0 ∨ n = 1 ∨ n = 2 ∨ n = 3) with rfl | rfl | rfl | rfl
    · rw [qb2 (t4.1 hc).1, if_neg (by decide)]; rfl
    · rw [qb2 (t4.2 (ne 2 1 (by omega) (by omega) (by omega) hc)), if_pos rfl, qb2 (t5.1 hc).1, if_neg (by decide)]; rfl
    · rw [qb2 (t4.2 (ne 3 1 (by omega) (by omega) (by omega) hc)), if_pos rfl, qb2 (t5.2 (ne 3 2 (by omega) (by omega) (by omega) hc)), if_pos rfl, qb2 (t6.1 hc).1, if_neg (by decide)]; rfl
    · rw [qb2 (t4.2 (ne 4 1 (by omega) (by omega) (by omega) hc)), if_pos rfl, qb2 (t5.2 (ne 4 2 (by omega) (by omega) (by omega) hc)), if_pos rfl, qb2 (t6.2 (ne 4 3 (by omega) (by omega) (by omega) hc)), if_pos rfl, qb2 (t7.1 hc).1, if_neg (by decide)]; rfl
  · intro hc
    rw [qb2 (t4.2 (hc 0 (by omega))), if_pos rfl, qb2 (t5.2 (hc 1 (by omega))), if_pos rfl, qb2 (t6.2 (hc 2 (by omega))), if_pos rfl, qb2 (t7.2 (hc 3 (by omega))), if_pos rfl]
theorem take_order (fu : Nat) (hfu : 500 ≤ fu) {S : zSt} {B : Nat → Int32} {T i : Nat} (h : zHd S B T i) :
    (∀ n, n < 4 → tC B T i = nI (n + 21) → f_Re_takeOrder fu S = some (nI n, zTk S B T (tPos B T (i + 1)))) ∧ ((∀ n, n < 4 → tC B T i ≠ nI (n + 21)) → f_Re_takeOrder fu S = some (-1, S)) := by
  have t4 := take_word fu hfu h (n := 20) (j := 0) (by omega) rfl
  have t5 := take_word fu hfu h (n := 21) (j := 1) (by omega) rfl
  have t6 := take_word fu hfu h (n := 22) (j := 2) (by omega) rfl
  have t7 := take_word fu hfu h (n := 23) (j := 3) (by omega) rfl
  have ne : ∀ a b, a < 100 → b < 100 → a ≠ b → tC B T i = nI a → tC B T i ≠ nI b := fun a b h1 h2 h3 h4 h5 => h3 ((n_eq (by omega) (by omega)).mp (h4.symm.trans h5))
  unfold f_Re_takeOrder
  constructor
  · intro n hn hc
    rcases (by omega : n = 0 ∨ n = 1 ∨ n = 2 ∨ n = 3) with rfl | rfl | rfl | rfl
    · rw [qb2 (t4.1 hc).1, if_neg (by decide)]; rfl
    · rw [qb2 (t4.2 (ne 22 21 (by omega) (by omega) (by omega) hc)), if_pos rfl, qb2 (t5.1 hc).1, if_neg (by decide)]; rfl
    · rw [qb2 (t4.2 (ne 23 21 (by omega) (by omega) (by omega) hc)), if_pos rfl, qb2 (t5.2 (ne 23 22 (by omega) (by omega) (by omega) hc)), if_pos rfl, qb2 (t6.1 hc).1, if_neg (by decide)]; rfl
    · rw [qb2 (t4.2 (ne 24 21 (by omega) (by omega) (by omega) hc)), if_pos rfl, qb2 (t5.2 (ne 24 22 (by omega) (by omega) (by omega) hc)), if_pos rfl, qb2 (t6.2 (ne 24 23 (by omega) (by omega) (by omega) hc)), if_pos rfl, qb2 (t7.1 hc).1, if_neg (by decide)]; rfl
  · intro hc
    rw [qb2 (t4.2 (hc 0 (by omega))), if_pos rfl, qb2 (t5.2 (hc 1 (by omega))), if_pos rfl, qb2 (t6.2 (hc 2 (by omega))), if_pos rfl, qb2 (t7.2 (hc 3 (by omega))), if_pos rfl]
theorem zCS_tk {S : zSt} {B : Nat → Int32} {T : Nat} {ord : Int32} {W i q l : Nat} {cls : List xC} (h : zCS S B T ord W i q l cls) : zCS (zTk S B T (tPos B T (i + 1))) B T ord W (i + 1) q l cls := by
  obtain ⟨h1, h2, h3, h4, h5, h6, h7, h8⟩ := h
  have e : ∀ j, j ≠ 44 → zI (zTk S B T (tPos B T (i + 1))) j = zI S j := fun j hj => by
    funext k
    exact zTk_o _ _ _ _ (Or.inl hj)
  refine ⟨zTk_S h1, h2, ?_, h4, ?_, ?_, ?_, ?_⟩
  · rw [e 47 (by omega)]; exact h3
  · rw [e 48 (by omega), e 49 (by omega), e 50 (by omega), e 51 (by omega)]; exact h5
  · rw [e 50 (by omega)]; exact h6
  · rw [e 51 (by omega)]; exact h7
  · rw [e 47 (by omega)]; exact h8
theorem begin_ok {S : zSt} {B : Nat → Int32} {T : Nat} {ord : Int32} {W i q l k : Nat} {cls : List xC} (h : zCS S B T ord W i q l cls) (hk : k ≤ 3) (hc : cls.length < 12) : ∃ S', f_Tx_begin 47 (nI k) S = some S' ∧ zFF S S' ∧ zCS S' B T ord W i q l (cls ++ [xcO (k, lone, lone, 1, none)]) := by
  obtain ⟨h1, h2, h3, h4, h5, h6, h7, h8⟩ := h
  have l12 : ¬ (12 : Int32) ≤ nI cls.length := fun h => absurd ((n_le (a := 12) (by omega) (by omega)).mp h) (by omega)
  have e : f_Tx_begin 47 (nI k) S = some (zwI (zwI (zwI S 48 cls.length (nI k)) 49 cls.length 1) 47 2 (nI (cls.length + 1))) := by
    unfold f_Tx_begin
    have e2 : zI (zwI S (47 + 1) cls.length (nI k)) 47 2 = nI cls.length := by rw [qIIo _ _ (by omega)]; exact h3
    rw [h3, if_neg (n_neg (by omega)), if_neg l12, n_gd (by omega) hc, q_cl (by omega), e2, n_gd (by omega) hc, q_cl (by omega)]
    rw [qIIo _ _ (by omega), e2, n_1]
  refine ⟨_, e, zFF_t (zFF_t (zFF_w S _ _ (by omega)) (zFF_w _ _ _ (by omega))) (zFF_w _ _ _ (by omega)), ?_, h2, ?_, ?_, ?_, ?_, ?_, ?_⟩
  · obtain ⟨g1, g2, g3, g4, g5, g6⟩ := zPS_o (zPS_o h1 cls.length (nI k) (j := 48) (by omega)) cls.length 1 (j := 49) (by omega)
    refine ⟨zHd_w g1 _ _ (by omega) (by omega), ?_, ?_, ?_, ?_, g6⟩
    · rw [qIIo _ _ (by omega)]; exact g2
    · rw [qIIo _ _ (by omega)]; exact g3
    · rw [qIIo _ _ (by omega)]; exact g4
    · rw [qIIo _ _ (by omega)]; exact g5
  · rw [qIIs, List.length_append]; rfl
  · rw [List.length_append]; show cls.length + 1 ≤ 12; omega
  · intro j y hy
    rcases last_of hy with ⟨hj, hy2⟩ | ⟨hj, hy2⟩
    · obtain ⟨b1, b2, b3, b4, b5⟩ := h5 j y hy2
      refine ⟨?_, ?_, b3, b4, fun v hv => ?_⟩
      · rw [qIIo _ _ (by omega), qIIo _ _ (by omega), qIIo _ _ (by omega)]; exact b1
      · rw [qIIo _ _ (by omega), qIIo _ _ (by omega), qIIo _ _ (by omega)]; exact b2
      · rw [qIIo _ _ (by omega), qIIo _ _ (by omega), qIIo _ _ (by omega)]
        exact sg_up (b5 v hv) (Nat.le_refl _) (fun k _ => by rw [qIIo _ _ (by omega), qIIo _ _ (by omega), qIIo _ _ (by omega)])
    · rw [hy2, hj]
      refine ⟨?_, ?_, hk, by show 1 ≤ 20; omega, fun v hv => Or.inl ⟨?_, ?_⟩⟩
      · rw [qIIo _ _ (by omega), qIIo _ _ (by omega), qIIs]; rfl
      · rw [qIIo _ _ (by omega), qIIs]; rfl
      · rw [qIIo _ _ (by omega), qIIo _ _ (by omega), qIIo _ _ (by omega)]
        exact h6 _ (by omega) (by omega)
      · show (if v = 0 then lone else if v = 1 then lone else lone) = lone
        split
        · rfl
        · split <;> rfl
  · intro k' a b
    rw [List.length_append] at a
    have a' : 3 * (cls.length + 1) ≤ k' := a
    rw [qIIo _ _ (by omega), qIIo _ _ (by omega), qIIo _ _ (by omega)]
    exact h6 k' (by omega) b
  · exact codeOk_e h7 (fun k _ => by rw [qIIo _ _ (by omega), qIIo _ _ (by omega), qIIo _ _ (by omega)])
  · intro hs y hy
    rw [qIIo _ _ (by omega), qIIo _ _ (by omega), qIIo _ _ (by omega)] at hs
    rcases List.mem_append.mp hy with hy | hy
    · exact h8 hs y hy
    · have e : y = xcO (k, lone, lone, 1, none) := by simpa using hy
      rw [e]
      intro v hv E E' hE
      show (if v = 0 then lone else if v = 1 then lone else lone) E = (if v = 0 then lone else if v = 1 then lone else lone) E'
      split
      · rfl
      · split <;> rfl
theorem xset0 (k t : Nat) (d : lD) : xset (xcO (k, lone, lone, t, none)) 0 d = xcO (k, d, lone, t, none) := by
  refine congrArg (fun f => (k, t, f)) ?_
  funext v
  show (if v = 0 then d else if v = 0 then lone else if v = 1 then lone else lone) = if v = 0 then d else if v = 1 then lone else lone
  by_cases h : v = 0
  · rw [if_pos h, if_pos h]
  · rw [if_neg h, if_neg h, if_neg h]
theorem xset1 (k t : Nat) (d1 d : lD) : xset (xcO (k, d1, lone, t, none)) 1 d = xcO (k, d1, d, t, none) := by
  refine congrArg (fun f => (k, t, f)) ?_
  funext v
  show (if v = 1 then d else if v = 0 then d1 else if v = 1 then lone else lone) = if v = 0 then d1 else if v = 1 then d else lone
  by_cases h : v = 0
  · rw [if_pos h, if_pos h, if_neg (by omega)]
  · rw [if_neg h, if_neg h]
    by_cases h1 : v = 1
    · rw [if_pos h1, if_pos h1]
    · rw [if_neg h1, if_neg h1, if_neg h1]
theorem cs_xset2 {S : zSt} {B : Nat → Int32} {T : Nat} {ord : Int32} {W i q l k t : Nat} {cls : List xC} {d1 d2 : lD} {d : lT} (h : zCS S B T ord W i q l (cls ++ [xset (xcO (k, d1, d2, t, none)) 2 (xT d)])) : zCS S B T ord W i q l (cls ++ [xcO (k, d1, d2, t, some d)]) := by
  obtain ⟨h1, h2, h3, h4, h5, h6, h7, h8⟩ := h
  rw [List.length_append] at h3 h4 h6
  have F : ∀ v, v < 3 → (xcO (k, d1, d2, t, some d)).2.2 v = (xset (xcO (k, d1, d2, t, none)) 2 (xT d)).2.2 v := by
    intro v hv
    show (if v = 0 then d1 else if v = 1 then d2 else xT d) = if v = 2 then xT d else if v = 0 then d1 else if v = 1 then d2 else lone
    rcases (by omega : v = 0 ∨ v = 1 ∨ v = 2) with rfl | rfl | rfl <;> rfl
  refine ⟨h1, h2, by rw [List.length_append]; exact h3, by rw [List.length_append]; exact h4, ?_, by rw [List.length_append]; exact h6, h7, ?_⟩
  · intro j y hy
    rcases last_of hy with ⟨hj, hy2⟩ | ⟨hj, hy2⟩
    · exact h5 j y (by rw [List.getElem?_append_left hj]; exact hy2)
    · obtain ⟨b1, b2, b3, b4, b5⟩ := h5 j _ (by rw [hj, List.getElem?_append_right (by omega), Nat.sub_self]; rfl)
      rw [hy2]
      exact ⟨b1, b2, b3, b4, fun v hv => by rw [F v hv]; exact b5 v hv⟩
  · intro hs y hy
    rcases List.mem_append.mp hy with hy | hy
    · exact h8 hs y (List.mem_append.mpr (Or.inl hy))
    · have e : y = xcO (k, d1, d2, t, some d) := by simpa using hy
      rw [e]
      intro v hv
      rw [F v hv]
      exact h8 hs _ (List.mem_append.mpr (Or.inr (by simp))) v hv
/-- behind a clause -/
def zOutC (S0 : zSt) (B : Nat → Int32) (T : Nat) (ord : Int32) (W : Nat) (cls : List xC) (R : Nat ⊕ (Nat × Nat × lC)) (r : Int32) (S' : zSt) : Prop := zFF S0 S' ∧ match R with
  | .inl j => r = 0 ∧ zHd S' B T j
  | .inr (j, q', c) => r = 1 ∧ ∃ l', zCS S' B T ord W j q' l' (cls ++ [xcO c]) ∧ l' ≤ j
theorem zOutC_t {S0 S1 S' : zSt} {B : Nat → Int32} {T : Nat} {ord : Int32} {W : Nat} {cls : List xC} {R : Nat ⊕ (Nat × Nat × lC)} {r : Int32} (hF : zFF S0 S1) (h : zOutC S1 B T ord W cls R r S') : zOutC S0 B T ord W cls R r S' := ⟨zFF_t hF h.1, h.2⟩
section ZCL
variable (fu : Nat) (hfu : 500 ≤ fu) {B : Nat → Int32} {T : Nat} {ord : Int32} {W n : Nat} {ordB : Bool} (hn : 401 ≤ n) (hpS : pOk B T ord W 0 (f_Re_readSum fu 64) (fun i q => lsum (lpart ordB (tC B T) (tV B T) n 8) (tC B T) n i q)) (hpT : pOkT B T ord W 0 (f_Re_readTest fu 64) (fun i q => ltest (lplain ordB (tC B T) (tV B T) n 8) (tC B T) n i q)) {cls : List xC}
theorem if_ok (fu : Nat) (hfu : 500 ≤ fu) (hpT : pOkT B T ord W 0 (f_Re_readTest fu 64) (fun i q => ltest (lplain ordB (tC B T) (tV B T) n 8) (tC B T) n i q)) {S : zSt} {i q l k t : Nat} {d1 d2 : lD} (h : zCS S B T ord W i q l (cls ++ [xcO (k, d1, d2, t, none)])) (hl : l ≤ i) :
    ∃ r S', f_Re_readClause_147 fu S = some (r, S') ∧ zOutC S B T ord W cls (lif ordB (tC B T) (tV B T) n i q (k, d1, d2, t)) r S' := by
  have tk := take_word fu hfu h.1.1 (n := 4) (j := 24) (by omega) rfl
  unfold f_Re_readClause_147 lif
  by_cases c : tC B T i = 5
  · rw [qb2 (tk.1 c).1, if_neg (by decide), if_pos c]
    have F1 : zFF S (zTk S B T (tPos B T (i + 1))) := zFF_P (zPF_tk (B := B) (T := T) _ l)
    obtain ⟨S1, e1, hh⟩ := piece_ok fu hfu (pOk_T hpT) (w := 2) (by omega) (zCS_tk h) (by omega)
    have e1' : f_Tx_start 47 2 (zTk S B T (tPos B T (i + 1))) = some S1 := e1
    rw [qb1 e1']
    rcases hh with ⟨k2, S2, a1, a2, a3, a4⟩ | ⟨k2, q', d, S2, S3, l', a1, a2, a3, a4, a5, a6, a7, a8⟩
    · rw [qb2 a2, if_pos rfl]
      have b : ltest (lplain ordB (tC B T) (tV B T) n 8) (tC B T) n (i + 1) q = .inl k2 := by
        revert a1
        show mapT (ltest (lplain ordB (tC B T) (tV B T) n 8) (tC B T) n (i + 1) q) = _ → _
        cases ltest (lplain ordB (tC B T) (tV B T) n 8) (tC B T) n (i + 1) q with
        | inl j => intro h; injection h with h; rw [h]
        | inr x => intro h; cases h
      rw [b]
      exact ⟨0, S2, rfl, zFF_t F1 a4, rfl, a3⟩
    · rw [qb2 a2, if_neg (by decide)]
      have a3' : f_Tx_emit 47 13 0 S2 = some S3 := a3
      rw [qb1 a3']
      obtain ⟨dT, b, hd⟩ : ∃ dT, ltest (lplain ordB (tC B T) (tV B T) n 8) (tC B T) n (i + 1) q = .inr (k2, q', dT) ∧ d = xT dT := by
        revert a1
        show mapT (ltest (lplain ordB (tC B T) (tV B T) n 8) (tC B T) n (i + 1) q) = _ → _
        cases ltest (lplain ordB (tC B T) (tV B T) n 8) (tC B T) n (i + 1) q with
        | inl j => intro h; cases h
        | inr x =>
          obtain ⟨x1, x2, x3⟩ := x
          intro h
          injection h with h
          injection h with h1 h2
          injection h2 with h2 h3
          exact ⟨x3, by rw [h1, h2], h3.symm⟩
      rw [b]
      rw [hd] at a5
      exact ⟨1, S3, rfl, zFF_t F1 a4, rfl, l', cs_xset2 a5, a6⟩
  · rw [qb2 (tk.2 c), if_pos rfl, if_neg c]
    exact ⟨1, S, rfl, zFF_r S, rfl, l, h, hl⟩
theorem sum_piece (fu : Nat) (hfu : 500 ≤ fu) (hpS : pOk B T ord W 0 (f_Re_readSum fu 64) (fun i q => lsum (lpart ordB (tC B T) (tV B T) n 8) (tC B T) n i q)) {S : zSt} {i q l w : Nat} {x : xC} (hw : w < 3) (h : zCS S B T ord W i q l (cls ++ [x])) (hl : l + 1 ≤ i) (k56 : Int32 → Int32 → zSt → Option (Int32 × zSt)) (a3 a4 : Int32) :
    (∃ k S2, lsum (lpart ordB (tC B T) (tV B T) n 8) (tC B T) n i q = .inl k ∧ f_Re_readClause_92 fu k56 a3 a4 (nI w) S = some (0, S2) ∧ zHd S2 B T k ∧ zFF S S2) ∨
    (∃ k q' d S3 l', lsum (lpart ordB (tC B T) (tV B T) n 8) (tC B T) n i q = .inr (k, q', d) ∧ f_Re_readClause_92 fu k56 a3 a4 (nI w) S = k56 a3 (a4 + 1) S3 ∧ zFF S S3 ∧ zCS S3 B T ord W k q' l' (cls ++ [xset x w d]) ∧ l' ≤ k) := by
  obtain ⟨S1, e1, hh⟩ := piece_ok fu hfu hpS hw h hl
  unfold f_Re_readClause_92
  rw [qb1 e1]
  rcases hh with ⟨k2, S2, a1, a2, a3, a4⟩ | ⟨k2, q', d, S2, S3, l', a1, a2, a3, a4, a5, a6, a7, a8⟩
  · refine Or.inl ⟨k2, S2, a1, ?_, a3, a4⟩
    rw [qb2 a2, if_pos rfl]
  · refine Or.inr ⟨k2, q', d, S3, l', a1, ?_, a4, a5, a6⟩
    rw [qb2 a2, if_neg (by decide)]
    exact qb1 a3
theorem s56_end (n : Nat) {a3 a4 : Int32} (h : a3 ≤ a4) (S : zSt) : f_Re_readClause_56 fu (n + 1) a3 a4 S = f_Re_readClause_121 fu S := by
  rw [f_Re_readClause_56, if_pos h]
theorem s56_0 (n : Nat) {a3 : Int32} (h : ¬ a3 ≤ 0) (S : zSt) : f_Re_readClause_56 fu (n + 1) a3 0 S = f_Re_readClause_92 fu (f_Re_readClause_56 fu n) a3 0 0 S := by
  rw [f_Re_readClause_56, if_neg h, if_pos (by decide), if_pos rfl]
theorem s56_1 (n : Nat) {a3 : Int32} (h : ¬ a3 ≤ 1) (S : zSt) : f_Re_readClause_56 fu (n + 1) a3 1 S = zb2 (f_Ta_takeWord fu 8 S) (fun r5 S6 => if r5 = 0 then some ((0 : Int32), S6) else f_Re_readClause_92 fu (f_Re_readClause_56 fu n) a3 1 1 S6) := by
  rw [f_Re_readClause_56, if_neg h, if_neg (by decide)]
  rfl
end ZCL

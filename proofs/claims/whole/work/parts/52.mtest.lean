/-! the reference's parser: tests -/
section MTS
variable {S : zSt} {B : Nat → Int32} {T N : Nat}
theorem mb_dead (fu : Nat) (f : Int32 → zSt → Option zSt) (a1 t v : Int32) {b : Int32} (hb : b ≠ -1) {n : Nat} (hn : 1 ≤ n) : f_M_readBoth_5 f fu n a1 (zQ S t v b) = some (zQ S t v b) := by
  obtain ⟨n, rfl⟩ : ∃ n', n = n' + 1 := ⟨n - 1, by omega⟩
  rw [f_M_readBoth_5, qb2 (m_takes_dead S t v hb _), if_pos rfl]
theorem mo_dead (fu : Nat) (f : Int32 → zSt → Option zSt) (a1 t v : Int32) {b : Int32} (hb : b ≠ -1) {n : Nat} (hn : 1 ≤ n) : f_M_readTest_5 f fu n a1 (zQ S t v b) = some (zQ S t v b) := by
  obtain ⟨n, rfl⟩ : ∃ n', n = n' + 1 := ⟨n - 1, by omega⟩
  rw [f_M_readTest_5, qb2 (m_takes_dead S t v hb _), if_pos rfl]
theorem mb_loop (fu : Nat) (hM : zMS S B T N) (f : Int32 → zSt → Option zSt) (a1 : Int32) {p : Nat → Nat → lRT} (hp : mOk S B T N (f a1) (fun i q => sR (p i q))) : ∀ (n m i q : Nat) (d : lT), i ≤ N → q ≤ 50 → 402 ≤ n + i → 401 ≤ m + i →
    ∃ t v b, f_M_readBoth_5 f fu n a1 (zQ S (nI i) (nI q) (-1)) = some (zQ S t v b) ∧ mR B T N i q (sR (lloopA p (tC B T) m i q d)) t v b := by
  have hN := hM.1
  intro n
  induction n with
  | zero => intro m i q d h1 h2 h3; omega
  | succ n ih =>
    intro m i q d h1 h2 h3 h4
    obtain ⟨m, rfl⟩ : ∃ m', m = m' + 1 := ⟨m - 1, by omega⟩
    have tk := m_takes hM h1 (nI q) 7
    rw [f_M_readBoth_5, lloopA]
    by_cases c1 : tC B T i = 7
    · have hlt : i < N := tok_in hM.2.2.1 (by rw [c1]; decide)
      rw [qb2 (tk.1 c1), if_neg (by decide), if_pos c1]
      obtain ⟨t, v, b, x1, x2⟩ := hp.2 (i + 1) q (by omega) h2
      rw [qb1 x1]
      revert x2
      show mR B T N (i + 1) q (sR (p (i + 1) q)) t v b → _
      cases p (i + 1) q with
      | inl j =>
        intro x2
        obtain ⟨x3, rfl⟩ := x2
        exact ⟨t, v, _, mb_dead fu f a1 t v (pos_ne B hM.2.1 j) (by omega), x3, rfl⟩
      | inr y =>
        obtain ⟨j, q', d'⟩ := y
        intro x2
        obtain ⟨rfl, rfl, rfl, x3, x4, x5, x6⟩ := x2
        obtain ⟨t, v, b, y1, y2⟩ := ih m j q' (landD d d') x4 x6 (by omega) (by omega)
        exact ⟨t, v, b, y1, mR_up y2 (by omega) (by omega)⟩
    · rw [qb2 (tk.2 c1), if_pos rfl, if_neg c1]
      exact ⟨_, _, _, rfl, rfl, rfl, rfl, by omega, h1, by omega, h2⟩
theorem mb_ok (fu : Nat) (hfu : 500 ≤ fu) (hM : zMS S B T N) (f : Int32 → zSt → Option zSt) (a1 : Int32) {p : Nat → Nat → lRT} {n : Nat} (hn : 401 ≤ n) (hp : mOk S B T N (f a1) (fun i q => sR (p i q))) : mOk S B T N (f_M_readBoth_o f fu a1) (fun i q => sR (lboth p (tC B T) n i q)) := by
  refine ⟨fun t v b hb => ?_, fun i q hi hq => ?_⟩
  · unfold f_M_readBoth_o
    rw [qb1 (hp.1 t v b hb)]
    exact mb_dead fu f a1 t v hb (by omega)
  · obtain ⟨t, v, b, x1, x2⟩ := hp.2 i q hi hq
    show ∃ t v b, f_M_readBoth_o f fu a1 (zQ S (nI i) (nI q) (-1)) = some (zQ S t v b) ∧ mR B T N i q (sR (lboth p (tC B T) n i q)) t v b
    unfold f_M_readBoth_o lboth
    rw [qb1 x1]
    revert x2
    show mR B T N i q (sR (p i q)) t v b → _
    cases p i q with
    | inl j =>
      intro x2
      obtain ⟨x3, rfl⟩ := x2
      exact ⟨t, v, _, mb_dead fu f a1 t v (pos_ne B hM.2.1 j) (by omega), x3, rfl⟩
    | inr y =>
      obtain ⟨j, q', d'⟩ := y
      intro x2
      obtain ⟨rfl, rfl, rfl, x3, x4, x5, x6⟩ := x2
      obtain ⟨t, v, b, y1, y2⟩ := mb_loop fu hM f a1 hp fu n j q' d' x4 x6 (by omega) (by omega)
      exact ⟨t, v, b, y1, mR_up y2 (by omega) (by omega)⟩
theorem mo_loop (fu : Nat) (hM : zMS S B T N) (f : Int32 → zSt → Option zSt) (a1 : Int32) {p : Nat → Nat → lRT} {M : Nat} (hp : mOk S B T N (f a1) (fun i q => sR (lboth p (tC B T) M i q))) : ∀ (n m i q : Nat) (d : lT), i ≤ N → q ≤ 50 → 402 ≤ n + i → 401 ≤ m + i →
    ∃ t v b, f_M_readTest_5 f fu n a1 (zQ S (nI i) (nI q) (-1)) = some (zQ S t v b) ∧ mR B T N i q (sR (lloopO p (tC B T) M m i q d)) t v b := by
  have hN := hM.1
  intro n
  induction n with
  | zero => intro m i q d h1 h2 h3; omega
  | succ n ih =>
    intro m i q d h1 h2 h3 h4
    obtain ⟨m, rfl⟩ : ∃ m', m = m' + 1 := ⟨m - 1, by omega⟩
    have tk := m_takes hM h1 (nI q) 6
    rw [f_M_readTest_5, lloopO]
    by_cases c1 : tC B T i = 6
    · have hlt : i < N := tok_in hM.2.2.1 (by rw [c1]; decide)
      rw [qb2 (tk.1 c1), if_neg (by decide), if_pos c1]
      obtain ⟨t, v, b, x1, x2⟩ := hp.2 (i + 1) q (by omega) h2
      rw [qb1 x1]
      revert x2
      show mR B T N (i + 1) q (sR (lboth p (tC B T) M (i + 1) q)) t v b → _
      cases lboth p (tC B T) M (i + 1) q with
      | inl j =>
        intro x2
        obtain ⟨x3, rfl⟩ := x2
        exact ⟨t, v, _, mo_dead fu f a1 t v (pos_ne B hM.2.1 j) (by omega), x3, rfl⟩
      | inr y =>
        obtain ⟨j, q', d'⟩ := y
        intro x2
        obtain ⟨rfl, rfl, rfl, x3, x4, x5, x6⟩ := x2
        obtain ⟨t, v, b, y1, y2⟩ := ih m j q' (lorD d d') x4 x6 (by omega) (by omega)
        exact ⟨t, v, b, y1, mR_up y2 (by omega) (by omega)⟩
    · rw [qb2 (tk.2 c1), if_pos rfl, if_neg c1]
      exact ⟨_, _, _, rfl, rfl, rfl, rfl, by omega, h1, by omega, h2⟩
theorem mo_ok (fu : Nat) (hfu : 500 ≤ fu) (hM : zMS S B T N) (f : Int32 → zSt → Option zSt) (a1 : Int32) {p : Nat → Nat → lRT} {n : Nat} (hn : 401 ≤ n) (hp : mOk S B T N (f a1) (fun i q => sR (lboth p (tC B T) n i q))) : mOk S B T N (f_M_readTest_o f fu a1) (fun i q => sR (ltest p (tC B T) n i q)) := by
  refine ⟨fun t v b hb => ?_, fun i q hi hq => ?_⟩
  · unfold f_M_readTest_o
    rw [qb1 (hp.1 t v b hb)]
    exact mo_dead fu f a1 t v hb (by omega)
  · obtain ⟨t, v, b, x1, x2⟩ := hp.2 i q hi hq
    show ∃ t v b, f_M_readTest_o f fu a1 (zQ S (nI i) (nI q) (-1)) = some (zQ S t v b) ∧ mR B T N i q (sR (ltest p (tC B T) n i q)) t v b
    unfold f_M_readTest_o ltest
    rw [qb1 x1]
    revert x2
    show mR B T N i q (sR (lboth p (tC B T) n i q)) t v b → _
    cases lboth p (tC B T) n i q with
    | inl j =>
      intro x2
      obtain ⟨x3, rfl⟩ := x2
      exact ⟨t, v, _, mo_dead fu f a1 t v (pos_ne B hM.2.1 j) (by omega), x3, rfl⟩
    | inr y =>
      obtain ⟨j, q', d'⟩ := y
      intro x2
      obtain ⟨rfl, rfl, rfl, x3, x4, x5, x6⟩ := x2
      obtain ⟨t, v, b, y1, y2⟩ := mo_loop fu hM f a1 hp fu n j q' d' x4 x6 (by omega) (by omega)
      exact ⟨t, v, b, y1, mR_up y2 (by omega) (by omega)⟩
theorem mn_loop (fu : Nat) (hM : zMS S B T N) (f : Int32 → zSt → Option zSt) (a1 : Int32) {q : Nat} : ∀ (n m i : Nat) (neg : Bool), i ≤ N → 403 ≤ n + i → 401 ≤ m + i →
    f_M_readPlain_2 f fu n a1 1 (zQ S (nI i) (nI q) (-1)) = f_M_readPlain_16 f fu a1 (zQ S (nI (lnots (tC B T) m i neg).1) (nI q) (-1)) ∧ i ≤ (lnots (tC B T) m i neg).1 ∧ (lnots (tC B T) m i neg).1 ≤ N := by
  have hN := hM.1
  intro n
  induction n with
  | zero => intro m i neg h1 h2; omega
  | succ n ih =>
    intro m i neg h1 h2 h3
    obtain ⟨m, rfl⟩ : ∃ m', m = m' + 1 := ⟨m - 1, by omega⟩
    have tk := m_takes hM h1 (nI q) 8
    rw [f_M_readPlain_2, if_neg (by decide)]
    by_cases c1 : tC B T i = 8
    · have hlt : i < N := tok_in hM.2.2.1 (by rw [c1]; decide)
      have e : lnots (tC B T) (m + 1) i neg = lnots (tC B T) m (i + 1) (!neg) := by
        show (if tC B T i = 8 then _ else _) = _
        rw [if_pos c1]
      rw [qb2 (tk.1 c1), e]
      obtain ⟨y1, y2, y3⟩ := ih m (i + 1) (!neg) (by omega) (by omega) (by omega)
      exact ⟨y1, by omega, y3⟩
    · obtain ⟨n, rfl⟩ : ∃ n', n = n' + 1 := ⟨n - 1, by omega⟩
      rw [qb2 (tk.2 c1), lnots_stop c1, f_M_readPlain_2, if_pos rfl]
      exact ⟨rfl, Nat.le_refl _, h1⟩
theorem mp_dead (fu : Nat) (f : Int32 → zSt → Option zSt) (a1 t v : Int32) {b : Int32} (hb : b ≠ -1) (n : Nat) : f_M_readPlain_2 f fu (n + 2) a1 1 (zQ S t v b) = some (zQ S t v b) := by
  rw [f_M_readPlain_2, if_neg (by decide), qb2 (m_takes_dead S t v hb _), f_M_readPlain_2, if_pos rfl]
  unfold f_M_readPlain_16
  rw [qb1 (m_fine0 S t v hb), if_pos rfl]
/-- a comparison -/
theorem m_comp (fu : Nat) (hM : zMS S B T N) (a1 : Int32) {p : Nat → Nat → lR} {n : Nat} (hsum : mOk S B T N (f_M_readSum fu 64 a1) (fun i q => sR (lsum p (tC B T) n i q))) {i q : Nat} (hi : i ≤ N) (hq : q ≤ 50) :
    ∃ t v b, zb1 (f_M_readSum fu 64 a1 (zQ S (nI i) (nI q) (-1))) (fun S9 => zb1 (f_M_sign (60 : Int32)) (fun r11 => zb2 (f_M_takes0 r11 S9) (fun r13 S14 => if r13 = 0 then zb1 (f_M_sign (62 : Int32)) (fun r19 => zb2 (f_M_takes0 r19 S14) (fun r21 S22 => if r21 = 0 then zb1 (f_M_sign (61 : Int32)) (fun r27 => zb1 (f_M_must r27 S22) (fun S29 => zb1 (f_M_readSum fu 64 a1 S29) (fun S31 => some S31))) else zb1 (f_M_readSum fu 64 a1 S22) (fun S25 => some S25))) else zb1 (f_M_readSum fu 64 a1 S14) (fun S17 => some S17)))) = some (zQ S t v b) ∧ mR B T N i q (sR (lcomp p (tC B T) n i q)) t v b := by
  have e60 : f_M_sign 60 = some 160 := rfl
  have e62 : f_M_sign 62 = some 162 := rfl
  have e61 : f_M_sign 61 = some 161 := rfl
  obtain ⟨t, v, b, x1, x2⟩ := hsum.2 i q hi hq
  rw [qb1 x1, e60, qb1s]
  unfold lcomp
  revert x2
  show mR B T N i q (sR (lsum p (tC B T) n i q)) t v b → _
  cases lsum p (tC B T) n i q with
  | inl j =>
    intro x2
    obtain ⟨x3, rfl⟩ := x2
    have pn := pos_ne B hM.2.1 j
    rw [qb2 (m_takes_dead S t v pn _), if_pos rfl, e62, qb1s, qb2 (m_takes_dead S t v pn _), if_pos rfl, e61, qb1s, qb1 (m_must_dead S t v pn _), qb1 (hsum.1 t v _ pn)]
    exact ⟨t, v, _, rfl, x3, rfl⟩
  | inr y =>
    obtain ⟨j, q', d⟩ := y
    intro x2
    obtain ⟨rfl, rfl, rfl, x3, x4, x5, x6⟩ := x2
    have STEP : ∀ w, tC B T j ≠ 0 → ∃ t v b, zb1 (f_M_readSum fu 64 a1 (zQ S (nI (j + 1)) (nI q') (-1))) (fun S17 => some S17) = some (zQ S t v b) ∧ mR B T N i q (sR (match lsum p (tC B T) n (j + 1) q' with
        | .inl k => .inl k
        | .inr (k, q2, d2) => .inr (k, q2, lcmpD w d d2))) t v b := by
      intro w h0
      have hlt : j < N := tok_in hM.2.2.1 h0
      obtain ⟨t, v, b, y1, y2⟩ := hsum.2 (j + 1) q' (by omega) x6
      rw [qb1 y1]
      revert y2
      show mR B T N (j + 1) q' (sR (lsum p (tC B T) n (j + 1) q')) t v b → _
      cases lsum p (tC B T) n (j + 1) q' with
      | inl k => intro y2; exact ⟨t, v, b, rfl, y2⟩
      | inr z =>
        obtain ⟨k, q2, d2⟩ := z
        intro y2
        exact ⟨t, v, b, rfl, mR_up (R := .inr (k, q2)) y2 (by omega) (by omega)⟩
    have t60 := m_takes hM x4 (nI q') 160
    have t62 := m_takes hM x4 (nI q') 162
    have t61 := m_must hM x4 (nI q') 161
    by_cases c1 : tC B T j = 160
    · have hor : tC B T j = 160 ∨ tC B T j = 162 ∨ tC B T j = 161 := Or.inl c1
      rw [qb2 (t60.1 c1), if_neg (by decide)]
      simp only [if_pos hor, if_pos c1]
      exact STEP _ (by rw [c1]; decide)
    rw [qb2 (t60.2 c1), if_pos rfl, e62, qb1s]
    by_cases c2 : tC B T j = 162
    · have hor : tC B T j = 160 ∨ tC B T j = 162 ∨ tC B T j = 161 := Or.inr (Or.inl c2)
      rw [qb2 (t62.1 c2), if_neg (by decide)]
      simp only [if_pos hor, if_neg c1, if_pos c2]
      exact STEP _ (by rw [c2]; decide)
    rw [qb2 (t62.2 c2), if_pos rfl, e61, qb1s]
    by_cases c3 : tC B T j = 161
    · have hor : tC B T j = 160 ∨ tC B T j = 162 ∨ tC B T j = 161 := Or.inr (Or.inr c3)
      rw [qb1 (t61.1 c3)]
      simp only [if_pos hor, if_neg c1, if_neg c2]
      exact STEP _ (by rw [c3]; decide)
    · have hor : ¬ (tC B T j = 160 ∨ tC B T j = 162 ∨ tC B T j = 161) := by
        rintro (h | h | h)
        · exact c1 h
        · exact c2 h
        · exact c3 h
      have pn := pos_ne B hM.2.1 j
      rw [qb1 (t61.2 c3), qb1 (hsum.1 _ _ _ pn)]
      simp only [if_neg hor]
      exact ⟨_, _, _, rfl, x4, rfl⟩
theorem m_plain_ok (fu : Nat) (hfu : 500 ≤ fu) (cT : Int32 → zSt → Option zSt) {n r : Nat} {ord : Bool} (hM : zMS S B T N) (hn : 401 ≤ n) (hr : r ≤ 8) (hsum : mOk S B T N (f_M_readSum fu 64 (nI (8 - r))) (fun i q => sR (lsum (lpart ord (tC B T) (tV B T) n r) (tC B T) n i q)))
    (hs : ∀ r', r = r' + 1 → mOk S B T N (cT (nI (8 - r'))) (fun i q => sR (ltest (lplain ord (tC B T) (tV B T) n r') (tC B T) n i q))) :
    mOk S B T N (f_M_readPlain_o cT fu (nI (8 - r))) (fun i q => sR (lplain ord (tC B T) (tV B T) n r i q)) := by
  have hN := hM.1
  refine ⟨fun t v b hb => ?_, fun i q hi hq => ?_⟩
  · obtain ⟨fu, rfl⟩ : ∃ f', fu = f' + 2 := ⟨fu - 2, by omega⟩
    exact mp_dead (fu + 2) cT _ t v hb fu
  · obtain ⟨g1, g2, g3⟩ := mn_loop fu hM cT (nI (8 - r)) (q := q) fu n i false hi (by omega) (by omega)
    unfold f_M_readPlain_o
    rw [g1]
    have L : sR (lplain ord (tC B T) (tV B T) n r i q) = sR (if tC B T (lnots (tC B T) n i false).1 = 140 then lBr0 ord (tC B T) (tV B T) n r (lnots (tC B T) n i false).1 q else lcomp (lpart ord (tC B T) (tV B T) n r) (tC B T) n (lnots (tC B T) n i false).1 q) := by
      cases r with
      | zero =>
        show sR (if tC B T (lnots (tC B T) n i false).1 = 140 then _ else _) = _
        by_cases c : tC B T (lnots (tC B T) n i false).1 = 140
        · rw [if_pos c, if_pos c]
          rfl
        · rw [if_neg c, if_neg c]
          cases lcomp (lpart ord (tC B T) (tV B T) n 0) (tC B T) n (lnots (tC B T) n i false).1 q <;> rfl
      | succ r' =>
        show sR (if tC B T (lnots (tC B T) n i false).1 = 140 then _ else _) = _
        by_cases c : tC B T (lnots (tC B T) n i false).1 = 140
        · rw [if_pos c, if_pos c]
          show _ = sR (lRbrkT (tC B T) 141 (ltest (lplain ord (tC B T) (tV B T) n r') (tC B T) n ((lnots (tC B T) n i false).1 + 1) q))
          cases ltest (lplain ord (tC B T) (tV B T) n r') (tC B T) n ((lnots (tC B T) n i false).1 + 1) q with
          | inl j => rfl
          | inr x =>
            obtain ⟨j, q', d⟩ := x
            show sR (if tC B T j = 141 then _ else _) = sR (if tC B T j = 141 then _ else _)
            by_cases c2 : tC B T j = 141
            · rw [if_pos c2, if_pos c2]; rfl
            · rw [if_neg c2, if_neg c2]
        · rw [if_neg c, if_neg c]
          cases lcomp (lpart ord (tC B T) (tV B T) n (r' + 1)) (tC B T) n (lnots (tC B T) n i false).1 q <;> rfl
    show ∃ t v b, _ ∧ mR B T N i q (sR (lplain ord (tC B T) (tV B T) n r i q)) t v b
    rw [L]
    generalize (lnots (tC B T) n i false).1 = i1 at *
    have e := (hM.2.2.2.1 i1 g3).1
    unfold f_M_readPlain_16
    rw [qb1 (m_fine1 S _ _), if_neg (by decide), zQ_19, n_gd (by omega) (by omega), q_cl (by omega), zQ_o _ _ _ _ (Or.inl (by omega)), e, show f_M_sign 40 = some 140 from rfl, qb1s]
    by_cases c : tC B T i1 = 140
    · have hlt : i1 < N := tok_in hM.2.2.1 (by rw [c]; decide)
      rw [if_pos c, if_pos c]
      cases r with
      | zero =>
        rw [if_pos (by rfl), qb1 (m_faults hM g3 _)]
        unfold f_M_readPlain_53
        rw [qb1 (m_fine0 S _ _ (pos_ne B hM.2.1 i1)), if_pos rfl]
        exact ⟨_, _, _, rfl, g3, rfl⟩
      | succ r' =>
        have ne : ¬ nI (8 - (r' + 1)) = (8 : Int32) := fun h2 => absurd ((n_eq (b := 8) (by omega) (by omega)).mp h2) (by omega)
        rw [if_neg ne]
        obtain ⟨hd, ha⟩ := hs r' rfl
        obtain ⟨t, v, b, h1, h2⟩ := ha (i1 + 1) q (by omega) hq
        have U2 : f_M_readPlain_53 cT fu (nI (8 - (r' + 1))) (zQ S (nI i1) (nI q) (-1)) = zb1 (f_M_must 141 (zQ S t v b)) (fun S9 => some S9) := by
          unfold f_M_readPlain_53
          rw [qb1 (m_fine1 S _ _), if_neg (by decide), zQ_19, n_1, n_1, zQ_w19, show 8 - (r' + 1) + 1 = 8 - r' by omega, qb1 h1]
          rfl
        rw [U2]
        show ∃ t v b, _ ∧ mR B T N i q (sR (lRbrkT (tC B T) 141 (ltest (lplain ord (tC B T) (tV B T) n r') (tC B T) n (i1 + 1) q))) t v b
        revert h2
        show mR B T N (i1 + 1) q (sR (ltest (lplain ord (tC B T) (tV B T) n r') (tC B T) n (i1 + 1) q)) t v b → _
        cases ltest (lplain ord (tC B T) (tV B T) n r') (tC B T) n (i1 + 1) q with
        | inl j =>
          intro h2
          obtain ⟨h3, rfl⟩ := h2
          exact ⟨_, _, _, qb1 (m_must_dead S t v (pos_ne B hM.2.1 j) 141), h3, rfl⟩
        | inr x =>
          obtain ⟨j, q', d⟩ := x
          intro h2
          obtain ⟨rfl, rfl, rfl, h3, h4, h5, h6⟩ := h2
          have hm := m_must hM h4 (nI q') 141
          show ∃ t v b, _ ∧ mR B T N i q (sR (if tC B T j = 141 then .inr (j + 1, q', d) else .inl j)) t v b
          by_cases c2 : tC B T j = 141
          · have hlt2 : j < N := tok_in hM.2.2.1 (by rw [c2]; decide)
            rw [if_pos c2]
            exact ⟨_, _, _, qb1 (hm.1 c2), rfl, rfl, rfl, by omega, by omega, by omega, by omega⟩
          · rw [if_neg c2]
            exact ⟨_, _, _, qb1 (hm.2 c2), h4, rfl⟩
    · rw [if_neg c, if_neg c]
      obtain ⟨t, v, b, y1, y2⟩ := m_comp fu hM (nI (8 - r)) hsum g3 hq
      exact ⟨t, v, b, y1, mR_up y2 g2 (Nat.le_refl q)⟩
end MTS
theorem mtests_ok (fu : Nat) (hfu : 500 ≤ fu) {S : zSt} {B : Nat → Int32} {T N n : Nat} {ord : Bool} (hM : zMS S B T N) (hW : zMW S ord) (hn : 401 ≤ n) :
    ∀ r, r ≤ 8 → ∀ d, 3 * r + 3 ≤ d → mOk S B T N (f_M_readTest fu d (nI (8 - r))) (fun i q => sR (ltest (lplain ord (tC B T) (tV B T) n r) (tC B T) n i q)) := by
  intro r
  induction r with
  | zero =>
    intro hr d hd
    obtain ⟨d, rfl⟩ : ∃ d', d = d' + 3 := ⟨d - 3, by omega⟩
    exact mo_ok fu hfu hM (f_M_readBoth fu (d + 2)) _ hn (mb_ok fu hfu hM (f_M_readPlain fu (d + 1)) _ hn (m_plain_ok fu hfu (f_M_readTest fu d) hM hn hr (msums_ok fu hfu hM hW hn 0 hr 64 (by omega)) (fun r' h => by omega)))
  | succ r ih =>
    intro hr d hd
    obtain ⟨d, rfl⟩ : ∃ d', d = d' + 3 := ⟨d - 3, by omega⟩
    refine mo_ok fu hfu hM (f_M_readBoth fu (d + 2)) _ hn (mb_ok fu hfu hM (f_M_readPlain fu (d + 1)) _ hn (m_plain_ok fu hfu (f_M_readTest fu d) hM hn hr (msums_ok fu hfu hM hW hn (r + 1) hr 64 (by omega)) (fun r' h => ?_)))
    have e : r' = r := by omega
    rw [e]
    exact ih (by omega) d (by omega)

/-! the class's parser: clauses of laws, of orders, a text -/
section ZCM
variable {B : Nat → Int32} {T : Nat} {W n : Nat} {cls : List xC}
abbrev pS (fu : Nat) (B : Nat → Int32) (T : Nat) (ord : Int32) (W n : Nat) (ordB : Bool) : Prop := pOk B T ord W 0 (f_Re_readSum fu 64) (fun i q => lsum (lpart ordB (tC B T) (tV B T) n 8) (tC B T) n i q)
abbrev pT (fu : Nat) (B : Nat → Int32) (T : Nat) (ord : Int32) (W n : Nat) (ordB : Bool) : Prop := pOkT B T ord W 0 (f_Re_readTest fu 64) (fun i q => ltest (lplain ordB (tC B T) (tV B T) n 8) (tC B T) n i q)
theorem claw_ok (fu : Nat) (hfu : 500 ≤ fu) (hpS : pS fu B T 0 W n false) (hpT : pT fu B T 0 W n false) {S : zSt} {i q l : Nat} (h : zCS S B T 0 W i q l cls) (hl : l ≤ i) (hc : cls.length < 12) :
    ∃ r S', f_Re_readClause fu S = some (r, S') ∧ zOutC S B T 0 W cls (lclauseL (tC B T) (tV B T) n i q) r S' := by
  have tk := take_law fu hfu h.1.1
  have e46 : zI S 46 1 = 0 := h.1.2.1
  unfold f_Re_readClause
  rw [if_pos e46]
  obtain ⟨m, rfl⟩ : ∃ m, fu = m + 3 := ⟨fu - 3, by omega⟩
  have HD : ∀ k, k < 4 → tC B T i = nI (k + 1) → ∃ S2, zb2 (f_Re_takeLaw (m + 3) S) (fun r3 S4 => f_Re_readClause_18 (m + 3) r3 S4) = zb1 (f_Re_sumsOfLaw (nI k)) (fun r6 => f_Re_readClause_56 (m + 3) (m + 3) r6 (0 : Int32) S2) ∧ zFF S S2 ∧ zCS S2 B T 0 W (i + 1) q l (cls ++ [xcO (k, lone, lone, 1, none)]) := by
    intro k hk hck
    obtain ⟨S2, b1, b2, b3⟩ := begin_ok (zCS_tk h) (k := k) (by omega) hc
    have ne : ¬ nI k = (-1 : Int32) := fun h => absurd (congrArg Int32.toInt h) (by rw [q_nI (by omega), show (-1 : Int32).toInt = -1 from rfl]; omega)
    refine ⟨S2, ?_, zFF_t (zFF_P (zPF_tk (B := B) (T := T) _ l)) b2, b3⟩
    rw [qb2 (tk.1 k hk hck)]
    unfold f_Re_readClause_18
    rw [if_neg ne, qb1 b1, if_pos b3.1.2.1]
  have T121 : ∀ S, zI S 46 1 = 0 → f_Re_readClause_121 (m + 3) S = f_Re_readClause_147 (m + 3) S := fun S h => by
    unfold f_Re_readClause_121
    rw [if_pos h]
  by_cases c4 : tC B T i = 4
  · obtain ⟨S2, b1, b2, b3⟩ := HD 3 (by omega) c4
    rw [b1, show f_Re_sumsOfLaw (nI 3) = some 0 from rfl, qb1s, s56_end (m + 3) (m + 2) (by decide), T121 _ b3.1.2.1]
    obtain ⟨r, S', x1, x2⟩ := if_ok (m + 3) hfu hpT b3 (by omega)
    refine ⟨r, S', x1, zOutC_t b2 ?_⟩
    unfold lclauseL
    rw [if_neg (by rw [c4]; decide), if_pos c4]
    exact x2
  by_cases c123 : tC B T i = 1 ∨ tC B T i = 2 ∨ tC B T i = 3
  · obtain ⟨k, hk3, hck, hkk⟩ : ∃ k, k < 3 ∧ tC B T i = nI (k + 1) ∧ (tC B T i).toInt.toNat - 1 = k := by
      rcases c123 with c | c | c
      · exact ⟨0, by omega, c, by rw [c]; rfl⟩
      · exact ⟨1, by omega, c, by rw [c]; rfl⟩
      · exact ⟨2, by omega, c, by rw [c]; rfl⟩
    obtain ⟨S2, b1, b2, b3⟩ := HD k (by omega) hck
    have e1 : f_Re_sumsOfLaw (nI k) = some 1 := by
      rcases (by omega : k = 0 ∨ k = 1 ∨ k = 2) with rfl | rfl | rfl <;> rfl
    rw [b1, e1, qb1s, s56_0 (m + 3) (m + 2) (by decide)]
    unfold lclauseL
    rw [if_pos c123, hkk]
    rcases sum_piece (m + 3) hfu hpS (w := 0) (by omega) b3 (by omega) (f_Re_readClause_56 (m + 3) (m + 2)) 1 0 with ⟨k2, S3, a1, a2, a3, a4⟩ | ⟨k2, q', d, S3, l', a1, a2, a3, a4, a5⟩
    · rw [a1]
      exact ⟨0, S3, a2, zFF_t b2 a4, rfl, a3⟩
    · rw [a1]
      have a2' : f_Re_readClause_92 (m + 3) (f_Re_readClause_56 (m + 3) (m + 2)) 1 0 0 S2 = f_Re_readClause_56 (m + 3) (m + 2) 1 1 S3 := a2
      rw [a2', s56_end (m + 3) (m + 1) (by decide), T121 _ a4.1.2.1]
      rw [xset0] at a4
      obtain ⟨r, S', x1, x2⟩ := if_ok (m + 3) hfu hpT a4 a5
      exact ⟨r, S', x1, zOutC_t (zFF_t b2 a3) x2⟩
  · have hno : ∀ k, k < 4 → tC B T i ≠ nI (k + 1) := by
      intro k hk hck
      rcases (by omega : k = 0 ∨ k = 1 ∨ k = 2 ∨ k = 3) with rfl | rfl | rfl | rfl
      · exact c123 (Or.inl hck)
      · exact c123 (Or.inr (Or.inl hck))
      · exact c123 (Or.inr (Or.inr hck))
      · exact c4 hck
    refine ⟨0, S, ?_, zFF_r S, ?_⟩
    · rw [qb2 (tk.2 hno)]; rfl
    · unfold lclauseL
      rw [if_neg c123, if_neg c4]
      exact ⟨rfl, h.1.1⟩
theorem zCS_times {S : zSt} {ord : Int32} {i q l k v : Nat} {d1 d2 : lD} (h : zCS S B T ord W i q l (cls ++ [xcO (k, d1, d2, 1, none)])) (hv : v ≤ 20) (hc : cls.length < 12) : f_Tx_repeat 47 (nI v) S = some (zwI S 49 cls.length (nI v)) ∧ zFF S (zwI S 49 cls.length (nI v)) ∧ zCS (zwI S 49 cls.length (nI v)) B T ord W i q l (cls ++ [xcO (k, d1, d2, v, none)]) := by
  obtain ⟨h1, h2, h3, h4, h5, h6, h7, h8⟩ := h
  have h3' : zI S 47 2 = nI (cls.length + 1) := by rw [List.length_append] at h3; exact h3
  refine ⟨?_, zFF_w S _ _ (by omega), zPS_o h1 _ _ (by omega), h2, ?_, ?_, ?_, ?_, ?_, ?_⟩
  · have l1 : ¬ nI (cls.length + 1) ≤ (0 : Int32) := fun h => absurd ((n_le (b := 0) (by omega) (by omega)).mp h) (by omega)
    have l2 : ¬ (12 : Int32) < nI (cls.length + 1) := fun h => absurd ((n_lt (a := 12) (by omega) (by omega)).mp h) (by omega)
    unfold f_Tx_repeat
    rw [h3', if_neg l1, if_neg l2, show (1 : Int32) = nI 1 from rfl, n_sub (by omega), Nat.add_sub_cancel, n_gd (by omega) hc, q_cl (by omega)]
  · rw [qIIo _ _ (by omega), h3', List.length_append]; rfl
  · rw [List.length_append] at h4 ⊢; exact h4
  · intro j y hy
    have e : ∀ t, t ≠ 49 → zI (zwI S 49 cls.length (nI v)) t = zI S t := fun t ht => by
      funext k'
      exact qIIo _ _ (by omega)
    rw [e 48 (by omega), e 50 (by omega), e 51 (by omega)]
    rcases last_of hy with ⟨hj, hy2⟩ | ⟨hj, hy2⟩
    · obtain ⟨b1, b2, b3, b4, b5⟩ := h5 j y (by rw [List.getElem?_append_left hj]; exact hy2)
      exact ⟨b1, by rw [qIIo _ _ (by omega)]; exact b2, b3, b4, b5⟩
    · obtain ⟨b1, b2, b3, b4, b5⟩ := h5 j _ (by rw [hj, List.getElem?_append_right (by omega), Nat.sub_self]; rfl)
      rw [hy2]
      exact ⟨b1, by rw [hj, qIIs]; rfl, b3, hv, b5⟩
  · intro k' a b
    rw [List.length_append] at a h6
    rw [qIIo _ _ (by omega)]
    exact h6 k' a b
  · exact codeOk_e h7 (fun k _ => qIIo _ _ (by omega))
  · intro hs y hy
    rw [qIIo _ _ (by omega)] at hs
    rcases List.mem_append.mp hy with hy | hy
    · exact h8 hs y (List.mem_append.mpr (Or.inl hy))
    · have e : y = xcO (k, d1, d2, v, none) := by simpa using hy
      rw [e]
      exact h8 hs (xcO (k, d1, d2, 1, none)) (List.mem_append.mpr (Or.inr (by simp)))
theorem times_ok (fu : Nat) (hfu : 500 ≤ fu) (hpT : pT fu B T 1 W n true) {S : zSt} {i q l k : Nat} {d1 d2 : lD} (h : zCS S B T 1 W i q l (cls ++ [xcO (k, d1, d2, 1, none)])) (hl : l ≤ i) (hc : cls.length < 12) :
    ∃ r S', f_Re_readClause_121 fu S = some (r, S') ∧ zOutC S B T 1 W cls (ltimes (tC B T) (tV B T) n i q (k, d1, d2)) r S' := by
  have tk := take_word fu hfu h.1.1 (n := 24) (j := 23) (by omega) rfl
  unfold f_Re_readClause_121 ltimes
  rw [if_neg (show ¬ zI S 46 1 = 0 by rw [h.1.2.1]; decide)]
  by_cases c : tC B T i = 25
  · rw [qb2 (tk.1 c).1, if_neg (by decide), if_pos c]
    have F1 : zFF S (zTk S B T (tPos B T (i + 1))) := zFF_P (zPF_tk (B := B) (T := T) _ l)
    have h1 := zCS_tk h
    have hnum := is_number h1.1.1
    have e5 : zI (zTk S B T (tPos B T (i + 1))) 44 5 = tV B T (i + 1) := h1.1.1.2.2.2.2
    have e20 : (20 : Int32).toInt = 20 := rfl
    have e1 : (1 : Int32).toInt = 1 := rfl
    have e1000 : (1000 : Int32).toInt = 1000 := rfl
    by_cases hv : tC B T (i + 1) = 50 ∧ 1 ≤ tV B T (i + 1) ∧ tV B T (i + 1) ≤ 20
    · have hle : tV B T (i + 1) ≤ 1000 := by have := hv.2.2; rw [q_le] at this ⊢; omega
      obtain ⟨v, hv1, hev⟩ := tV_nat hle
      have hvr : 1 ≤ v ∧ v ≤ 20 := by
        have h1 := hv.2.1
        have h2 := hv.2.2
        rw [hev, q_le, q_nI (by omega)] at h1 h2
        omega
      obtain ⟨t1, t2, t3⟩ := zCS_times h1 (v := v) hvr.2 hc
      have hN := next_at fu hfu t3.1.1
      have h4 := zCS_tk t3
      obtain ⟨r, S', x1, x2⟩ := if_ok fu hfu hpT h4 (by omega)
      have ev : (tV B T (i + 1)).toInt.toNat = v := by rw [hev, q_nI (by omega)]; omega
      refine ⟨r, S', ?_, ?_⟩
      · have hp : tC B T (i + 1) = 50 ∧ tV B T (i + 1) ≤ 1000 := ⟨hv.1, hle⟩
        have l1 : ¬ nI v < (1 : Int32) := fun h => absurd ((n_lt (b := 1) (by omega) (by omega)).mp h) (by omega)
        have l20 : nI v ≤ (20 : Int32) := (n_le (b := 20) (by omega) (by omega)).mpr hvr.2
        have eR : f_Re_readTimes fu (zTk S B T (tPos B T (i + 1))) = some (1, zTk (zwI (zTk S B T (tPos B T (i + 1))) 49 cls.length (nI v)) B T (tPos B T (i + 1 + 1))) := by
          unfold f_Re_readTimes
          rw [qb1 hnum, if_pos hp, if_neg (by decide), e5, hev, if_neg l1, if_pos l20, qb1 t1, qb1 hN.1]
        rw [qb2 eR, if_neg (by decide)]
        exact x1
      · rw [if_pos hv, ev]
        exact zOutC_t (zFF_t F1 (zFF_t t2 (zFF_P (zPF_tk (B := B) (T := T) _ l)))) x2
    · refine ⟨0, zTk S B T (tPos B T (i + 1)), ?_, ?_⟩
      · have eR : f_Re_readTimes fu (zTk S B T (tPos B T (i + 1))) = some (0, zTk S B T (tPos B T (i + 1))) := by
          unfold f_Re_readTimes
          rw [qb1 hnum, e5]
          by_cases h1 : tC B T (i + 1) = 50 ∧ tV B T (i + 1) ≤ 1000
          · rw [if_pos h1, if_neg (by decide)]
            by_cases l1 : tV B T (i + 1) < 1
            · rw [if_pos l1]
            · rw [if_neg l1]
              have l20 : ¬ tV B T (i + 1) ≤ 20 := fun h => hv ⟨h1.1, by rw [q_lt] at l1; rw [q_le]; omega, h⟩
              rw [if_neg l20]
          · rw [if_neg h1, if_pos rfl]
        rw [qb2 eR, if_pos rfl]
      · rw [if_neg hv]
        exact ⟨F1, rfl, h1.1.1⟩
  · rw [qb2 (tk.2 c), if_pos rfl, if_neg c]
    obtain ⟨r, S', x1, x2⟩ := if_ok fu hfu hpT h hl
    exact ⟨r, S', x1, x2⟩
theorem cord_ok (fu : Nat) (hfu : 500 ≤ fu) (hpS : pS fu B T 1 W n true) (hpT : pT fu B T 1 W n true) {S : zSt} {i q l : Nat} (h : zCS S B T 1 W i q l cls) (hl : l ≤ i) (hc : cls.length < 12) :
    ∃ r S', f_Re_readClause fu S = some (r, S') ∧ zOutC S B T 1 W cls (lclauseO (tC B T) (tV B T) n i q) r S' := by
  have tk := take_order fu hfu h.1.1
  have e46 : ¬ zI S 46 1 = 0 := by rw [h.1.2.1]; decide
  unfold f_Re_readClause
  rw [if_neg e46]
  obtain ⟨m, rfl⟩ : ∃ m, fu = m + 3 := ⟨fu - 3, by omega⟩
  have HD : ∀ k, k < 4 → tC B T i = nI (k + 21) → ∃ S2, zb2 (f_Re_takeOrder (m + 3) S) (fun r3 S4 => f_Re_readClause_18 (m + 3) r3 S4) = zb1 (f_Re_sumsOfOrder (nI k)) (fun r6 => f_Re_readClause_56 (m + 3) (m + 3) r6 (0 : Int32) S2) ∧ zFF S S2 ∧ zCS S2 B T 1 W (i + 1) q l (cls ++ [xcO (k, lone, lone, 1, none)]) := by
    intro k hk hck
    obtain ⟨S2, b1, b2, b3⟩ := begin_ok (zCS_tk h) (k := k) (by omega) hc
    have ne : ¬ nI k = (-1 : Int32) := fun h => absurd (congrArg Int32.toInt h) (by rw [q_nI (by omega), show (-1 : Int32).toInt = -1 from rfl]; omega)
    refine ⟨S2, ?_, zFF_t (zFF_P (zPF_tk (B := B) (T := T) _ l)) b2, b3⟩
    rw [qb2 (tk.1 k hk hck)]
    unfold f_Re_readClause_18
    rw [if_neg ne, qb1 b1, if_neg (show ¬ zI S2 46 1 = 0 by rw [b3.1.2.1]; decide)]
  unfold lclauseO
  by_cases c24 : tC B T i = 24
  · obtain ⟨S2, b1, b2, b3⟩ := HD 3 (by omega) c24
    rw [b1, show f_Re_sumsOfOrder (nI 3) = some 0 from rfl, qb1s, s56_end (m + 3) (m + 2) (by decide)]
    obtain ⟨r, S', x1, x2⟩ := times_ok (m + 3) hfu hpT b3 (by omega) hc
    refine ⟨r, S', x1, zOutC_t b2 ?_⟩
    rw [if_neg (by rw [c24]; decide), if_neg (by rw [c24]; decide), if_pos c24]
    exact x2
  by_cases c21 : tC B T i = 21
  · obtain ⟨S2, b1, b2, b3⟩ := HD 0 (by omega) c21
    rw [b1, show f_Re_sumsOfOrder (nI 0) = some 1 from rfl, qb1s, s56_0 (m + 3) (m + 2) (by decide)]
    rw [if_neg (by rw [c21]; decide), if_pos c21]
    rcases sum_piece (m + 3) hfu hpS (w := 0) (by omega) b3 (by omega) (f_Re_readClause_56 (m + 3) (m + 2)) 1 0 with ⟨k2, S3, a1, a2, a3, a4⟩ | ⟨k2, q', d, S3, l', a1, a2, a3, a4, a5⟩
    · rw [a1]
      exact ⟨0, S3, a2, zFF_t b2 a4, rfl, a3⟩
    · rw [a1]
      have a2' : f_Re_readClause_92 (m + 3) (f_Re_readClause_56 (m + 3) (m + 2)) 1 0 0 S2 = f_Re_readClause_56 (m + 3) (m + 2) 1 1 S3 := a2
      rw [a2', s56_end (m + 3) (m + 1) (by decide)]
      rw [xset0] at a4
      obtain ⟨r, S', x1, x2⟩ := times_ok (m + 3) hfu hpT a4 a5 hc
      exact ⟨r, S', x1, zOutC_t (zFF_t b2 a3) x2⟩
  by_cases c22 : tC B T i = 22 ∨ tC B T i = 23
  · obtain ⟨k, hk3, hck, hkk⟩ : ∃ k, (k = 1 ∨ k = 2) ∧ tC B T i = nI (k + 21) ∧ (tC B T i).toInt.toNat - 21 = k := by
      rcases c22 with c | c
      · exact ⟨1, by omega, c, by rw [c]; rfl⟩
      · exact ⟨2, by omega, c, by rw [c]; rfl⟩
    obtain ⟨S2, b1, b2, b3⟩ := HD k (by omega) hck
    have e1 : f_Re_sumsOfOrder (nI k) = some 2 := by
      rcases hk3 with rfl | rfl <;> rfl
    rw [b1, e1, qb1s, s56_0 (m + 3) (m + 2) (by decide)]
    rw [if_pos c22, hkk]
    rcases sum_piece (m + 3) hfu hpS (w := 0) (by omega) b3 (by omega) (f_Re_readClause_56 (m + 3) (m + 2)) 2 0 with ⟨k2, S3, a1, a2, a3, a4⟩ | ⟨k2, q', d, S3, l', a1, a2, a3, a4, a5⟩
    · rw [a1]
      exact ⟨0, S3, a2, zFF_t b2 a4, rfl, a3⟩
    · rw [a1]
      have a2' : f_Re_readClause_92 (m + 3) (f_Re_readClause_56 (m + 3) (m + 2)) 2 0 0 S2 = f_Re_readClause_56 (m + 3) (m + 2) 2 1 S3 := a2
      rw [a2', s56_1 (m + 3) (m + 1) (by decide)]
      rw [xset0] at a4
      have tk2 := take_word (m + 3) hfu a4.1.1 (n := 9) (j := 8) (by omega) rfl
      by_cases c10 : tC B T k2 = 10
      · rw [qb2 (tk2.1 c10).1, if_neg (by decide)]
        have F4 : zFF S3 (zTk S3 B T (tPos B T (k2 + 1))) := zFF_P (zPF_tk (B := B) (T := T) _ l')
        have h4 := zCS_tk a4
        show ∃ r S', _ ∧ zOutC S B T 1 W cls (if tC B T k2 = 10 then _ else _) r S'
        rw [if_pos c10]
        rcases sum_piece (m + 3) hfu hpS (w := 1) (by omega) h4 (by omega) (f_Re_readClause_56 (m + 3) (m + 1)) 2 1 with ⟨k3, S5, d1, d2, d3, d4⟩ | ⟨k3, q3, dd, S5, l3, d1, d2, d3, d4, d5⟩
        · rw [d1]
          exact ⟨0, S5, d2, zFF_t b2 (zFF_t a3 (zFF_t F4 d4)), rfl, d3⟩
        · rw [d1]
          have d2' : f_Re_readClause_92 (m + 3) (f_Re_readClause_56 (m + 3) (m + 1)) 2 1 1 (zTk S3 B T (tPos B T (k2 + 1))) = f_Re_readClause_56 (m + 3) (m + 1) 2 2 S5 := d2
          rw [d2', s56_end (m + 3) m (by decide)]
          rw [xset1] at d4
          obtain ⟨r, S', x1, x2⟩ := times_ok (m + 3) hfu hpT d4 d5 hc
          exact ⟨r, S', x1, zOutC_t (zFF_t b2 (zFF_t a3 (zFF_t F4 d3))) x2⟩
      · rw [qb2 (tk2.2 c10), if_pos rfl]
        refine ⟨0, S3, rfl, zFF_t b2 a3, ?_⟩
        show (match (if tC B T k2 = 10 then _ else .inl k2 : Nat ⊕ (Nat × Nat × lC)) with
          | .inl j => (0 : Int32) = 0 ∧ zHd S3 B T j
          | .inr (j, q', c) => (0 : Int32) = 1 ∧ ∃ l', zCS S3 B T 1 W j q' l' (cls ++ [xcO c]) ∧ l' ≤ j)
        rw [if_neg c10]
        exact ⟨rfl, a4.1.1⟩
  · have hno : ∀ k, k < 4 → tC B T i ≠ nI (k + 21) := by
      intro k hk hck
      rcases (by omega : k = 0 ∨ k = 1 ∨ k = 2 ∨ k = 3) with rfl | rfl | rfl | rfl
      · exact c21 hck
      · exact c22 (Or.inl hck)
      · exact c22 (Or.inr hck)
      · exact c24 hck
    refine ⟨0, S, ?_, zFF_r S, ?_⟩
    · rw [qb2 (tk.2 hno)]; rfl
    · rw [if_neg c22, if_neg c21, if_neg c24]
      exact ⟨rfl, h.1.1⟩
end ZCM

/-! the class's parser: and, or -/
theorem xT_inj {d : lT} {E E' : lE} (h : xT d E = xT d E') : d E = d E' := by
  unfold xT at h
  cases h1 : d E with
  | none =>
    cases h2 : d E' with
    | none => rfl
    | some y => rw [h1, h2] at h; exact absurd h (by simp)
  | some x =>
    cases h2 : d E' with
    | none => rw [h1, h2] at h; exact absurd h (by simp)
    | some y =>
      rw [h1, h2] at h
      cases x <;> cases y <;> first | rfl | (exact absurd h (by simp))
theorem noSoon_d {d : lT} (h : noSoon (xT d)) {E E' : lE} (hE : ∀ k, k < 14 ∨ 22 < k → E k = E' k) : d E = d E' := xT_inj (h E E' hE)
theorem noSoon_T {d : lT} (h : ∀ E E' : lE, (∀ k, k < 14 ∨ 22 < k → E k = E' k) → d E = d E') : noSoon (xT d) := by
  intro E E' hE
  unfold xT
  rw [h E E' hE]
def ljn (w : Nat) (d1 d2 : lT) : lT := if w = 2 then landD d1 d2 else lorD d1 d2
theorem noSoon_jn (w : Nat) {d1 d2 : lT} (h1 : noSoon (xT d1)) (h2 : noSoon (xT d2)) : noSoon (xT (ljn w d1 d2)) := by
  apply noSoon_T
  intro E E' hE
  unfold ljn
  split
  · unfold landD; rw [noSoon_d h1 hE, noSoon_d h2 hE]
  · unfold lorD; rw [noSoon_d h1 hE, noSoon_d h2 hE]
theorem noSoon_not (neg : Bool) {d1 : lT} (h1 : noSoon (xT d1)) : noSoon (xT (lnotD neg d1)) := by
  apply noSoon_T
  intro E E' hE
  unfold lnotD; rw [noSoon_d h1 hE]
theorem xseg_jn {c : Nat → Int32} {W a b e k w : Nat} {d1 d2 : lT} (hw : w = 2 ∨ w = 3) (h1 : xseg c W a b k (xT d1)) (h2 : xseg c W (b + 1) e k (xT d2)) (hab : a ≤ b) (hbe : b + 1 ≤ e) (he : e < 1000) (h : c b = xw w e) : xseg c W a e k (xT (ljn w d1 d2)) := by
  rcases hw with rfl | rfl
  · exact xseg_and h1 h2 hab hbe he h
  · exact xseg_or h1 h2 hab hbe he h
theorem land_is {S : zSt} {l l' w : Nat} (hl : l < 436) (h : zI S 47 1 = nI l') (hA : zA S 51 = 436) : f_Tx_land 47 (nI l) (nI w) S = some (zwI S 51 l (xw w l')) := by
  have e : (zA S (47 + 4)).toInt32 = nI 436 := by rw [show 47 + 4 = 51 from rfl, hA]; rfl
  unfold f_Tx_land
  rw [if_neg (n_neg (by omega)), e, if_neg (fun h => absurd ((n_le (by omega) (by omega)).mp h) (by omega)), show 47 + 4 = 51 from rfl, hA, n_gd (by omega) hl, q_cl (by omega), h]
  rfl
theorem zPF_51 (S : zSt) (l : Nat) (v : Int32) : zPF S (zwI S 51 l v) l :=
  ⟨rfl, fun j k h1 h2 h3 h4 => qIIo _ _ (by omega), fun k hk => qIIo _ _ (by omega), qIIo _ _ (by omega), fun k _ _ => qIIo _ _ (by omega), fun k _ => qIIo _ _ (by omega), fun h => by rw [qIIo _ _ (by omega)] at h; exact h, Or.inl (qIIo _ _ (by omega))⟩
theorem zPS_51 {S : zSt} {B : Nat → Int32} {T : Nat} {ord : Int32} {i q b l : Nat} (h : zPS S B T ord i q b l) (k : Nat) (v : Int32) : zPS (zwI S 51 k v) B T ord i q b l := by
  obtain ⟨h1, h2, h3, h4, h5, h6⟩ := h
  refine ⟨zHd_w h1 _ _ (by omega) (by omega), ?_, ?_, ?_, ?_, h6⟩
  · rw [qIIo _ _ (by omega)]; exact h2
  · rw [qIIo _ _ (by omega)]; exact h3
  · rw [qIIo _ _ (by omega)]; exact h4
  · rw [qIIo _ _ (by omega)]; exact h5
theorem outT_lt {S0 S : zSt} {B : Nat → Int32} {T : Nat} {ord : Int32} {W i0 q0 b l0 j q : Nat} {d : lT} (ho : zOutT S0 B T ord W i0 q0 b l0 (.inr (j, q, d)) 1 S) : j ≤ 400 ∧ i0 < j ∧ zHd S B T j := by
  obtain ⟨hF, -, l, hS, g1, g2, -⟩ := ho
  exact ⟨g2, g1, hS.1⟩
/-- what stands behind an 'and', an 'or' -/
def jnB (f : zSt → Option (Int32 × zSt)) (k12 : zSt → Option (Int32 × zSt)) (w : Int32) (S4 : zSt) : Option (Int32 × zSt) := zb1 (f_Tx_emit 47 w (0 : Int32) S4) (fun S7 => zb2 (f S7) (fun r9 S10 => if r9 = 0 then some ((0 : Int32), S10) else zb1 (f_Tx_land 47 (zI S4 47 1) w S10) (fun S13 => k12 S13)))
theorem jn_acc {B : Nat → Int32} {T : Nat} {ord : Int32} {W b : Nat} {f : zSt → Option (Int32 × zSt)} {p : Nat → Nat → lRT} (hp : pOkT B T ord W b f p) {S0 S : zSt} {i0 q0 l0 j q w : Nat} {d : lT} (hl0 : l0 ≤ i0 + 30) (hw : w = 2 ∨ w = 3) (ho : zOutT S0 B T ord W i0 q0 b l0 (.inr (j, q, d)) 1 S) (h0 : tC B T j ≠ 0) (k12 : zSt → Option (Int32 × zSt)) :
    (∃ k S2, p (j + 1) q = .inl k ∧ jnB f k12 (nI w) (zTk S B T (tPos B T (j + 1))) = some (0, S2) ∧ zOutT S0 B T ord W i0 q0 b l0 (.inl k) 0 S2) ∨
    (∃ k q' d' S3, p (j + 1) q = .inr (k, q', d') ∧ jnB f k12 (nI w) (zTk S B T (tPos B T (j + 1))) = k12 S3 ∧ j < k ∧ zOutT S0 B T ord W i0 q0 b l0 (.inr (k, q', ljn w d d')) 1 S3) := by
  obtain ⟨hF, -, l, hS, g1, g2, g3, g4, g5, g6, g7, g8, g9⟩ := ho
  have hj : j < 400 := tC_lt hS.1.1.2.1 h0
  have h4 := zTk_S hS
  have F4 : zPF S (zTk S B T (tPos B T (j + 1))) l := zPF_tk (B := B) (T := T) _ l
  have h7 := zEm_S h4 w 0
  have F7 : zPF S (zEm (zTk S B T (tPos B T (j + 1))) l w 0) l := zPF_t F4 (zEm_F _ l w 0) (Nat.le_refl l)
  obtain ⟨r, S10, e10, F10, o10⟩ := hp _ (j + 1) q (l + 1) h7 (by omega) (by omega)
  have e7 : f_Tx_emit 47 (nI w) 0 (zTk S B T (tPos B T (j + 1))) = some (zEm (zTk S B T (tPos B T (j + 1))) l w 0) := emit_is (w := w) (v := 0) (by omega : l < 436) h4.2.2.2.2.1 h4.2.2.2.2.2
  unfold jnB
  rw [qb1 e7]
  cases hpp : p (j + 1) q with
  | inl k =>
    rw [hpp] at o10
    obtain ⟨rfl, o3⟩ := o10
    refine Or.inl ⟨k, S10, rfl, ?_, zPF_t hF (zPF_t F7 F10 (by omega)) (by omega), rfl, o3⟩
    rw [qb2 e10, if_pos rfl]
  | inr x =>
    obtain ⟨k, q', d'⟩ := x
    rw [hpp] at o10
    obtain ⟨rfl, l', hS10, m1, m2, m3, m4, m5, m6, m7, m8, m9⟩ := o10
    have eL := land_is (S := S10) (l := l) (l' := l') (w := w) (by omega) hS10.2.2.2.2.1 hS10.2.2.2.2.2
    have F13 : zPF S (zwI S10 51 l (xw w l')) l := zPF_t (zPF_t F7 F10 (by omega)) (zPF_51 S10 l _) (Nat.le_refl l)
    refine Or.inr ⟨k, q', d', zwI S10 51 l (xw w l'), rfl, ?_, by omega, zPF_t hF F13 (by omega), rfl, l', zPS_51 hS10 _ _, by omega, m2, by omega, m4, by omega, by omega, ?_, ?_, ?_⟩
    · rw [qb2 e10, if_neg (by decide), h4.2.2.2.2.1]
      exact qb1 eL
    · have y1 : xseg (zI (zwI S10 51 l (xw w l')) 51) W l0 l (q - q0) (xT d) := xseg_eq g7 (fun k _ hk => F13.2.2.2.2.2.1 k hk)
      have y2 : xseg (zI (zwI S10 51 l (xw w l')) 51) W (l + 1) l' (q' - q) (xT d') := xseg_eq m7 (fun k hk _ => qIIo _ _ (by omega))
      exact xseg_jn hw (xseg_up y1 (by omega)) (xseg_up y2 (by omega)) (by omega) (by omega) (by omega) (qIIs _ _ _ _)
    · refine codeOk_t (codeOk_e g8 (fun k hk => F13.2.2.2.2.2.1 k hk)) (fun k a b => ?_)
      by_cases hk : k = l
      · rw [hk, qIIs]; exact xw_ok (by omega)
      · rw [qIIo _ _ (by omega)]; exact m8 k (by omega) b
    · intro h3
      rw [qIIo _ _ (by omega)] at h3
      exact noSoon_jn w (g9 (F7.2.2.2.2.2.2.1 (F10.2.2.2.2.2.2.1 h3))) (m9 h3)
theorem both_loop (fu : Nat) (hfu : 500 ≤ fu) {B : Nat → Int32} {T : Nat} {ord : Int32} {W b : Nat} {f : zSt → Option (Int32 × zSt)} {p : Nat → Nat → lRT} (hp : pOkT B T ord W b f p) {S0 : zSt} {i0 q0 l0 : Nat} (hl0 : l0 ≤ i0 + 30) : ∀ (n m a : Nat) (S : zSt) (j q : Nat) (d : lT), 401 ≤ n + j → 401 ≤ m + j → a < j → zOutT S0 B T ord W i0 q0 b l0 (.inr (j, q, d)) 1 S →
    ∃ r S', f_Re_readBoth_12 f fu n (nI a) S = some (r, S') ∧ zOutT S0 B T ord W i0 q0 b l0 (lloopA p (tC B T) m j q d) r S' := by
  intro n
  induction n with
  | zero =>
    intro m a S j q d h1 h2 h3 ho
    have := (outT_lt ho).1
    omega
  | succ n ih =>
    intro m a S j q d h1 h2 h3 ho
    obtain ⟨hj, -, hH⟩ := outT_lt ho
    obtain ⟨m, rfl⟩ : ∃ m', m = m' + 1 := ⟨m - 1, by omega⟩
    have l4 : ¬ (400 : Int32) ≤ nI a := fun h => absurd ((n_le (a := 400) (by omega) (by omega)).mp h) (by omega)
    rw [f_Re_readBoth_12, if_neg l4, lloopA]
    have tk := take_word fu hfu hH (n := 6) (j := 10) (by omega) rfl
    by_cases c1 : tC B T j = 7
    · rw [qb2 (tk.1 c1).1, if_neg (by decide), if_pos c1]
      rcases jn_acc hp hl0 (w := 2) (by omega) ho (by rw [c1]; decide) (f_Re_readBoth_12 f fu n (nI a + 1)) with ⟨k, S2, e1, e2, e3⟩ | ⟨k, q', d', S3, e1, e2, e3, e4⟩
      · rw [e1]; exact ⟨0, S2, e2, e3⟩
      · rw [e1]
        obtain ⟨r, S', x1, x2⟩ := ih m (a + 1) S3 k q' _ (by omega) (by omega) (by omega) e4
        refine ⟨r, S', ?_, x2⟩
        rw [← n_1] at x1
        exact e2.trans x1
    · rw [qb2 (tk.2 c1), if_pos rfl, if_neg c1]
      exact ⟨1, S, rfl, ho⟩
theorem both_ok (fu : Nat) (hfu : 500 ≤ fu) {B : Nat → Int32} {T : Nat} {ord : Int32} {W b : Nat} {f : zSt → Option (Int32 × zSt)} {p : Nat → Nat → lRT} (hp : pOkT B T ord W b f p) {n : Nat} (hn : 401 ≤ n) : pOkT B T ord W b (f_Re_readBoth_o f fu) (fun i q => lboth p (tC B T) n i q) := by
  intro S i q l h hl hq
  obtain ⟨r, S2, e, o⟩ := hp S i q l h hl hq
  show ∃ r S', f_Re_readBoth_o f fu S = some (r, S') ∧ zOutT S B T ord W i q b l (lboth p (tC B T) n i q) r S'
  unfold f_Re_readBoth_o lboth
  rw [qb2 e]
  cases hpp : p i q with
  | inl k =>
    rw [hpp] at o
    obtain ⟨F, rfl, H⟩ := o
    exact ⟨0, S2, by rw [if_pos rfl], F, rfl, H⟩
  | inr x =>
    obtain ⟨k, q', d⟩ := x
    rw [hpp] at o
    have hr : r = 1 := o.2.1
    subst hr
    rw [if_neg (by decide)]
    exact both_loop fu hfu hp hl fu n 0 S2 k q' d (by omega) (by omega) (by have := (outT_lt o).2.1; omega) o
theorem test_loop (fu : Nat) (hfu : 500 ≤ fu) {B : Nat → Int32} {T : Nat} {ord : Int32} {W b : Nat} {f : zSt → Option (Int32 × zSt)} {p : Nat → Nat → lRT} {N : Nat} (hp : pOkT B T ord W b f (fun i q => lboth p (tC B T) N i q)) {S0 : zSt} {i0 q0 l0 : Nat} (hl0 : l0 ≤ i0 + 30) : ∀ (n m a : Nat) (S : zSt) (j q : Nat) (d : lT), 401 ≤ n + j → 401 ≤ m + j → a < j → zOutT S0 B T ord W i0 q0 b l0 (.inr (j, q, d)) 1 S →
    ∃ r S', f_Re_readTest_12 f fu n (nI a) S = some (r, S') ∧ zOutT S0 B T ord W i0 q0 b l0 (lloopO p (tC B T) N m j q d) r S' := by
  intro n
  induction n with
  | zero =>
    intro m a S j q d h1 h2 h3 ho
    have := (outT_lt ho).1
    omega
  | succ n ih =>
    intro m a S j q d h1 h2 h3 ho
    obtain ⟨hj, -, hH⟩ := outT_lt ho
    obtain ⟨m, rfl⟩ : ∃ m', m = m' + 1 := ⟨m - 1, by omega⟩
    have l4 : ¬ (400 : Int32) ≤ nI a := fun h => absurd ((n_le (a := 400) (by omega) (by omega)).mp h) (by omega)
    rw [f_Re_readTest_12, if_neg l4, lloopO]
    have tk := take_word fu hfu hH (n := 5) (j := 11) (by omega) rfl
    by_cases c1 : tC B T j = 6
    · rw [qb2 (tk.1 c1).1, if_neg (by decide), if_pos c1]
      rcases jn_acc hp hl0 (w := 3) (by omega) ho (by rw [c1]; decide) (f_Re_readTest_12 f fu n (nI a + 1)) with ⟨k, S2, e1, e2, e3⟩ | ⟨k, q', d', S3, e1, e2, e3, e4⟩
      · have e1' : lboth p (tC B T) N (j + 1) q = .inl k := e1
        rw [e1']; exact ⟨0, S2, e2, e3⟩
      · have e1' : lboth p (tC B T) N (j + 1) q = .inr (k, q', d') := e1
        rw [e1']
        obtain ⟨r, S', x1, x2⟩ := ih m (a + 1) S3 k q' _ (by omega) (by omega) (by omega) e4
        refine ⟨r, S', ?_, x2⟩
        rw [← n_1] at x1
        exact e2.trans x1
    · rw [qb2 (tk.2 c1), if_pos rfl, if_neg c1]
      exact ⟨1, S, rfl, ho⟩
theorem test_ok (fu : Nat) (hfu : 500 ≤ fu) {B : Nat → Int32} {T : Nat} {ord : Int32} {W b : Nat} {f : zSt → Option (Int32 × zSt)} {p : Nat → Nat → lRT} {n : Nat} (hn : 401 ≤ n) (hp : pOkT B T ord W b f (fun i q => lboth p (tC B T) n i q)) : pOkT B T ord W b (f_Re_readTest_o f fu) (fun i q => ltest p (tC B T) n i q) := by
  intro S i q l h hl hq
  obtain ⟨r, S2, e, o⟩ := hp S i q l h hl hq
  have o : zOutT S B T ord W i q b l (lboth p (tC B T) n i q) r S2 := o
  show ∃ r S', f_Re_readTest_o f fu S = some (r, S') ∧ zOutT S B T ord W i q b l (ltest p (tC B T) n i q) r S'
  unfold f_Re_readTest_o ltest
  rw [qb2 e]
  cases hpp : lboth p (tC B T) n i q with
  | inl k =>
    rw [hpp] at o
    obtain ⟨F, rfl, H⟩ := o
    exact ⟨0, S2, by rw [if_pos rfl], F, rfl, H⟩
  | inr x =>
    obtain ⟨k, q', d⟩ := x
    rw [hpp] at o
    have hr : r = 1 := o.2.1
    subst hr
    rw [if_neg (by decide)]
    exact test_loop fu hfu hp hl fu n 0 S2 k q' d (by omega) (by omega) (by have := (outT_lt o).2.1; omega) o

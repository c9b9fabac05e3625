/-! the class's parser: not, brackets; all pieces by depth -/
def b2 (x : Bool) : Int32 := if x = true then 1 else 0
theorem lnots_stop {C : Nat → Int32} {m i : Nat} {neg : Bool} (h : C i ≠ 8) : lnots C m i neg = (i, neg) := by
  cases m with
  | zero => rfl
  | succ m =>
    show (if C i = 8 then _ else _) = _
    rw [if_neg h]
theorem nots_loop (fu : Nat) (hfu : 500 ≤ fu) (cB : Int32 → Int32 → zSt → Option (Int32 × zSt)) (cC : zSt → Option (Int32 × zSt)) {B : Nat → Int32} {T : Nat} {ord : Int32} {q b l : Nat} : ∀ (n m a : Nat) (S : zSt) (i : Nat) (neg : Bool), 1 ≤ n → 401 ≤ n + i → 401 ≤ m + i → a ≤ i → a ≤ 400 → zPS S B T ord i q b l →
    ∃ S', f_Re_readPlain_4 cB cC fu n (b2 neg) (nI a) S = f_Re_readPlain_36 cB cC fu (b2 (lnots (tC B T) m i neg).2) S' ∧ zPF S S' l ∧ zPS S' B T ord (lnots (tC B T) m i neg).1 q b l ∧ i ≤ (lnots (tC B T) m i neg).1 ∧ ((lnots (tC B T) m i neg).2 = neg ∨ i < (lnots (tC B T) m i neg).1) := by
  intro n
  induction n with
  | zero => intro m a S i neg h1; omega
  | succ n ih =>
    intro m a S i neg h1 h2 h3 h4 h5 h
    have hT := h.1.1.2.1
    rw [f_Re_readPlain_4]
    by_cases ha : a = 400
    · have c : tC B T i ≠ 8 := fun h => by
        have := tC_lt hT (by rw [h]; decide : tC B T i ≠ 0)
        omega
      have l4 : (400 : Int32) ≤ nI a := by rw [ha]; decide
      rw [if_pos l4, lnots_stop c]
      exact ⟨S, rfl, zPF_r S l, h, Nat.le_refl _, Or.inl rfl⟩
    · have l4 : ¬ (400 : Int32) ≤ nI a := fun h => absurd ((n_le (a := 400) (by omega) (by omega)).mp h) (by omega)
      rw [if_neg l4]
      have tk := take_word fu hfu h.1 (n := 7) (j := 9) (by omega) rfl
      by_cases c : tC B T i = 8
      · have hi := tC_lt hT (by rw [c]; decide : tC B T i ≠ 0)
        obtain ⟨m, rfl⟩ : ∃ m', m = m' + 1 := ⟨m - 1, by omega⟩
        have e : lnots (tC B T) (m + 1) i neg = lnots (tC B T) m (i + 1) (!neg) := by
          show (if tC B T i = 8 then _ else _) = _
          rw [if_pos c]
        rw [qb2 (tk.1 c).1, if_neg (by decide), e]
        obtain ⟨S', x1, x2, x3, x4, x5⟩ := ih m (a + 1) _ (i + 1) (!neg) (by omega) (by omega) (by omega) (by omega) (by omega) (zTk_S h)
        refine ⟨S', ?_, zPF_t (zPF_tk (B := B) (T := T) _ l) x2 (Nat.le_refl l), x3, by omega, Or.inr (by omega)⟩
        cases neg with
        | false => rw [show b2 false = 0 from rfl, if_pos rfl, n_1]; exact x1
        | true => rw [show b2 true = 1 from rfl, if_neg (by decide), n_1]; exact x1
      · rw [qb2 (tk.2 c), if_pos rfl, lnots_stop c]
        exact ⟨S, rfl, zPF_r S l, h, Nat.le_refl _, Or.inl rfl⟩
theorem lnotD_f (d : lT) : lnotD false d = d := by
  funext E
  unfold lnotD
  cases d E with
  | none => rfl
  | some b => cases b <;> rfl
def lRneg (neg : Bool) (R : lRT) : lRT := match R with
  | .inl j => .inl j
  | .inr (j, q', d) => .inr (j, q', lnotD neg d)
theorem plain_end (fu : Nat) (cB : Int32 → Int32 → zSt → Option (Int32 × zSt)) (cC : zSt → Option (Int32 × zSt)) {B : Nat → Int32} {T : Nat} {ord : Int32} {W i i1 q b l : Nat} {neg : Bool} {r : Int32} {S S1 S2 : zSt} {R : lRT} (hF : zPF S S1 l) (hi : i ≤ i1) (hn : neg = false ∨ i < i1) (hl : l ≤ i + 30) (ho : zOutT S1 B T ord W i1 q b l R r S2) :
    ∃ r' S', f_Re_readPlain_62 cB cC fu (b2 neg) r S2 = some (r', S') ∧ zOutT S B T ord W i q b l (lRneg neg R) r' S' := by
  cases R with
  | inl j =>
    obtain ⟨F, rfl, H⟩ := ho
    refine ⟨0, S2, ?_, zPF_t hF F (Nat.le_refl l), rfl, H⟩
    unfold f_Re_readPlain_62
    rw [if_pos rfl, qgd (by decide)]
  | inr x =>
    obtain ⟨j, q', d⟩ := x
    obtain ⟨F, rfl, l', g0, g1, g2, g3, g4, g5, g6, g7, g8, g9⟩ := ho
    unfold f_Re_readPlain_62
    cases neg with
    | false =>
      refine ⟨1, S2, ?_, zPF_t hF F (Nat.le_refl l), rfl, l', g0, by omega, g2, g3, g4, g5, by omega, ?_, g8, ?_⟩
      · rw [if_neg (by decide), if_pos (show b2 false = 0 from rfl), qgd (by decide)]
      · rw [lnotD_f]; exact g7
      · rw [lnotD_f]; exact g9
    | true =>
      have hlt : i < i1 := by
        rcases hn with h | h
        · exact absurd h (by decide)
        · exact h
      have e := emit_is (w := 4) (v := 0) (by omega : l' < 436) g0.2.2.2.2.1 g0.2.2.2.2.2
      have FE := zEm_F S2 l' 4 0
      refine ⟨1, zEm S2 l' 4 0, ?_, zPF_t hF (zPF_t F FE (by omega)) (Nat.le_refl l), rfl, l' + 1, zEm_S g0 4 0, by omega, g2, g3, g4, by omega, by omega, ?_, ?_, ?_⟩
      · rw [if_neg (by decide), if_neg (by decide)]
        exact (qb1 e).trans (qgd (by decide))
      · exact xseg_not (xseg_eq g7 (fun k _ hk => FE.2.2.2.2.2.1 k hk)) (by omega) (zEm_51 S2 l' 4 0)
      · refine codeOk_t (codeOk_e g8 (fun k hk => FE.2.2.2.2.2.1 k hk)) (fun k a b => ?_)
        have e : k = l' := by omega
        rw [e, zEm_51]
        exact xw_ok (by omega)
      · intro h3; exact noSoon_not true (g9 (FE.2.2.2.2.2.2.1 h3))
theorem zPS_b {S : zSt} {B : Nat → Int32} {T : Nat} {ord : Int32} {i q b l : Nat} (h : zPS S B T ord i q b l) (b' : Nat) : zPS (zwI S 46 3 (nI b')) B T ord i q b' l := by
  obtain ⟨h1, h2, h3, h4, h5, h6⟩ := h
  refine ⟨zHd_w h1 _ _ (by omega) (by omega), ?_, ?_, ?_, ?_, h6⟩
  · rw [qIIo _ _ (by omega)]; exact h2
  · rw [qIIo _ _ (by omega)]; exact h3
  · rw [qIIs]
  · rw [qIIo _ _ (by omega)]; exact h5
def lRbrk (C : Nat → Int32) (c : Int32) (R : lR) : lR := match R with
  | .inl j => .inl j
  | .inr (j, q', d) => if C j = c then .inr (j + 1, q', d) else .inl j
def lRbrkT (C : Nat → Int32) (c : Int32) (R : lRT) : lRT := match R with
  | .inl j => .inl j
  | .inr (j, q', d) => if C j = c then .inr (j + 1, q', d) else .inl j
theorem brk_end (fu : Nat) (hfu : 500 ≤ fu) (cS cT : zSt → Option (Int32 × zSt)) {B : Nat → Int32} {T : Nat} {ord : Int32} {W i q b l c : Nat} {r : Int32} {S S1 S2 : zSt} {R : lR} (hc : c < 256) (hF : zPF S S1 l) (ho : zOut S1 B T ord W (i + 1) q (b + 1) l R r S2) :
    ∃ r' S', f_Re_readBracketed_48 cS cT fu (nI c) r S2 = some (r', S') ∧ zOut S B T ord W i q b l (lRbrk (tC B T) (nI (100 + c)) R) r' S' := by
  cases R with
  | inl j =>
    obtain ⟨F, rfl, H⟩ := ho
    unfold f_Re_readBracketed_48
    rw [if_pos rfl]
    exact ⟨0, _, rfl, zPF_t (zPF_t hF F (Nat.le_refl l)) (zPF_46 S2 3 _ l (by omega)) (Nat.le_refl l), rfl, zHd_w H _ _ (by omega) (by omega)⟩
  | inr x =>
    obtain ⟨j, q', d⟩ := x
    obtain ⟨F, rfl, l', g0, g1, g2, g3, g4, g5, g6, g7, g8, g9⟩ := ho
    unfold f_Re_readBracketed_48
    have hb : zI S2 46 3 - 1 = nI b := by rw [g0.2.2.2.1]; exact n_sub (a := b + 1) (b := 1) (by omega)
    have g0' := zPS_b g0 b
    have F3 : zPF S (zwI S2 46 3 (nI b)) l := zPF_t (zPF_t hF F (Nat.le_refl l)) (zPF_46 S2 3 _ l (by omega)) (Nat.le_refl l)
    rw [if_neg (by decide), hb]
    have tk := take_sign fu hfu g0'.1 hc
    show ∃ r' S', _ ∧ zOut S B T ord W i q b l (if tC B T j = nI (100 + c) then .inr (j + 1, q', d) else .inl j) r' S'
    by_cases c1 : tC B T j = nI (100 + c)
    · have hj := tC_lt g0.1.1.2.1 (show tC B T j ≠ 0 by
        rw [c1]
        exact fun h => absurd ((n_eq (a := 100 + c) (b := 0) (by omega) (by omega)).mp h) (by omega))
      have e51 : ∀ k, zI (zTk (zwI S2 46 3 (nI b)) B T (tPos B T (j + 1))) 51 k = zI S2 51 k := fun k => by rw [zTk_o _ _ _ _ (Or.inl (by omega)), qIIo _ _ (by omega)]
      rw [qb2 (tk.1 c1).1, if_neg (by decide), if_pos c1]
      refine ⟨1, _, rfl, zPF_t F3 (zPF_tk (B := B) (T := T) _ l) (Nat.le_refl l), rfl, l', zTk_S g0', by omega, by omega, g3, g4, g5, by omega, xseg_eq g7 (fun k _ _ => e51 k), codeOk_e g8 (fun k _ => e51 k), fun h3 => g9 ?_⟩
      rw [zTk_o _ _ _ _ (Or.inl (by omega)), qIIo _ _ (by omega)] at h3
      exact h3
    · rw [qb2 (tk.2 c1), if_pos rfl, if_neg c1]
      exact ⟨0, _, rfl, F3, rfl, g0'.1⟩
theorem brk_endT (fu : Nat) (hfu : 500 ≤ fu) (cS cT : zSt → Option (Int32 × zSt)) {B : Nat → Int32} {T : Nat} {ord : Int32} {W i q b l c : Nat} {r : Int32} {S S1 S2 : zSt} {R : lRT} (hc : c < 256) (hF : zPF S S1 l) (ho : zOutT S1 B T ord W (i + 1) q (b + 1) l R r S2) :
    ∃ r' S', f_Re_readBracketed_48 cS cT fu (nI c) r S2 = some (r', S') ∧ zOutT S B T ord W i q b l (lRbrkT (tC B T) (nI (100 + c)) R) r' S' := by
  cases R with
  | inl j => exact brk_end fu hfu cS cT (B := B) (T := T) (ord := ord) (W := W) (i := i) (q := q) (b := b) (l := l) (R := .inl j) hc hF ho
  | inr x =>
    obtain ⟨j, q', d⟩ := x
    obtain ⟨r', S', h1, h2⟩ := brk_end fu hfu cS cT (B := B) (T := T) (ord := ord) (W := W) (i := i) (q := q) (b := b) (l := l) (R := .inr (j, q', xT d)) hc hF ho
    refine ⟨r', S', h1, ?_⟩
    have h2' : zOut S B T ord W i q b l (if tC B T j = nI (100 + c) then .inr (j + 1, q', xT d) else .inl j) r' S' := h2
    show zOutT S B T ord W i q b l (if tC B T j = nI (100 + c) then .inr (j + 1, q', d) else .inl j) r' S'
    by_cases c1 : tC B T j = nI (100 + c)
    · rw [if_pos c1] at h2' ⊢; exact h2'
    · rw [if_neg c1] at h2' ⊢; exact h2'
theorem out_r {S0 S : zSt} {B : Nat → Int32} {T : Nat} {ord : Int32} {W i0 q0 b l0 : Nat} {R : lR} {r : Int32} (ho : zOut S0 B T ord W i0 q0 b l0 R r S) : r = 0 ∨ r = 1 := by
  cases R with
  | inl j => exact Or.inl ho.2.1
  | inr x => exact Or.inr ho.2.1
theorem outT_r {S0 S : zSt} {B : Nat → Int32} {T : Nat} {ord : Int32} {W i0 q0 b l0 : Nat} {R : lRT} {r : Int32} (ho : zOutT S0 B T ord W i0 q0 b l0 R r S) : r = 0 ∨ r = 1 := by
  cases R with
  | inl j => exact Or.inl ho.2.1
  | inr x => exact Or.inr ho.2.1
theorem brk_full {S : zSt} {B : Nat → Int32} {T : Nat} {ord : Int32} {i q l : Nat} (fu : Nat) (cS cT : zSt → Option (Int32 × zSt)) (h : zPS S B T ord i q 8 l) (a2 a3 : Int32) : f_Re_readBracketed_o cS cT fu a2 a3 S = some (0, S) := by
  unfold f_Re_readBracketed_o
  rw [h.2.2.2.1, if_pos (by decide)]
theorem brk_open {S : zSt} {B : Nat → Int32} {T : Nat} {ord : Int32} {i q b l c c' : Nat} (fu : Nat) (hfu : 500 ≤ fu) (cS cT : zSt → Option (Int32 × zSt)) (h : zPS S B T ord i q b l) (hb : b < 8) (hc : c < 256) (c1 : tC B T i = nI (100 + c)) :
    ∃ S4, f_Re_readBracketed_o cS cT fu (nI c) (nI c') S = (if nI c = 40 then zb2 (cT S4) (fun r S => f_Re_readBracketed_48 cS cT fu (nI c') r S) else zb2 (cS S4) (fun r S => f_Re_readBracketed_48 cS cT fu (nI c') r S)) ∧ zPS S4 B T ord (i + 1) q (b + 1) l ∧ zPF S S4 l := by
  have tk := (take_sign fu hfu h.1 hc).1 c1
  have h4 := zTk_S h
  have l8 : ¬ (8 : Int32) ≤ nI b := fun h => absurd ((n_le (a := 8) (by omega) (by omega)).mp h) (by omega)
  refine ⟨zwI (zTk S B T (tPos B T (i + 1))) 46 3 (nI (b + 1)), ?_, zPS_b h4 (b + 1), zPF_t (zPF_tk (B := B) (T := T) _ l) (zPF_46 _ 3 _ l (by omega)) (Nat.le_refl l)⟩
  unfold f_Re_readBracketed_o
  rw [h.2.2.2.1, if_neg l8, qb2 tk.1, if_neg (by decide), h4.2.2.2.1, n_1]
theorem part_ok (fu : Nat) (hfu : 500 ≤ fu) {B : Nat → Int32} {T : Nat} {ord : Int32} {W n r : Nat} {ordB : Bool} (cS cT : zSt → Option (Int32 × zSt)) (hr : r ≤ 8)
    (hleaf : ∀ (brk : Int32 → Int32 → zSt → Option (Int32 × zSt)) (S : zSt) (i q b l : Nat), zPS S B T ord i q b l → l ≤ i + 35 → q ≤ 50 → tC B T i ≠ 191 → ∃ r S', f_Re_readPart_o brk fu S = some (r, S') ∧ zOut S B T ord W i q b l (lleaf ordB (tC B T) (tV B T) i q) r S')
    (hs : ∀ r', r = r' + 1 → pOk B T ord W (8 - r') cS (fun i q => lsum (lpart ordB (tC B T) (tV B T) n r') (tC B T) n i q)) : pOk B T ord W (8 - r) (f_Re_readPart_o (f_Re_readBracketed_o cS cT fu) fu) (fun i q => lpart ordB (tC B T) (tV B T) n r i q) := by
  intro S i q l h hl hq
  by_cases c : tC B T i = 191
  · have s91 : f_Ta_isSign 91 S = some (if tC B T i = 191 then 1 else 0) := is_sign (c := 91) h.1 (by omega)
    unfold f_Re_readPart_o
    rw [qb1 s91, if_pos c, if_neg (by decide)]
    cases r with
    | zero =>
      rw [qb2 (brk_full fu cS cT h 91 93), qgd (by decide)]
      refine ⟨0, S, rfl, ?_⟩
      show zOut S B T ord W i q 8 l (if tC B T i = 191 then .inl i else _) 0 S
      rw [if_pos c]
      exact ⟨zPF_r S l, rfl, h.1⟩
    | succ r' =>
      have hs' := hs r' rfl
      obtain ⟨S4, x1, x2, x3⟩ := brk_open (c' := 93) fu hfu cS cT h (by omega) (by omega : 91 < 256) c
      rw [show 8 - (r' + 1) + 1 = 8 - r' by omega] at x2
      obtain ⟨ra, Sa, y1, y2⟩ := hs' S4 (i + 1) q l x2 (by omega) hq
      rw [show 8 - r' = 8 - (r' + 1) + 1 by omega] at y2
      obtain ⟨rb, Sb, z1, z2⟩ := brk_end (c := 93) fu hfu cS cT (by omega) x3 y2
      have e : f_Re_readBracketed_o cS cT fu 91 93 S = some (rb, Sb) := by
        refine x1.trans ?_
        rw [if_neg (by decide), qb2 y1]
        exact z1
      refine ⟨rb, Sb, ?_, ?_⟩
      · rw [qb2 e]; exact qgd (out_r z2)
      · show zOut S B T ord W i q (8 - (r' + 1)) l (if tC B T i = 191 then (match lsum (lpart ordB (tC B T) (tV B T) n r') (tC B T) n (i + 1) q with
          | .inl j => .inl j
          | .inr (j, q', d) => if tC B T j = 193 then .inr (j + 1, q', d) else .inl j) else _) rb Sb
        rw [if_pos c]
        exact z2
  · obtain ⟨ra, Sa, y1, y2⟩ := hleaf (f_Re_readBracketed_o cS cT fu) S i q _ l h (by omega) hq c
    refine ⟨ra, Sa, y1, ?_⟩
    cases r with
    | zero =>
      show zOut S B T ord W i q 8 l (if tC B T i = 191 then .inl i else _) ra Sa
      rw [if_neg c]; exact y2
    | succ r' =>
      show zOut S B T ord W i q (8 - (r' + 1)) l (if tC B T i = 191 then _ else _) ra Sa
      rw [if_neg c]; exact y2
def lBr0 (ord : Bool) (C V : Nat → Int32) (n r i q : Nat) : lRT := match r with
  | 0 => .inl i
  | r' + 1 => lRbrkT C 141 (ltest (lplain ord C V n r') C n (i + 1) q)
theorem plain_ok (fu : Nat) (hfu : 500 ≤ fu) {B : Nat → Int32} {T : Nat} {ord : Int32} {W n r : Nat} {ordB : Bool} (hn : 401 ≤ n) (cS cT cC : zSt → Option (Int32 × zSt)) (hr : r ≤ 8)
    (hc : pOkT B T ord W (8 - r) cC (fun i q => lcomp (lpart ordB (tC B T) (tV B T) n r) (tC B T) n i q))
    (hs : ∀ r', r = r' + 1 → pOkT B T ord W (8 - r') cT (fun i q => ltest (lplain ordB (tC B T) (tV B T) n r') (tC B T) n i q)) : pOkT B T ord W (8 - r) (f_Re_readPlain_o (f_Re_readBracketed_o cS cT fu) cC fu) (fun i q => lplain ordB (tC B T) (tV B T) n r i q) := by
  intro S i q l h hl hq
  obtain ⟨S1, a1, a2, a3, a4, a5⟩ := nots_loop fu hfu (f_Re_readBracketed_o cS cT fu) cC fu n 0 S i false (by omega) (by omega) (by omega) (by omega) (by omega) h
  unfold f_Re_readPlain_o
  have a1' : f_Re_readPlain_4 (f_Re_readBracketed_o cS cT fu) cC fu fu 0 0 S = _ := a1
  rw [a1']
  have hneg : (lnots (tC B T) n i false).2 = false ∨ i < (lnots (tC B T) n i false).1 := a5
  have L : lplain ordB (tC B T) (tV B T) n r i q = lRneg (lnots (tC B T) n i false).2 (if tC B T (lnots (tC B T) n i false).1 = 140 then lBr0 ordB (tC B T) (tV B T) n r (lnots (tC B T) n i false).1 q else lcomp (lpart ordB (tC B T) (tV B T) n r) (tC B T) n (lnots (tC B T) n i false).1 q) := by
    cases r with
    | zero =>
      show (if tC B T (lnots (tC B T) n i false).1 = 140 then _ else _) = _
      by_cases c : tC B T (lnots (tC B T) n i false).1 = 140
      · rw [if_pos c, if_pos c]; rfl
      · rw [if_neg c, if_neg c]; rfl
    | succ r' =>
      show (if tC B T (lnots (tC B T) n i false).1 = 140 then _ else _) = _
      by_cases c : tC B T (lnots (tC B T) n i false).1 = 140
      · rw [if_pos c, if_pos c]
        show _ = lRneg _ (lRbrkT (tC B T) 141 (ltest (lplain ordB (tC B T) (tV B T) n r') (tC B T) n ((lnots (tC B T) n i false).1 + 1) q))
        cases ltest (lplain ordB (tC B T) (tV B T) n r') (tC B T) n ((lnots (tC B T) n i false).1 + 1) q with
        | inl j => rfl
        | inr x =>
          obtain ⟨j, q', d⟩ := x
          show (if tC B T j = 141 then _ else _) = lRneg _ (if tC B T j = 141 then _ else _)
          by_cases c2 : tC B T j = 141
          · rw [if_pos c2, if_pos c2]; rfl
          · rw [if_neg c2, if_neg c2]; rfl
      · rw [if_neg c, if_neg c]; rfl
  show ∃ r' S', _ ∧ zOutT S B T ord W i q (8 - r) l (lplain ordB (tC B T) (tV B T) n r i q) r' S'
  rw [L]
  generalize lnots (tC B T) n i false = lx at *
  obtain ⟨i1, neg⟩ := lx
  have a3' : zPS S1 B T ord i1 q (8 - r) l := a3
  have a4' : i ≤ i1 := a4
  have s40 : f_Ta_isSign 40 S1 = some (if tC B T i1 = 140 then 1 else 0) := is_sign (c := 40) a3'.1 (by omega)
  unfold f_Re_readPlain_36
  rw [qb1 s40]
  show ∃ r' S', (if (if tC B T i1 = 140 then (1 : Int32) else 0) = 0 then _ else _) = some (r', S') ∧ zOutT S B T ord W i q (8 - r) l (lRneg neg (if tC B T i1 = 140 then _ else _)) r' S'
  by_cases c : tC B T i1 = 140
  · rw [if_pos c, if_pos c, if_neg (by decide)]
    cases r with
    | zero =>
      rw [qb2 (brk_full fu cS cT a3' 40 41)]
      exact plain_end fu _ cC (R := .inl i1) a2 a4' hneg hl ⟨zPF_r S1 l, rfl, a3'.1⟩
    | succ r' =>
      have hs' := hs r' rfl
      obtain ⟨S4, x1, x2, x3⟩ := brk_open (c' := 41) fu hfu cS cT a3' (by omega) (by omega : 40 < 256) c
      rw [show 8 - (r' + 1) + 1 = 8 - r' by omega] at x2
      obtain ⟨ra, Sa, y1, y2⟩ := hs' S4 (i1 + 1) q l x2 (by omega) hq
      rw [show 8 - r' = 8 - (r' + 1) + 1 by omega] at y2
      obtain ⟨rb, Sb, z1, z2⟩ := brk_endT (c := 41) fu hfu cS cT (by omega) x3 y2
      have e : f_Re_readBracketed_o cS cT fu 40 41 S1 = some (rb, Sb) := by
        refine x1.trans ?_
        rw [if_pos (by decide), qb2 y1]
        exact z1
      rw [qb2 e]
      exact plain_end fu _ cC a2 a4' hneg hl z2
  · rw [if_neg c, if_neg c, if_pos rfl]
    obtain ⟨ra, Sa, y1, y2⟩ := hc S1 i1 q l a3' (by omega) hq
    rw [qb2 y1]
    exact plain_end fu _ cC a2 a4' hneg hl y2
theorem sums_ok (fu : Nat) (hfu : 500 ≤ fu) {B : Nat → Int32} {T : Nat} {ord : Int32} {W n : Nat} {ordB : Bool} (hn : 401 ≤ n)
    (hleaf : ∀ (brk : Int32 → Int32 → zSt → Option (Int32 × zSt)) (S : zSt) (i q b l : Nat), zPS S B T ord i q b l → l ≤ i + 35 → q ≤ 50 → tC B T i ≠ 191 → ∃ r S', f_Re_readPart_o brk fu S = some (r, S') ∧ zOut S B T ord W i q b l (lleaf ordB (tC B T) (tV B T) i q) r S') :
    ∀ r, r ≤ 8 → ∀ d, 4 * r + 4 ≤ d → pOk B T ord W (8 - r) (f_Re_readSum fu d) (fun i q => lsum (lpart ordB (tC B T) (tV B T) n r) (tC B T) n i q) := by
  intro r
  induction r with
  | zero =>
    intro hr d hd
    obtain ⟨d, rfl⟩ : ∃ d', d = d' + 4 := ⟨d - 4, by omega⟩
    exact sum_ok fu hfu hn (term_ok fu hfu (part_ok fu hfu (f_Re_readSum fu d) (f_Re_readTest fu d) hr hleaf (fun r' h => by omega)) hn)
  | succ r ih =>
    intro hr d hd
    obtain ⟨d, rfl⟩ : ∃ d', d = d' + 4 := ⟨d - 4, by omega⟩
    refine sum_ok fu hfu hn (term_ok fu hfu (part_ok fu hfu (f_Re_readSum fu d) (f_Re_readTest fu d) hr hleaf (fun r' h => ?_)) hn)
    have e : r' = r := by omega
    rw [e]
    exact ih (by omega) d (by omega)
theorem tests_ok (fu : Nat) (hfu : 500 ≤ fu) {B : Nat → Int32} {T : Nat} {ord : Int32} {W n : Nat} {ordB : Bool} (hn : 401 ≤ n)
    (hleaf : ∀ (brk : Int32 → Int32 → zSt → Option (Int32 × zSt)) (S : zSt) (i q b l : Nat), zPS S B T ord i q b l → l ≤ i + 35 → q ≤ 50 → tC B T i ≠ 191 → ∃ r S', f_Re_readPart_o brk fu S = some (r, S') ∧ zOut S B T ord W i q b l (lleaf ordB (tC B T) (tV B T) i q) r S') :
    ∀ r, r ≤ 8 → ∀ d, 4 * r + 8 ≤ d → pOkT B T ord W (8 - r) (f_Re_readTest fu d) (fun i q => ltest (lplain ordB (tC B T) (tV B T) n r) (tC B T) n i q) := by
  intro r
  induction r with
  | zero =>
    intro hr d hd
    obtain ⟨d, rfl⟩ : ∃ d', d = d' + 4 := ⟨d - 4, by omega⟩
    exact test_ok fu hfu hn (both_ok fu hfu (plain_ok fu hfu hn (f_Re_readSum fu d) (f_Re_readTest fu d) (f_Re_readComparison fu (d + 1)) hr (comp_ok fu hfu (sums_ok fu hfu hn hleaf 0 (by omega) d (by omega))) (fun r' h => by omega)) hn)
  | succ r ih =>
    intro hr d hd
    obtain ⟨d, rfl⟩ : ∃ d', d = d' + 4 := ⟨d - 4, by omega⟩
    refine test_ok fu hfu hn (both_ok fu hfu (plain_ok fu hfu hn (f_Re_readSum fu d) (f_Re_readTest fu d) (f_Re_readComparison fu (d + 1)) hr (comp_ok fu hfu (sums_ok fu hfu hn hleaf (r + 1) hr d (by omega))) (fun r' h => ?_)) hn)
    have e : r' = r := by omega
    rw [e]
    exact ih (by omega) d (by omega)

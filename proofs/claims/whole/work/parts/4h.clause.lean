/-! the class's parser: clauses -/
/-- a clause as the class keeps it: its kind, how often, what its two sums and its test tell -/
abbrev xC : Type := Nat × Nat × (Nat → lD)
def xcO (c : lC) : xC := (c.1, c.2.2.2.1, fun w => if w = 0 then c.2.1 else if w = 1 then c.2.2.1 else match c.2.2.2.2 with
  | none => lone
  | some t => xT t)
/-- a start of code: none, or from there a whole piece with its end -/
def zSg (c : Nat → Int32) (l W : Nat) (s : Int32) (d : lD) : Prop := (s = -1 ∧ d = lone) ∨ ∃ a b k, s = nI a ∧ a ≤ b ∧ b < l ∧ k ≤ 50 ∧ xseg c W a b k d ∧ c b = xw 13 0
theorem sg_up {c c' : Nat → Int32} {l l' W : Nat} {s : Int32} {d : lD} (h : zSg c l W s d) (hl : l ≤ l') (hc : ∀ k, k < l → c' k = c k) : zSg c' l' W s d := by
  rcases h with h | ⟨a, b, k, h1, h2, h3, h4, h5, h6⟩
  · exact Or.inl h
  · exact Or.inr ⟨a, b, k, h1, h2, by omega, h4, xseg_eq h5 (fun j _ hj => hc j (by omega)), (hc b h3).trans h6⟩
def zCl (kd tm st c : Nat → Int32) (W l j : Nat) (x : xC) : Prop := kd j = nI x.1 ∧ tm j = nI x.2.1 ∧ x.1 ≤ 3 ∧ x.2.1 ≤ 20 ∧ ∀ w, w < 3 → zSg c l W (st (3 * j + w)) (x.2.2 w)
def noSoonC (x : xC) : Prop := ∀ w, w < 3 → noSoon (x.2.2 w)
def zFF (S S' : zSt) : Prop := S'.2 = S.2 ∧ (∀ j k, j ≠ 44 → j ≠ 46 → j ≠ 47 → j ≠ 48 → j ≠ 49 → j ≠ 50 → j ≠ 51 → zI S' j k = zI S j k) ∧ (∀ k, k < 2 → zI S' 44 k = zI S 44 k) ∧ (zI S' 47 3 = zI S 47 3 ∨ zI S' 47 3 = 0 ∨ zI S' 47 3 = 1)
theorem zFF_r (S : zSt) : zFF S S := ⟨rfl, fun _ _ _ _ _ _ _ _ _ => rfl, fun _ _ => rfl, Or.inl rfl⟩
theorem zFF_t {S S' S'' : zSt} (h : zFF S S') (h2 : zFF S' S'') : zFF S S'' := ⟨h2.1.trans h.1, fun j k a b c d e f g => (h2.2.1 j k a b c d e f g).trans (h.2.1 j k a b c d e f g), fun k hk => (h2.2.2.1 k hk).trans (h.2.2.1 k hk), by
  rcases h2.2.2.2 with e | e
  · rw [e]; exact h.2.2.2
  · exact Or.inr e⟩
theorem zFF_P {S S' : zSt} {l : Nat} (h : zPF S S' l) : zFF S S' := ⟨h.1, fun j k a b c _ _ _ g => h.2.1 j k a b c g, h.2.2.1, h.2.2.2.2.2.2.2.elim Or.inl (fun e => Or.inr (Or.inr e))⟩
theorem zFF_w (S : zSt) {j : Nat} (k : Nat) (v : Int32) (hj : 46 ≤ j ∧ j ≤ 51 ∧ ¬ (j = 47 ∧ k = 3)) : zFF S (zwI S j k v) := ⟨rfl, fun j' k' a b c d e f g => qIIo _ _ (by omega), fun k' hk => qIIo _ _ (by omega), Or.inl (qIIo _ _ (by omega))⟩
theorem zPS_o {S : zSt} {B : Nat → Int32} {T : Nat} {ord : Int32} {i q b l : Nat} (h : zPS S B T ord i q b l) {j : Nat} (k : Nat) (v : Int32) (hj : 48 ≤ j) : zPS (zwI S j k v) B T ord i q b l := by
  obtain ⟨h1, h2, h3, h4, h5, h6⟩ := h
  refine ⟨zHd_w h1 _ _ (by omega) (by omega), ?_, ?_, ?_, ?_, h6⟩
  · rw [qIIo _ _ (by omega)]; exact h2
  · rw [qIIo _ _ (by omega)]; exact h3
  · rw [qIIo _ _ (by omega)]; exact h4
  · rw [qIIo _ _ (by omega)]; exact h5
/-- between pieces: the i-th token is at hand, so many clauses stand -/
def zCS (S : zSt) (B : Nat → Int32) (T : Nat) (ord : Int32) (W i q l : Nat) (cls : List xC) : Prop := zPS S B T ord i q 0 l ∧ (q ≤ 50 ∧ l ≤ 400) ∧ zI S 47 2 = nI cls.length ∧ cls.length ≤ 12 ∧ (∀ j x, cls[j]? = some x → zCl (zI S 48) (zI S 49) (zI S 50) (zI S 51) W l j x) ∧ (∀ k, 3 * cls.length ≤ k → k < 36 → zI S 50 k = -1) ∧ codeOk (zI S 51) 0 l ∧ (zI S 47 3 = 0 → ∀ x ∈ cls, noSoonC x)
theorem start_is {S : zSt} {m w l : Nat} (h : zI S 47 2 = nI (m + 1)) (hm : m < 12) (hw : w < 3) (hl : zI S 47 1 = nI l) : f_Tx_start 47 (nI w) S = some (zwI S 50 (3 * m + w) (nI l)) := by
  have e : ((zI S 47 2 - 1) * 3) + nI w = nI (3 * m + w) := by
    rw [h, show (1 : Int32) = nI 1 from rfl, n_sub (by omega), show (3 : Int32) = nI 3 from rfl, n_mul, n_add]
    congr 1
    omega
  have l36 : ¬ (36 : Int32) ≤ nI (3 * m + w) := fun h => absurd ((n_le (a := 36) (by omega) (by omega)).mp h) (by omega)
  unfold f_Tx_start
  rw [e, if_neg (n_neg (by omega)), if_neg l36, n_gd (by omega) (by omega), q_cl (by omega), hl]
def xset (x : xC) (w : Nat) (d : lD) : xC := (x.1, x.2.1, fun v => if v = w then d else x.2.2 v)
theorem last_of {cls : List xC} {x y : xC} {j : Nat} (h : (cls ++ [x])[j]? = some y) : (j < cls.length ∧ cls[j]? = some y) ∨ (j = cls.length ∧ y = x) := by
  by_cases hj : j < cls.length
  · rw [List.getElem?_append_left hj] at h
    exact Or.inl ⟨hj, h⟩
  · rw [List.getElem?_append_right (by omega)] at h
    by_cases he : j = cls.length
    · rw [he, Nat.sub_self] at h
      exact Or.inr ⟨he, by injection h with h; exact h.symm⟩
    · rw [List.getElem?_eq_none (by simp; omega)] at h
      cases h
theorem piece_ok (fu : Nat) (hfu : 500 ≤ fu) {B : Nat → Int32} {T : Nat} {ord : Int32} {W : Nat} {f : zSt → Option (Int32 × zSt)} {p : Nat → Nat → lR} (hp : pOk B T ord W 0 f p) {S : zSt} {i q l w : Nat} {cls : List xC} {x : xC} (hw : w < 3) (h : zCS S B T ord W i q l (cls ++ [x])) (hl : l + 1 ≤ i) :
    ∃ S1, f_Tx_start 47 (nI w) S = some S1 ∧ ((∃ k S2, p i q = .inl k ∧ f S1 = some (0, S2) ∧ zHd S2 B T k ∧ zFF S S2) ∨
      (∃ k q' d S2 S3 l', p i q = .inr (k, q', d) ∧ f S1 = some (1, S2) ∧ f_Tx_emit 47 13 0 S2 = some S3 ∧ zFF S S3 ∧ zCS S3 B T ord W k q' l' (cls ++ [xset x w d]) ∧ l' ≤ k ∧ i < k ∧ k ≤ 400)) := by
  obtain ⟨h1, h2, h3, h4, h5, h6, h7, h8⟩ := h
  have hlen : (cls ++ [x]).length = cls.length + 1 := by simp
  have hlen2 : ∀ y : xC, (cls ++ [y]).length = cls.length + 1 := fun y => by simp
  rw [hlen] at h3 h4 h6
  have e1 := start_is h3 (by omega) hw h1.2.2.2.2.1
  have P1 := zPS_o h1 (3 * cls.length + w) (nI l) (j := 50) (by omega)
  have F1 : zFF S (zwI S 50 (3 * cls.length + w) (nI l)) := zFF_w S _ _ (by omega)
  refine ⟨_, e1, ?_⟩
  obtain ⟨r, S2, e2, F2, o2⟩ := hp _ i q l P1 (by omega) h2.1
  cases hpp : p i q with
  | inl k =>
    rw [hpp] at o2
    obtain ⟨rfl, o3⟩ := o2
    exact Or.inl ⟨k, S2, rfl, e2, o3, zFF_t F1 (zFF_P F2)⟩
  | inr y =>
    obtain ⟨k, q', d⟩ := y
    rw [hpp] at o2
    obtain ⟨rfl, l', g0, g1, g2, g3, g4, g5, g6, g7, g8, g9⟩ := o2
    have FE := zEm_F S2 l' 13 0
    have eE := emit_is (w := 13) (v := 0) (by omega : l' < 436) g0.2.2.2.2.1 g0.2.2.2.2.2
    have r48 : zI (zEm S2 l' 13 0) 48 = zI S 48 := by
      funext k
      rw [FE.2.1 48 k (by omega) (by omega) (by omega) (by omega), F2.2.1 48 k (by omega) (by omega) (by omega) (by omega), qIIo _ _ (by omega)]
    have r49 : zI (zEm S2 l' 13 0) 49 = zI S 49 := by
      funext k
      rw [FE.2.1 49 k (by omega) (by omega) (by omega) (by omega), F2.2.1 49 k (by omega) (by omega) (by omega) (by omega), qIIo _ _ (by omega)]
    have r50 : ∀ k, zI (zEm S2 l' 13 0) 50 k = if k = 3 * cls.length + w then nI l else zI S 50 k := by
      intro k
      rw [FE.2.1 50 k (by omega) (by omega) (by omega) (by omega), F2.2.1 50 k (by omega) (by omega) (by omega) (by omega), qII]
      simp
    have r51 : ∀ k, k < l → zI (zEm S2 l' 13 0) 51 k = zI S 51 k := by
      intro k hk
      rw [FE.2.2.2.2.2.1 k (by omega), F2.2.2.2.2.2.1 k hk, qIIo _ _ (by omega)]
    refine Or.inr ⟨k, q', d, S2, _, l' + 1, rfl, e2, eE, zFF_t F1 (zFF_t (zFF_P F2) (zFF_P FE)), ⟨zEm_S g0 13 0, ⟨g4, by omega⟩, ?_, by rw [hlen2]; exact h4, ?_, ?_, ?_, ?_⟩, by omega, g1, g2⟩
    · rw [hlen2, FE.2.2.2.2.1 2 (by omega) (by omega), F2.2.2.2.2.1 2 (by omega) (by omega), qIIo _ _ (by omega)]
      exact h3
    · intro j y hy
      rw [r48, r49]
      rcases last_of hy with ⟨hj, hy2⟩ | ⟨hj, hy2⟩
      · obtain ⟨b1, b2, b3, b4, b5⟩ := h5 j y (by rw [List.getElem?_append_left hj]; exact hy2)
        refine ⟨b1, b2, b3, b4, fun v hv => ?_⟩
        rw [r50, if_neg (by omega)]
        exact sg_up (b5 v hv) (by omega) r51
      · obtain ⟨b1, b2, b3, b4, b5⟩ := h5 j x (by rw [hj, List.getElem?_append_right (by omega), Nat.sub_self]; rfl)
        rw [hy2]
        refine ⟨b1, b2, b3, b4, fun v hv => ?_⟩
        show zSg _ _ _ _ (if v = w then d else x.2.2 v)
        rw [r50, hj]
        by_cases hvw : v = w
        · rw [if_pos (by omega), if_pos hvw]
          exact Or.inr ⟨l, l', q' - q, rfl, by omega, by omega, by omega, xseg_eq g7 (fun k _ hk => FE.2.2.2.2.2.1 k hk), zEm_51 S2 l' 13 0⟩
        · rw [if_neg (by omega), if_neg hvw]
          have b6 := b5 v hv
          rw [hj] at b6
          exact sg_up b6 (by omega) r51
    · intro k hk hk2
      rw [hlen2] at hk
      rw [r50, if_neg (by omega)]
      exact h6 k hk hk2
    · refine codeOk_t (codeOk_t (codeOk_e h7 r51) (codeOk_e g8 (fun k hk => FE.2.2.2.2.2.1 k hk))) (fun k a b => ?_)
      have e : k = l' := by omega
      rw [e, zEm_51]
      exact xw_ok (by omega)
    · intro hs y hy
      have hs2 : zI S2 47 3 = 0 := FE.2.2.2.2.2.2.1 hs
      have hs0 : zI S 47 3 = 0 := by
        have := F2.2.2.2.2.2.2.1 hs2
        rw [qIIo _ _ (by omega)] at this
        exact this
      have N8 := h8 hs0
      rcases List.mem_append.mp hy with hy | hy
      · exact N8 y (List.mem_append.mpr (Or.inl hy))
      · have e : y = xset x w d := by simpa using hy
        rw [e]
        intro v hv
        show noSoon (if v = w then d else x.2.2 v)
        split
        · exact g9 hs2
        · exact N8 x (by simp) v hv
def mapT (R : lRT) : lR := match R with
  | .inl j => .inl j
  | .inr (j, q', d) => .inr (j, q', xT d)
theorem pOk_T {B : Nat → Int32} {T : Nat} {ord : Int32} {W b : Nat} {f : zSt → Option (Int32 × zSt)} {p : Nat → Nat → lRT} (hp : pOkT B T ord W b f p) : pOk B T ord W b f (fun i q => mapT (p i q)) := by
  intro S i q l h hl hq
  obtain ⟨r, S', e, o⟩ := hp S i q l h hl hq
  refine ⟨r, S', e, ?_⟩
  show zOut S B T ord W i q b l (mapT (p i q)) r S'
  cases hpp : p i q with
  | inl j => rw [hpp] at o; exact o
  | inr y => rw [hpp] at o; exact o

/-! the class's parser: an operator is at hand; what follows is read and joined -/
theorem op_step (fu : Nat) (hfu : 500 ≤ fu) {B : Nat → Int32} {T : Nat} {ord : Int32} {W b : Nat} {f : zSt → Option (Int32 × zSt)} {p : Nat → Nat → lR} (hp : pOk B T ord W b f p) {S : zSt} {j q l w : Nat} (h : zPS S B T ord j q b l) (hl : l ≤ j + 30) (hq : q ≤ 50) (hw : w ≤ 13) (hj : j < 400) :
    ∃ S1, f_Ta_next fu S = some S1 ∧ zPF S S1 l ∧ ((∃ k S2, p (j + 1) q = .inl k ∧ f S1 = some (0, S2) ∧ zPF S S2 l ∧ zHd S2 B T k) ∨
      (∃ k q' d S2 S3 l', p (j + 1) q = .inr (k, q', d) ∧ f S1 = some (1, S2) ∧ f_Tx_emit 47 (nI w) 0 S2 = some S3 ∧ zPF S S3 l ∧ zPS S3 B T ord k q' b (l' + 1) ∧ j + 1 < k ∧ k ≤ 400 ∧ q < q' ∧ q' ≤ 50 ∧ l < l' ∧ l' + (j + 1) ≤ l + k ∧ xseg (zI S3 51) W l l' (q' - q) d ∧ zI S3 51 l' = xw w 0 ∧ codeOk (zI S3 51) l (l' + 1) ∧ (zI S3 47 3 = 0 → noSoon d))) := by
  have hN := next_at fu hfu h.1
  have h1 := zTk_S h
  have F1 : zPF S (zTk S B T (tPos B T (j + 1))) l := zPF_tk (B := B) (T := T) _ l
  refine ⟨_, hN.1, F1, ?_⟩
  obtain ⟨r, S2, e2, F2, o2⟩ := hp _ (j + 1) q l h1 (by omega) hq
  cases hpp : p (j + 1) q with
  | inl k =>
    rw [hpp] at o2
    obtain ⟨rfl, o3⟩ := o2
    exact Or.inl ⟨k, S2, rfl, e2, zPF_t F1 F2 (Nat.le_refl l), o3⟩
  | inr x =>
    obtain ⟨k, q', d⟩ := x
    rw [hpp] at o2
    obtain ⟨rfl, l', g1, g2, g10, g3, g4, g5, g6, g7, g8, g9⟩ := o2
    have hT := h.1.1.2.1
    have hl' : l' < 436 := by omega
    refine Or.inr ⟨k, q', d, S2, zEm S2 l' w 0, l', rfl, e2, emit_is hl' g1.2.2.2.2.1 g1.2.2.2.2.2, zPF_t F1 (zPF_t F2 (zEm_F S2 l' w 0) (by omega)) (Nat.le_refl l), zEm_S g1 w 0, by omega, g10, g3, g4, g5, by omega, ?_, zEm_51 S2 l' w 0, ?_, fun h3 => g9 ((zEm_F S2 l' w 0).2.2.2.2.2.2.1 h3)⟩
    · exact xseg_eq g7 (fun k _ hk => (zEm_F S2 l' w 0).2.2.2.2.2.1 k hk)
    · refine codeOk_t (codeOk_e g8 (fun k hk => (zEm_F S2 l' w 0).2.2.2.2.2.1 k hk)) (fun k a b => ?_)
      have e : k = l' := by omega
      rw [e, zEm_51]
      exact xw_ok hw

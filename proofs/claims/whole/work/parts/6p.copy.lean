/-! a parish copied into another object: image, back, the drawn years -/
/-- cells copied so far -/
def cpI (S X : zSt) (a0 a1 : Nat) (C : Nat → Nat → Prop) : Prop := ∀ j k, (C j k → a0 ≤ j ∧ j ≤ a0 + 4 ∧ zI X j k = zI S (j - a0 + a1) k) ∧ (¬ C j k → zI X j k = zI S j k)
theorem cpI_w {S X : zSt} {a0 a1 : Nat} {C : Nat → Nat → Prop} (h : cpI S X a0 a1 C) (hd : a1 + 4 < a0 ∨ a0 + 4 < a1) (k0 : Nat) : cpI S (zwI X a0 k0 (zI X a1 k0)) a0 a1 (fun j k => C j k ∨ (j = a0 ∧ k = k0)) := by
  intro j k
  have hn : zI X a1 k0 = zI S a1 k0 := (h a1 k0).2 (fun c => by have := ((h a1 k0).1 c); omega)
  constructor
  · intro c
    rw [qII]
    by_cases e : j = a0 ∧ k = k0
    · rw [if_pos e, hn, e.1, e.2, Nat.sub_self, Nat.zero_add]
      exact ⟨Nat.le_refl _, by omega, rfl⟩
    · rw [if_neg e]
      rcases c with c | c
      · exact (h j k).1 c
      · exact absurd c e
  · intro c
    rw [qIIo _ _ (fun e => c (Or.inr e))]
    exact (h j k).2 (fun c2 => c (Or.inl c2))
theorem cpI_c {S X : zSt} {a0 a1 : Nat} {C : Nat → Nat → Prop} (h : cpI S X a0 a1 C) (hd : a1 + 4 < a0 ∨ a0 + 4 < a1) {d : Nat} (hd4 : d ≤ 4) (n : Nat) : cpI S (zcpI X (a1 + d) (a0 + d) n) a0 a1 (fun j k => C j k ∨ (j = a0 + d ∧ k < n)) := by
  intro j k
  have hn : zI X (a1 + d) k = zI S (a1 + d) k := (h (a1 + d) k).2 (fun c => by have := ((h (a1 + d) k).1 c); omega)
  have e0 : zI (zcpI X (a1 + d) (a0 + d) n) j k = if j = a0 + d ∧ k < n then zI X (a1 + d) k else zI X j k := rfl
  constructor
  · intro c
    rw [e0]
    by_cases e : j = a0 + d ∧ k < n
    · rw [if_pos e, hn, e.1, show a0 + d - a0 + a1 = a1 + d by omega]
      exact ⟨by omega, by omega, rfl⟩
    · rw [if_neg e]
      rcases c with c | c
      · exact (h j k).1 c
      · exact absurd c e
  · intro c
    rw [e0, if_neg (fun e => c (Or.inr e))]
    exact (h j k).2 (fun c2 => c (Or.inl c2))
theorem cpI_L {S X : zSt} {a0 a1 : Nat} {C : Nat → Nat → Prop} (h : cpI S X a0 a1 C) (i k : Nat) (v : Int64) : cpI S (zwL X i k v) a0 a1 C := h
theorem copy_134 (fu a0 a1 : Nat) (hd : a1 + 5 ≠ a0 + 5) : ∀ (m i n : Nat) (X : zSt), i + m = 6 → m + 1 ≤ n → (∀ t q, t < 6 → zR X (a1 + 5) t = some q → zK q = 10 ∧ q < zN X) → ∃ Y, f_Ps_copyFrom_134 fu a0 a1 n (nI i) X = f_Ps_copyFrom_158 fu a0 a1 Y ∧ Y.1 = X.1 ∧ Y.2.1 = X.2.1 ∧ Y.2.2.2 = X.2.2.2 ∧ (∀ j k, zR Y j k = if j = a0 + 5 ∧ i ≤ k ∧ k < 6 then zR X (a1 + 5) k else zR X j k) := by
  intro m
  induction m with
  | zero =>
    intro i n X h1 h2 h3
    obtain ⟨n', rfl⟩ : ∃ n', n = n' + 1 := ⟨n - 1, by omega⟩
    refine ⟨X, ?_, rfl, rfl, rfl, fun j k => by rw [if_neg (by omega)]⟩
    unfold f_Ps_copyFrom_134
    rw [if_pos (show (6 : Int32) ≤ nI i from (n_le (a := 6) (by omega) (by omega)).mpr (by omega))]
  | succ m ih =>
    intro i n X h1 h2 h3
    obtain ⟨n', rfl⟩ : ∃ n', n = n' + 1 := ⟨n - 1, by omega⟩
    have r1 : ∀ j k, zR (zwR X (a0 + 5) i (zR X (a1 + 5) i)) j k = if j = a0 + 5 ∧ k = i then zR X (a1 + 5) i else zR X j k := fun j k => qRR _ _ _ _ _ _
    obtain ⟨Y, g1, g2, g3, g4, g5⟩ := ih (i + 1) n' (zwR X (a0 + 5) i (zR X (a1 + 5) i)) (by omega) (by omega) (fun t q ht hq => by
      rw [r1, if_neg (by omega)] at hq
      exact h3 t q ht hq)
    refine ⟨Y, ?_, g2, g3, g4, fun j k => ?_⟩
    · rw [← g1]
      obtain ⟨K, eK⟩ : ∃ K, K = f_Ps_copyFrom_134 fu a0 a1 n' := ⟨_, rfl⟩
      rw [← eK]
      unfold f_Ps_copyFrom_134
      rw [if_neg (show ¬ (6 : Int32) ≤ nI i from fun h => absurd ((n_le (a := 6) (by omega) (by omega)).mp h) (by omega)), n_gd (by omega) (by omega), n_gd (by omega) (by omega), q_cl (by omega), n_1, ← eK]
      cases hq : zR X (a1 + 5) i with
      | none => rfl
      | some q =>
        unfold zgt
        dsimp only
        rw [if_pos (h3 i q (by omega) hq)]
    · rw [g5, r1, r1]
      by_cases c : j = a0 + 5 ∧ i + 1 ≤ k ∧ k < 6
      · rw [if_pos c, if_neg (by omega), if_pos (by omega)]
      · rw [if_neg c]
        by_cases c2 : j = a0 + 5 ∧ k = i
        · rw [if_pos c2, if_pos (by omega), c2.2]
        · rw [if_neg c2, if_neg (by omega)]
/-- which cells a copied parish takes over -/
def cpC (a0 : Nat) (j k : Nat) : Prop := (((((((((((False ∨ (j = a0 ∧ k = 0)) ∨ (j = a0 + 1 ∧ k < 9)) ∨ (j = a0 + 2 ∧ k < 36)) ∨ (j = a0 ∧ k = 5)) ∨ (j = a0 ∧ k = 6)) ∨ (j = a0 ∧ k = 7)) ∨ (j = a0 ∧ k = 8)) ∨ (j = a0 ∧ k = 9)) ∨ (j = a0 + 3 ∧ k < 6)) ∨ (j = a0 + 4 ∧ k < 6)) ∨ (j = a0 ∧ k = 12)) ∨ (j = a0 ∧ k = 14)
theorem copy_ok (fu : Nat) (hfu : 100 ≤ fu) {S : zSt} {a0 a1 : Nat} (hd : a1 + 5 < a0 ∨ a0 + 5 < a1) (hn : ∀ t q, t < 6 → zR S (a1 + 5) t = some q → zK q = 10 ∧ q < zN S) : ∃ Y, f_Ps_copyFrom fu a0 a1 S = some Y ∧ cpI S Y a0 a1 (cpC a0) ∧ (∀ j k, zL Y j k = if j = a0 ∧ (k = 3 ∨ k = 4) then zL S a1 k else zL S j k) ∧ (∀ j k, zR Y j k = if j = a0 + 5 ∧ k < 6 then zR S (a1 + 5) k else zR S j k) ∧ Y.2.2.2 = S.2.2.2 := by
  have hd' : a1 + 4 < a0 ∨ a0 + 4 < a1 := by omega
  unfold f_Ps_copyFrom
  have c0 : cpI S S a0 a1 (fun _ _ => False) := fun j k => ⟨fun h => h.elim, fun _ => rfl⟩
  have c1 := cpI_w c0 hd' 0
  obtain ⟨S1, e1⟩ : ∃ S1, S1 = zwI S a0 0 (zI S a1 0) := ⟨_, rfl⟩
  rw [← e1] at c1 ⊢
  have c2 := cpI_c c1 hd' (d := 1) (by omega) 9
  obtain ⟨S2, e2⟩ : ∃ S2, S2 = zcpI S1 (a1 + 1) (a0 + 1) 9 := ⟨_, rfl⟩
  rw [← e2] at c2 ⊢
  have c3 := cpI_c c2 hd' (d := 2) (by omega) 36
  obtain ⟨S3, e3⟩ : ∃ S3, S3 = zcpI S2 (a1 + 2) (a0 + 2) 36 := ⟨_, rfl⟩
  rw [← e3] at c3 ⊢
  have c4 := cpI_L c3 a0 3 (zL S3 a1 3)
  obtain ⟨S4, e4⟩ : ∃ S4, S4 = zwL S3 a0 3 (zL S3 a1 3) := ⟨_, rfl⟩
  rw [← e4] at c4 ⊢
  have c5 := cpI_L c4 a0 4 (zL S4 a1 4)
  obtain ⟨S5, e5⟩ : ∃ S5, S5 = zwL S4 a0 4 (zL S4 a1 4) := ⟨_, rfl⟩
  rw [← e5] at c5 ⊢
  have c6 := cpI_w c5 hd' 5
  obtain ⟨S6, e6⟩ : ∃ S6, S6 = zwI S5 a0 5 (zI S5 a1 5) := ⟨_, rfl⟩
  rw [← e6] at c6 ⊢
  have c7 := cpI_w c6 hd' 6
  obtain ⟨S7, e7⟩ : ∃ S7, S7 = zwI S6 a0 6 (zI S6 a1 6) := ⟨_, rfl⟩
  rw [← e7] at c7 ⊢
  have c8 := cpI_w c7 hd' 7
  obtain ⟨S8, e8⟩ : ∃ S8, S8 = zwI S7 a0 7 (zI S7 a1 7) := ⟨_, rfl⟩
  rw [← e8] at c8 ⊢
  have c9 := cpI_w c8 hd' 8
  obtain ⟨S9, e9⟩ : ∃ S9, S9 = zwI S8 a0 8 (zI S8 a1 8) := ⟨_, rfl⟩
  rw [← e9] at c9 ⊢
  have c10 := cpI_w c9 hd' 9
  obtain ⟨S10, e10⟩ : ∃ S10, S10 = zwI S9 a0 9 (zI S9 a1 9) := ⟨_, rfl⟩
  rw [← e10] at c10 ⊢
  have c11 := cpI_c c10 hd' (d := 3) (by omega) 6
  obtain ⟨S11, e11⟩ : ∃ S11, S11 = zcpI S10 (a1 + 3) (a0 + 3) 6 := ⟨_, rfl⟩
  rw [← e11] at c11 ⊢
  have c12 := cpI_c c11 hd' (d := 4) (by omega) 6
  obtain ⟨S12, e12⟩ : ∃ S12, S12 = zcpI S11 (a1 + 4) (a0 + 4) 6 := ⟨_, rfl⟩
  rw [← e12] at c12 ⊢
  have c13 := cpI_w c12 hd' 12
  obtain ⟨S13, e13⟩ : ∃ S13, S13 = zwI S12 a0 12 (zI S12 a1 12) := ⟨_, rfl⟩
  rw [← e13] at c13 ⊢
  have L3 : zL S3 = zL S := by rw [e3, e2, e1]; rfl
  have L13 : ∀ j k, zL S13 j k = if j = a0 ∧ (k = 3 ∨ k = 4) then zL S a1 k else zL S j k := fun j k => by
    have : zL S13 = zL S5 := by rw [e13, e12, e11, e10, e9, e8, e7, e6]; rfl
    have h4 : zL S4 a1 4 = zL S a1 4 := by rw [e4, qLL, if_neg (by omega), L3]
    rw [this, e5, qLL, h4, e4, qLL, L3]
    by_cases x1 : j = a0 ∧ k = 4
    · rw [if_pos x1, if_pos ⟨x1.1, Or.inr x1.2⟩, x1.2]
    · rw [if_neg x1]
      by_cases x2 : j = a0 ∧ k = 3
      · rw [if_pos x2, if_pos ⟨x2.1, Or.inl x2.2⟩, x2.2]
      · rw [if_neg x2, if_neg (by omega)]
  have R13 : S13.2.2 = S.2.2 := by rw [e13, e12, e11, e10, e9, e8, e7, e6, e5, e4, e3, e2, e1]; rfl
  have Rr : zR S13 = zR S := by unfold zR; rw [R13]
  have Nr : zN S13 = zN S := by unfold zN; rw [R13]
  obtain ⟨Y, y1, y2, y3, y4, y5⟩ := copy_134 fu a0 a1 (by omega) 6 0 fu S13 (by omega) (by omega) (fun t q ht hq => by rw [Nr]; rw [Rr] at hq; exact hn t q ht hq)
  have cY : cpI S Y a0 a1 _ := fun j k => by
    have e : zI Y j k = zI S13 j k := by unfold zI; rw [y2]
    rw [e]; exact c13 j k
  have c14 := cpI_w cY hd' 14
  refine ⟨zwI Y a0 14 (zI Y a1 14), ?_, c14, fun j k => ?_, fun j k => ?_, ?_⟩
  · exact y1
  · show Y.2.1 j k = _
    rw [y3]; exact L13 j k
  · show zR Y j k = _
    rw [y5, Rr]
    by_cases x : j = a0 + 5 ∧ k < 6
    · rw [if_pos x, if_pos ⟨x.1, Nat.zero_le _, x.2⟩]
    · rw [if_neg x, if_neg (by omega)]
  · show Y.2.2.2 = S.2.2.2
    rw [y4, R13]
theorem cRep_copy {S Y : zSt} {a0 a1 : Nat} {P : zP} (hP : pOK P) (h : cRep S a1 P) (hc : cpI S Y a0 a1 (cpC a0)) (ha : a0 + 5 < 98) (hL : ∀ j k, zL Y j k = if j = a0 ∧ (k = 3 ∨ k = 4) then zL S a1 k else zL S j k) (hR : ∀ j k, zR Y j k = if j = a0 + 5 ∧ k < 6 then zR S (a1 + 5) k else zR S j k) (h2 : Y.2.2.2 = S.2.2.2) : cRep Y a0 P := by
  have h9 := hP.1
  have p13 := hP.2.2.2.2.2.2.2.2.2.2.2.2.1
  have p15 := hP.2.2.2.2.2.2.2.2.2.2.2.2.2.2.1
  have I0 : ∀ k, (k = 0 ∨ (5 ≤ k ∧ k ≤ 9) ∨ k = 12 ∨ k = 14) → zI Y a0 k = zI S a1 k := fun k hk => by
    have := ((hc a0 k).1 (by unfold cpC; omega)).2.2
    rw [Nat.sub_self, Nat.zero_add] at this
    exact this
  have Id : ∀ d k, d ≤ 4 → cpC a0 (a0 + d) k → zI Y (a0 + d) k = zI S (a1 + d) k := fun d k _ hk => by
    have := ((hc (a0 + d) k).1 hk).2.2
    rw [show a0 + d - a0 + a1 = a1 + d by omega] at this
    exact this
  have I98 : ∀ j, 98 ≤ j → zI Y j = zI S j := fun j hj => by
    funext k
    exact (hc j k).2 (fun c => by have := (hc j k).1 c; omega)
  obtain ⟨g1, g2, g3, g4, g5, g6, g7, g8, g9, g10, g11, g12, g13, g14, g15⟩ := h
  refine ⟨?_, fun s hs => ?_, fun a b ha hb hab => ?_, fun s hs => ?_, fun a b ha hb hab => ?_, fun p hp => ?_, ?_, ?_, ?_, ?_, ?_, fun i x hx => ?_, ?_, fun t cls ht => ?_, ?_⟩
  · rw [I0 0 (by omega)]; exact g1
  · rw [Id 1 s (by omega) (by unfold cpC; omega)]; exact g2 s hs
  · have := pq_c a ha b hb hab
    rw [Id 2 _ (by omega) (by unfold cpC; omega)]; exact g3 a b ha hb hab
  · rw [hL, if_pos ⟨rfl, Or.inl rfl⟩]; exact g4 s hs
  · rw [hL, if_pos ⟨rfl, Or.inr rfl⟩]; exact g5 a b ha hb hab
  · rw [hL, if_pos ⟨rfl, Or.inr rfl⟩]; exact g6 p hp
  · rw [I0 5 (by omega)]; exact g7
  · rw [I0 6 (by omega)]; exact g8
  · rw [I0 7 (by omega)]; exact g9
  · rw [I0 8 (by omega)]; exact g10
  · rw [I0 9 (by omega)]; exact g11
  · have hi : i < (pHd P).length := (List.getElem?_eq_some_iff.mp hx).1
    rw [Id 3 _ (by omega) (by unfold cpC; omega), Id 4 _ (by omega) (by unfold cpC; omega)]; exact g12 i x hx
  · rw [I0 12 (by omega)]; exact g13
  · have ht6 : t < (pLw P).length := (List.getElem?_eq_some_iff.mp ht).1
    obtain ⟨q, q1, q2, q3, q4, q5⟩ := g14 t cls ht
    refine ⟨q, by rw [hR, if_pos ⟨rfl, by omega⟩]; exact q1, q2, q3, ?_, zTx_f q5 (fun j a b => I98 j (by omega)) (by unfold zA; rw [h2])⟩
    unfold zN; rw [h2]; exact q4
  · rw [I0 14 (by omega)]; exact g15

/-! orders: both ahead of the first clause -/
/-- the class's rows ahead of the first clause -/
def orX (S X : zSt) : Prop := zA X = zA S ∧ zN X = zN S ∧ (∀ j k, zR X j k = if j = 12 ∧ k < 6 then zR S 6 k else zR S j k) ∧
  (∀ j k, ¬ (j = 0 ∧ (k = 17 ∨ k = 18)) → ¬ (7 ≤ j ∧ j ≤ 11) → ¬ (38 ≤ j ∧ j ≤ 41) → j ≠ 44 → ¬ (46 ≤ j ∧ j ≤ 51) → zI X j k = zI S j k) ∧ zI X 0 17 = -1 ∧ zI X 0 18 = -1 ∧ zI X 44 1 = 0 ∧
  (∀ j k, j ≠ 7 → j ≠ 42 → j ≠ 43 → zL X j k = zL S j k) ∧ (∀ k, k < 2 → zI X 38 k = zI S 32 k) ∧ (∀ d k, 1 ≤ d → d ≤ 3 → k < 16 → zI X (38 + d) k = zI S (32 + d) k) ∧ ∀ d k, 4 ≤ d → d ≤ 5 → k < 16 → zL X (38 + d) k = zL S (32 + d) k
theorem or_class {S : zSt} (fu : Nat) (hfu : 1000 ≤ fu) {P : zP} (hP : pOK P) (hc : cRep S 1 P) {es : List (Nat × zMv)} (hj : jC S P es) (hs : iSt S) {cls : List lC} {S4 : zSt} (e4 : f_Re_faultIn fu (b2 true) (zwI S 0 18 (-1)) = some (-1, S4)) (F4 : zFF (zwI S 0 18 (-1)) S4) (hTx : zTx S4 47 23 (cls.map xcO)) : ∃ X, orX S X ∧ cIn X P cls (pMv P) es ∧ cRep X 7 P ∧
    f_E_orders fu S = zb2 (f_E_run fu X) (fun r10 S11 => if r10 = -1 then zb1 (f_Ps_copyFrom fu 1 7 S11) (fun S17 => zb1 (f_Jo_copyFrom 32 38 S17) (fun S19 => zb2 (f_E_refused (-3) S19) (fun r21 S22 => some (r21, S22)))) else zb2 (f_E_granted r10 S11) (fun r14 S15 => some (r14, S15))) := by
  obtain ⟨Sa, eSa⟩ : ∃ Sa, Sa = zwI S 0 18 (-1) := ⟨_, rfl⟩
  rw [← eSa] at e4 F4
  obtain ⟨X0, eX⟩ : ∃ X0, X0 = zwI (zwI S4 0 17 (-1)) 44 1 0 := ⟨_, rfl⟩
  have a4 : ∀ j k, j ≠ 44 → ¬ (46 ≤ j ∧ j ≤ 51) → zI S4 j k = zI Sa j k := fun j k a b => F4.2.1 j k a (by omega) (by omega) (by omega) (by omega) (by omega) (by omega)
  have h2 : X0.2 = S.2 := by rw [eX]; show S4.2 = S.2; rw [F4.1, eSa]; rfl
  have x0 : ∀ j k, ¬ (j = 0 ∧ (k = 17 ∨ k = 18)) → j ≠ 44 → ¬ (46 ≤ j ∧ j ≤ 51) → zI X0 j k = zI S j k := fun j k a b c => by
    rw [eX, qIIo _ _ (by omega), qIIo _ _ (by omega), a4 j k b c, eSa, qIIo _ _ (by omega)]
  have x047 : ∀ j, 46 ≤ j ∧ j ≤ 51 → zI X0 j = zI S4 j := fun j hj => funext fun k => by rw [eX, qIIo _ _ (by omega), qIIo _ _ (by omega)]
  have x017 : zI X0 0 17 = -1 := by rw [eX, qIIo _ _ (by omega), qIIs]
  have x018 : zI X0 0 18 = -1 := by rw [eX, qIIo _ _ (by omega), qIIo _ _ (by omega), a4 0 18 (by omega) (by omega), eSa, qIIs]
  have x044 : zI X0 44 1 = 0 := by rw [eX, qIIs]
  have r0 : zR X0 = zR S := by unfold zR; rw [h2]
  have l0 : zL X0 = zL S := by unfold zL; rw [h2]
  have n0 : zN X0 = zN S := by unfold zN; rw [h2]
  have A0 : zA X0 = zA S := by unfold zA; rw [h2]
  have hc0 : cRep X0 1 P := cRep_f hc (fun j a b => funext fun k => x0 j k (by omega) (by omega) (by omega)) (by rw [l0]) (by rw [r0]) (by rw [n0]; exact Nat.le_refl _) (fun j a b => ⟨funext fun k => x0 j k (by omega) (by omega) (by omega), by rw [A0]⟩)
  obtain ⟨Y, y1, y2, y3, y4, y5⟩ := copy_ok fu (by omega) (S := X0) (a0 := 7) (a1 := 1) (by omega) (fun t q ht hq => by
    rw [n0]
    rw [r0] at hq
    exact hs.2.2.2.2.2.2.2.2 1 (Or.inl rfl) t q ht hq)
  have YI : ∀ j c, j < 7 ∨ 11 < j → zI Y j c = zI X0 j c := fun j c hj => (y2 j c).2 (fun x => by have := (y2 j c).1 x; omega)
  have hcY : cRep Y 7 P := cRep_copy hP hc0 y2 (by omega) y3 y4 y5
  have yN : zN Y = zN X0 := by unfold zN; rw [y5]
  have yA : zA Y = zA X0 := by unfold zA; rw [y5]
  obtain ⟨X, x1, x2, x3, x4, x5, x6, x7⟩ := jo_copy (S := Y) (a0 := 38) (a1 := 32) (by omega)
  have XR : zR X = zR Y := by unfold zR; rw [x2]
  have XN : zN X = zN Y := by unfold zN; rw [x2]
  have XA : zA X = zA Y := by unfold zA; rw [x2]
  have XI : ∀ j k, ¬ (7 ≤ j ∧ j ≤ 11) → ¬ (38 ≤ j ∧ j ≤ 41) → zI X j k = zI X0 j k := fun j k a b => by rw [x3 j k (by omega), YI j k (by omega)]
  have XL : ∀ j k, j ≠ 7 → j ≠ 42 → j ≠ 43 → zL X j k = zL S j k := fun j k a b c => by rw [x6 j k (by omega), y3, if_neg (by omega), l0]
  have XRR : ∀ j k, zR X j k = if j = 12 ∧ k < 6 then zR S 6 k else zR S j k := fun j k => by rw [XR, y4, r0]
  refine ⟨X, ⟨by rw [XA, yA, A0], by rw [XN, yN, n0], XRR, fun j k a b c d e => by rw [XI j k b c, x0 j k a d e], by rw [XI 0 17 (by omega) (by omega)]; exact x017, by rw [XI 0 18 (by omega) (by omega)]; exact x018, by rw [XI 44 1 (by omega) (by omega)]; exact x044, XL, fun k hk => ?_, fun d k a b c => ?_, fun d k a b c => ?_⟩, ⟨?_, ⟨?_, ?_, fun k hk => ?_, ?_⟩, ?_⟩, ?_, ?_⟩
  · rw [x4 k hk, YI 32 k (by omega), x0 32 k (by omega) (by omega) (by omega)]
  · rw [x5 d k a b c, YI _ k (by omega), x0 _ k (by omega) (by omega) (by omega)]
  · rw [x7 d k a b c, y3, if_neg (by omega), l0]
  · exact cRep_f hc (fun j a b => funext fun k => by rw [XI j k (by omega) (by omega), x0 j k (by omega) (by omega) (by omega)]) (funext fun k => XL 1 k (by omega) (by omega) (by omega)) (funext fun k => by rw [XRR, if_neg (by omega)]) (by rw [XN, yN, n0]; exact Nat.le_refl _) (fun j a b => ⟨funext fun k => by rw [XI j k (by omega) (by omega), x0 j k (by omega) (by omega) (by omega)], by rw [XA, yA, A0]⟩)
  · exact zTx_f hTx (fun j a b => (funext fun k => XI j k (by omega) (by omega) : zI X j = zI X0 j).trans (x047 j (by omega))) (by rw [XA, yA, A0, show zA S4 = zA S by unfold zA; rw [F4.1, eSa]; rfl])
  · rw [XA, yA, A0]; exact za_69 hs.2.2.1
  · rw [XI 69 k (by omega) (by omega), x0 69 k (by omega) (by omega) (by omega)]; exact hs.2.2.2.2.1 k hk
  · exact ⟨by rw [XA, yA, A0]; exact hs.1.1, fun k hk => by rw [XI 54 k (by omega) (by omega), x0 54 k (by omega) (by omega) (by omega)]; exact hs.1.2 k hk⟩
  · exact jC_f hj (fun j a b => funext fun k => by rw [XI j k (by omega) (by omega), x0 j k (by omega) (by omega) (by omega)]) (fun j a => funext fun k => XL j k (by omega) (by omega) (by omega))
  · exact cRep_f hcY (fun j a b => funext fun k => x3 j k (by omega)) (funext fun k => x6 7 k (by omega)) (by rw [XR]) (by rw [XN]; exact Nat.le_refl _) (fun j a b => ⟨funext fun k => x3 j k (by omega), by rw [XA]⟩)
  · have e4' : f_Re_faultIn fu 1 Sa = some (-1, S4) := e4
    unfold f_E_orders
    rw [← eSa, qb2 e4', ← eX, if_pos x017, qb1 y1, qb1 x1]
/-- the reference's rows ahead of the first clause -/
def orY (S Y : zSt) : Prop := Y.2 = S.2 ∧ (∀ j k, ¬ (j = 72 ∧ ((8 ≤ k ∧ k ≤ 21) ∨ k = 27 ∨ k = 28 ∨ k = 41 ∨ k = 42)) → ¬ (j = 74 ∧ (k = 206 ∨ 2607 ≤ k)) → j ≠ 77 → ¬ (81 ≤ j ∧ j ≤ 83) → j ≠ 87 → zI Y j k = zI S j k) ∧ (∀ k, k < 5407 → k ≠ 206 → ¬ (2607 ≤ k ∧ k < 3007) → zI Y 74 k = zI S 74 k) ∧ zI Y 72 41 = -1 ∧ zI Y 72 14 = -1 ∧ zI Y 72 13 = 0 ∧ (∀ k, k < 92 → zI Y 77 (92 + k) = zI S 74 k) ∧ ∀ k, k < 1488 → zI Y 87 k = zI S 86 k
theorem mRep_or {S Y : zSt} {P : zP} (hP : pOK P) (h : mRep S 74 0 P) (hY : ∀ k, k < 5407 → k ≠ 206 → ¬ (2607 ≤ k ∧ k < 3007) → zI Y 74 k = zI S 74 k) : mRep Y 74 0 P := by
  obtain ⟨p1, p2, p3, p4, p5, p6, p7, p8, p9, p10, p11, p12, p13, p14, p15, p16⟩ := id hP
  obtain ⟨q1, q2, q3, q4, q5, q6, q7, q8, q9, q10, q11, q12, q13, q14⟩ := h
  refine ⟨?_, fun s hs => ?_, fun a c ha hc hac => ?_, fun s hs => ?_, fun a c ha hc hac => ?_, ?_, ?_, ?_, ?_, ?_, fun i x hx => ?_, ?_, fun t cl ht => ?_, ?_⟩
  · rw [hY _ (by omega) (by omega) (by omega)]; exact q1
  · rw [hY _ (by omega) (by omega) (by omega)]; exact q2 s hs
  · rw [hY _ (by omega) (by omega) (by omega)]; exact q3 a c ha hc hac
  · rw [hY _ (by omega) (by omega) (by omega)]; exact q4 s hs
  · rw [hY _ (by omega) (by omega) (by omega)]; exact q5 a c ha hc hac
  · rw [hY _ (by omega) (by omega) (by omega)]; exact q6
  · rw [hY _ (by omega) (by omega) (by omega)]; exact q7
  · rw [hY _ (by omega) (by omega) (by omega)]; exact q8
  · rw [hY _ (by omega) (by omega) (by omega)]; exact q9
  · rw [hY _ (by omega) (by omega) (by omega)]; exact q10
  · have hi' := (List.getElem?_eq_some_iff.mp hx).1
    rw [hY _ (by omega) (by omega) (by omega), hY _ (by omega) (by omega) (by omega)]; exact q11 i x hx
  · rw [hY _ (by omega) (by omega) (by omega)]; exact q12
  · have ht6 := (List.getElem?_eq_some_iff.mp ht).1
    obtain ⟨C, V, M, n, y1, y2, y3, y4, y5, y6, y7⟩ := q13 t cl ht
    refine ⟨C, V, M, n, y1, y2, ?_, fun k hk => ?_, y5, y6, y7⟩
    · rw [hY _ (by omega) (by omega) (by omega)]; exact y3
    · rw [hY _ (by omega) (by omega) (by omega), hY _ (by omega) (by omega) (by omega)]; exact y4 k hk
  · rw [hY _ (by omega) (by omega) (by omega)]; exact q14
theorem or_ref {S : zSt} (fu : Nat) (hfu : 10000 ≤ fu) {P : zP} (hP : pOK P) (hm : mRep S 74 0 P) {es : List (Nat × zMv)} (hj : jM S P es) (hW : zW8 S) {B : Nat → Int32} (hB : ∀ k, zI S 79 k = B k) {T N : Nat} {cls : List lC} (hT : T ≤ 400) (h13 : zI S 72 13 = nI T) (hN : tNo B T N) (hN4 : N ≤ 400) (hR : ltx true (tC B T) (tV B T) 401 N 12 0 0 [] = .inr cls) : ∃ Y, orY S Y ∧ mIn Y P 2400 N (tC B T) (tV B T) 0 (pMv P) es 0 (-1) ∧ f_M_orders fu S = f_M_orders_96 fu fu (nI es.length) (nI (2400 + N)) 0 Y := by
  obtain ⟨Sb, eSb⟩ : ∃ Sb, Sb = zwI S 72 41 (-1) := ⟨_, rfl⟩
  have ob : ∀ j, j ≠ 72 → zI Sb j = zI S j := fun j hj => funext fun k => by rw [eSb, qIIo _ _ (by omega)]
  have hMt : zMt Sb B T := ⟨fun k _ => by rw [ob 79 (by omega)]; exact hB k, hT, by
    unfold zW8
    rw [ob 78 (by omega)]
    exact hW⟩
  obtain ⟨N', r', S5, e5, F5, hN', g13, g18, gMS, gE⟩ := reads_is fu (by omega) (n := 401) (Nat.le_refl _) true hMt (by rw [eSb, qIIo _ _ (by omega)]; exact h13)
  have eN := tNo_1 hN' hN
  subst eN
  rw [hR] at gE
  obtain ⟨gr, g14⟩ := gE
  obtain ⟨S6, a1, a2, a3⟩ := la_2 fu (t := 1) (by omega) 92 0 fu S5 (by omega) (by omega)
  obtain ⟨S7, b1, b2', b3⟩ := o27_is fu 1488 0 fu S6 (by omega) (by omega)
  have g18' : zI S7 72 18 = nI N' := by rw [b2'.2 72 18 (by omega), a2.2 72 18 (by omega)]; exact g18
  obtain ⟨S8, l1, l2, l3, l4, l5, l6⟩ := m_lays fu (by omega) hN4 (t := 6) (by omega) g18'
  obtain ⟨Y, eY⟩ : ∃ Y, Y = zwI (zwI (zwI S8 72 27 0) 72 28 (-1)) 72 42 2400 := ⟨_, rfl⟩
  have s5 : ∀ j k, ¬ (j = 72 ∧ ((8 ≤ k ∧ k ≤ 21) ∨ k = 41)) → ¬ (81 ≤ j ∧ j ≤ 83) → zI S5 j k = zI S j k := fun j k a b => by
    rw [F5.2 j k (by omega) (by omega) (by omega) (by omega), eSb, qIIo _ _ (by omega)]
  have s7 : ∀ j k, j ≠ 77 → j ≠ 87 → zI S7 j k = zI S5 j k := fun j k a b => by rw [b2'.2 j k b, a2.2 j k a]
  have y8 : ∀ j k, ¬ (j = 72 ∧ (k = 27 ∨ k = 28 ∨ k = 42)) → zI Y j k = zI S8 j k := fun j k a => by rw [eY, qIIo _ _ (by omega), qIIo _ _ (by omega), qIIo _ _ (by omega)]
  have y74 : ∀ k, k < 5407 → k ≠ 206 → ¬ (2607 ≤ k ∧ k < 3007) → zI Y 74 k = zI S 74 k := fun k a b c => by
    rw [y8 74 k (by omega), l4 k (by omega) (by omega) (by omega), s7 74 k (by omega) (by omega), s5 74 k (by omega) (by omega)]
  have y4b : ∀ k, k < N' → zI Y 74 (207 + (2400 + k)) = tC B T k ∧ vR (zI Y 74 (3007 + (2400 + k))) (tV B T k) := fun k hk => by
    obtain ⟨w1, w2⟩ := l6 k hk
    obtain ⟨m1, m2, m3, m4, m5⟩ := gMS
    rw [y8 74 _ (by omega), y8 74 _ (by omega), show 207 + (2400 + k) = 207 + 400 * 6 + k by omega, show 3007 + (2400 + k) = 3007 + 400 * 6 + k by omega, w1, w2, s7 81 k (by omega) (by omega), s7 82 k (by omega) (by omega)]
    exact ⟨(m4 k (by omega)).1, m5 k hk⟩
  have ymm : mRep Y 74 0 P := mRep_or hP hm y74
  have yj86 : zI Y 86 = zI S 86 := funext fun k => by rw [y8 86 k (by omega), l3 86 k (by omega), s7 86 k (by omega) (by omega), s5 86 k (by omega) (by omega)]
  have y72 : ∀ k, ¬ ((8 ≤ k ∧ k ≤ 21) ∨ k = 27 ∨ k = 28 ∨ k = 41 ∨ k = 42) → zI Y 72 k = zI S 72 k := fun k hk => by rw [y8 72 k (by omega), l3 72 k (by omega), s7 72 k (by omega) (by omega), s5 72 k (by omega) (by omega)]
  have yj : jM Y P es := jM_f hj yj86 (y72 32 (by omega))
  refine ⟨Y, ⟨?_, fun j k a b c d e => ?_, y74, ?_, ?_, ?_, fun k hk => ?_, fun k hk => ?_⟩, ⟨ymm, yj, ⟨rfl, hN4, y4b, fun k hk => tC_end hN hk, tV_0 _ _⟩, ?_, ?_, ?_⟩, ?_⟩
  · rw [eY]
    show S8.2 = S.2
    rw [l2, b2'.1, a2.1, F5.1, eSb]
    rfl
  · by_cases hj : j = 74
    · rw [hj] at b ⊢
      exact y74 k (by omega) (by omega) (by omega)
    · rw [y8 j k (by omega), l3 j k hj, s7 j k c e, s5 j k (by omega) d]
  · rw [y8 72 41 (by omega), l3 72 41 (by omega), s7 72 41 (by omega) (by omega), F5.2 72 41 (by omega) (by omega) (by omega) (by omega), eSb, qIIs]
  · rw [y8 72 14 (by omega), l3 72 14 (by omega), s7 72 14 (by omega) (by omega)]; exact g14
  · rw [y8 72 13 (by omega), l3 72 13 (by omega), s7 72 13 (by omega) (by omega)]; exact g13
  · rw [y8 77 _ (by omega), l3 77 _ (by omega), b2'.2 77 _ (by omega), a3, if_pos (by omega), show 92 + k - 92 * 1 = k by omega, s5 74 k (by omega) (by omega)]
  · rw [y8 87 _ (by omega), l3 87 _ (by omega), b3, if_pos (by omega), a2.2 86 k (by omega), s5 86 k (by omega) (by omega)]
  · rw [eY, qIIo _ _ (by omega), qIIo _ _ (by omega), qIIs]; rfl
  · rw [eY, qIIo _ _ (by omega), qIIs]
  · rw [eY, qIIs]; rfl
  · have e5' : f_M_readsAs fu 1 Sb = some (1, S5) := by rw [gr] at e5; exact e5
    have a1' : f_M_laysAside fu 1 S5 = some S6 := a1
    have b1' : f_M_orders_27 fu fu 0 S6 = f_M_orders_52 fu S7 := b1
    have l1' : f_M_lays fu 6 S7 = some S8 := l1
    unfold f_M_orders
    rw [← eSb, qb2 e5', if_neg (by decide), qb1 a1', b1']
    unfold f_M_orders_52
    have e32 : zI S7 72 32 = nI es.length := by
      have := yj.1
      rw [y8 72 32 (by omega), l3 72 32 (by omega)] at this
      exact this
    have e206 : zI Y 74 206 = nI N' := by rw [y8 74 206 (by omega)]; exact l5
    have e42 : zI Y 72 42 = 2400 := by rw [eY, qIIs]
    rw [qb1 l1', e32, ← eY, show (206 : Int32).toNatClampNeg = 206 from rfl, e206, e42, show (2400 : Int32) + nI N' = nI (2400 + N') from n_add 2400 N']

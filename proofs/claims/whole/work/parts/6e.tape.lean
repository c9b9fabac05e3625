/-! compare; the tape: end, feed, row -/
theorem pa_soon_any {S : zSt} {P : zP} (hP : pOK P) {law : List lC} (h : zPp S P law) (a b : Int32) : (∃ x y, x < pN P ∧ y < pN P ∧ a = nI x ∧ b = nI y ∧ f_Pa_soonest a b S = some (pSo (pD P law) x y)) ∨ (((∀ s, s < pN P → a ≠ nI s) ∨ ∀ s, s < pN P → b ≠ nI s) ∧ f_Pa_soonest a b S = some (-1)) := by
  rcases spr_or P a with ⟨x, hx, rfl⟩ | ha
  · rcases spr_or P b with ⟨y, hy, rfl⟩ | hb
    · exact Or.inl ⟨x, y, hx, hy, rfl, rfl, pa_soon hP h hx hy⟩
    · exact Or.inr ⟨Or.inr hb, pa_soon_no hP h.1 (Or.inr hb)⟩
  · exact Or.inr ⟨Or.inl ha, pa_soon_no hP h.1 (Or.inl ha)⟩
theorem call_compare (fu : Nat) (hfu : 1000 ≤ fu) {S : zSt} (h : Inv S) (l a b : Int32) : cOk (f_E_compare fu l a b) (f_M_compare fu l a b) S := by
  obtain ⟨P, es, hP, hc, hm, hj, hi, ht, hms, hd, hs⟩ := id h
  rcases law_or P l with ⟨f, rfl, hf⟩ | ⟨hn1, hn⟩
  · obtain ⟨x, l1, l2, l3⟩ := law_of hc hP f hf
    have hG : lawG (pLawO P f) := m_lawG hm f hf
    obtain ⟨S1, e1, c1, z1⟩ := fill_is2 fu hfu hP (by omega : 1 < 39) hG l3 hc hs.1 l2
    have hm1 := mRep_co hm c1 (Or.inl rfl) hP
    have e18 : f_E_compare_18 fu (fcI f) a b S = zb1 (f_Pa_soonest a b S1) (fun r6 => some (r6, S1)) := by
      unfold f_E_compare_18
      rw [qb1 l1, qb1 e1]
    have E : f_E_compare fu (fcI f) a b S = zb1 (f_Pa_soonest a b S1) (fun r6 => some (r6, S1)) := by
      unfold f_E_compare
      cases f with
      | none => rw [if_pos (show fcI none = -1 from rfl)]; exact e18
      | some t =>
        have := hf t rfl
        have h6 := hP.2.2.2.2.2.2.2.2.2.2.2.2.2.2.1
        have n1 : ¬ fcI (some t) = -1 := nI_m1 (by omega)
        have hl : f_Ps_hasLaw 1 (fcI (some t)) S = some 1 := (hasLaw_is hc hP _).1 t this rfl
        rw [if_neg n1, qb1 hl, if_neg (by decide)]
        exact e18
    have M0 : ∀ S, mRep S 74 0 P → f_M_compare fu (fcI f) a b S = zb1 (f_M_isSpring a S) (fun r5 => if r5 = 0 then some ((-1 : Int32), S) else zb1 (f_M_isSpring b S) (fun r8 => if r8 = 0 then some ((-1 : Int32), S) else zb1 (f_M_laysSoon fu (zwI S 74 199 (fcI f))) (fun S11 => zb1 (f_M_soonOr a b (zwI S11 74 199 (zI S 74 199))) (fun r13 => some (r13, zwI S11 74 199 (zI S 74 199)))))) := by
      intro S hm
      unfold f_M_compare
      rw [qb1 ((isLaw_is hm hP _).1 f hf rfl), if_neg (by decide)]
      rfl
    rcases pa_soon_any hP z1 a b with ⟨x, y, hx, hy, rfl, rfl, es1⟩ | ⟨hn, es1⟩
    · obtain ⟨S2, e2, c2, z2⟩ := lays_soon fu (by omega) (pOK_force hP hf) (mRep_force hm1 hP f)
      have c3 : zCo S1 (zwI S2 74 199 (zI S1 74 199)) := by
        refine ⟨c2.1, fun j k hjk => ?_, c2.2.2⟩
        rw [qII]
        by_cases e : j = 74 ∧ k = 199
        · rw [if_pos e, e.1, e.2]
        · rw [if_neg e, c2.2.1 j k hjk, qIIo _ _ e]
      refine cOk_q h (v := pSo (pD P (pLawO P f)) x y) (by rw [E, qb1 es1]) c1 (S2 := zwI S2 74 199 (zI S1 74 199)) ?_ c3
      have z3 : mPp (zwI S2 74 199 (zI S1 74 199)) (pForce P f) := by
        have e89 : ∀ j, j ≠ 74 → zI (zwI S2 74 199 (zI S1 74 199)) j = zI S2 j := fun j hj => by funext k; exact qIIo _ _ (by omega)
        unfold mPp rowD
        rw [e89 90 (by omega), e89 89 (by omega)]
        exact z2
      have e3 : f_M_soonOr (nI x) (nI y) (zwI S2 74 199 (zI S1 74 199)) = some (pSo (pD P (pLawO P f)) x y) := m_soonOr (pOK_force hP hf) z3 hx hy
      rw [M0 S1 hm1, qb1 (m_spr_yes hm1 hP hx), if_neg (by decide), qb1 (m_spr_yes hm1 hP hy), if_neg (by decide), qb1 e2, qb1 e3]
    · refine cOk_q h (v := -1) (by rw [E, qb1 es1]) c1 ?_ (zCo_r S1)
      rw [M0 S1 hm1]
      rcases spr_or P a with ⟨x, hx, rfl⟩ | ha
      · rw [qb1 (m_spr_yes hm1 hP hx), if_neg (by decide)]
        rcases hn with h1 | h1
        · exact absurd rfl (h1 x hx)
        · rw [qb1 (m_spr_no hm1 hP h1), if_pos rfl]
      · rw [qb1 (m_spr_no hm1 hP ha), if_pos rfl]
  · refine cOk_0 h (v := -1) ?_ ?_
    · unfold f_E_compare
      rw [if_neg hn1, qb1 ((hasLaw_is hc hP l).2 hn), if_pos rfl]
    · unfold f_M_compare
      rw [qb1 ((isLaw_is hm hP l).2 ⟨hn1, hn⟩), if_pos rfl]
/-! what stays though the tape is written -/
def zUq (S S' : zSt) : Prop := S'.2.2 = S.2.2 ∧ (∀ j, (6 ≤ j ∧ j ≤ 31) ∨ j = 75 ∨ j = 76 ∨ j = 78 ∨ 97 ≤ j → zI S' j = zI S j) ∧ zI S' 72 49 = zI S 72 49 ∧ (∀ k, 7 ≤ k → zI S' 54 k = zI S 54 k) ∧ (∀ k, 23 ≤ k → zI S' 69 k = zI S 69 k) ∧ (∀ j, 2 ≤ j ∧ j ≤ 31 → zL S' j = zL S j)
theorem zUq_u {S S' : zSt} (h : zUp S S') : zUq S S' := ⟨h.1, fun j hj => h.2.1 j (by omega), h.2.2.2.2.1, h.2.2.2.2.2.1, h.2.2.2.2.2.2.1, h.2.2.2.2.2.2.2⟩
theorem zUq_t {S S' S'' : zSt} (h : zUq S S') (h2 : zUq S' S'') : zUq S S'' := by
  obtain ⟨a1, a2, a3, a4, a5, a6⟩ := h
  obtain ⟨b1, b2', b3, b4, b5, b6⟩ := h2
  exact ⟨b1.trans a1, fun j hj => (b2' j hj).trans (a2 j hj), b3.trans a3, fun k hk => (b4 k hk).trans (a4 k hk), fun k hk => (b5 k hk).trans (a5 k hk), fun j hj => (b6 j hj).trans (a6 j hj)⟩
theorem zUq_w (S : zSt) {j k : Nat} (v : Int32) (h : j < 6 ∨ (32 ≤ j ∧ j ≤ 45) ∨ (70 ≤ j ∧ j ≤ 74 ∧ ¬ (j = 72 ∧ k = 49)) ∨ j = 77 ∨ (79 ≤ j ∧ j ≤ 96)) : zUq S (zwI S j k v) := by
  refine ⟨rfl, fun j' hj => ?_, qIIo _ _ (by omega), fun k' hk => qIIo _ _ (by omega), fun k' hk => qIIo _ _ (by omega), fun _ _ => rfl⟩
  funext l
  exact qIIo _ _ (by omega)
theorem zUq_N {S S' : zSt} (h : zUq S S') : zN S' = zN S := by unfold zN; rw [h.1]
theorem zUq_A {S S' : zSt} (h : zUq S S') : zA S' = zA S := by unfold zA; rw [h.1]
theorem zUq_R {S S' : zSt} (h : zUq S S') : zR S' = zR S := by unfold zR; rw [h.1]
theorem iIm_uq {S S' : zSt} (h : iIm S) (hu : zUq S S') : iIm S' := by
  intro k hk
  rw [hu.2.1 (20 + 6 * k) (by omega), hu.2.1 76 (by omega)]
  rcases h k hk with h | ⟨h1, h2, P, h3, h4, h5⟩
  · exact Or.inl h
  · refine Or.inr ⟨h1, h2, P, h3, cRep_f h4 (fun j a b => hu.2.1 j (by omega)) (hu.2.2.2.2.2 _ (by omega)) (by rw [zUq_R hu]) (by rw [zUq_N hu]; exact Nat.le_refl _) (fun j a b => ⟨hu.2.1 j (by omega), by rw [zUq_A hu]⟩), mRep_f h5 (fun k _ => by rw [hu.2.1 75 (by omega)]) h3⟩
theorem iDr_uq {S S' : zSt} (h : iDr S) (hu : zUq S S') : iDr S' := by
  unfold iDr
  rw [hu.2.1 13 (by omega), hu.2.2.1, hu.2.2.2.2.2 13 (by omega), hu.2.1 97 (by omega)]
  exact h
theorem iSt_uq {S S' : zSt} (h : iSt S) (hu : zUq S S') : iSt S' := by
  obtain ⟨h1, h2, h3, h4, h5, h6, h7, h8⟩ := h
  refine ⟨⟨by rw [zUq_A hu]; exact h1.1, fun k hk => by rw [hu.2.2.2.1 k hk]; exact h1.2 k hk⟩, ?_, zSR_e h3 hu.1, by rw [zUq_A hu]; exact h4, fun k hk => by rw [hu.2.2.2.2.1 k hk]; exact h5 k hk, by rw [zUq_R hu]; exact h6, by rw [zUq_R hu]; exact h7, iNm_e h8 hu.1⟩
  unfold zW8
  rw [hu.2.1 78 (by omega)]
  exact h2
theorem cRep_uq {S S' : zSt} {P : zP} (h : cRep S 1 P) (hu : zUq S S') (hI : ∀ j, 1 ≤ j → j ≤ 5 → zI S' j = zI S j) (hL : zL S' 1 = zL S 1) : cRep S' 1 P := cRep_f h hI hL (by rw [zUq_R hu]) (by rw [zUq_N hu]; exact Nat.le_refl _) (fun j a b => ⟨hu.2.1 j (by omega), by rw [zUq_A hu]⟩)
theorem Inv_uq {S S' : zSt} {P : zP} {es : List (Nat × zMv)} (hi : iIm S) (hd : iDr S) (hs : iSt S) (hu : zUq S S') (hP : pOK P) (hc : cRep S' 1 P) (hm : mRep S' 74 0 P) (hj : jRel S' P es) (ht : iTp S') (hms : iMs S') : Inv S' := ⟨P, es, hP, hc, hm, hj, iIm_uq hi hu, ht, hms, iDr_uq hd hu, iSt_uq hs hu⟩
/-- only the tape is written -/
theorem Inv_tape {S S' : zSt} (h : Inv S) (hu : zUq S S') (hI : ∀ j, j < 44 ∨ j = 71 ∨ j = 73 ∨ j = 74 ∨ j = 86 → zI S' j = zI S j) (h72 : ∀ k, k ≠ 13 → zI S' 72 k = zI S 72 k) (hL : zL S' = zL S) (ht : iTp S') : Inv S' := by
  obtain ⟨P, es, hP, hc, hm, hj, hi, -, hms, hd, hs⟩ := h
  refine Inv_uq hi hd hs hu hP (cRep_uq hc hu (fun j _ b => hI j (by omega)) (by rw [hL])) (mRep_f hm (fun k _ => by rw [hI 74 (by omega)]) hP) (jRel_f hj (fun j a => hI j (by omega)) (h72 32 (by omega)) (fun j _ => by rw [hL])) ht ?_
  unfold iMs
  rw [hI 0 (by omega), hI 71 (by omega), hI 73 (by omega), h72 0 (by omega), h72 6 (by omega), h72 14 (by omega), h72 41 (by omega)]
  exact hms
theorem call_end {S : zSt} (h : Inv S) (a : Int32) : cOk (f_E_end a) (f_M_end a) S := by
  obtain ⟨P, es, hP, hc, hm, hj, hi, ht, hms, hd, hs⟩ := id h
  obtain ⟨T, t1, t2, t3, t4⟩ := ht
  rcases rng_or a 0 T with ⟨v, -, hv, rfl⟩ | ha
  · refine ⟨nI v, zwI S 44 1 (nI v), zwI (zwI S 44 1 (nI v)) 72 13 (nI v), ?_, ?_, ?_, Nat.le_refl _, Nat.le_add_right _ _⟩
    · unfold f_E_end
      rw [if_neg (n_neg (by omega)), t2, if_pos ((n_le (by omega) (by omega)).mpr hv)]
    · unfold f_M_end
      have e5 : f_M_lies (nI v) 0 (nI T) = some 1 := lies_yes (lo := 0) (by omega) hv (by omega)
      rw [qIIo _ _ (by omega), t3, qb1 e5, if_neg (by decide)]
    · refine Inv_tape h (zUq_t (zUq_w _ _ (by omega)) (zUq_w _ _ (by omega))) (fun j hj => ?_) (fun k hk => ?_) rfl ⟨v, by omega, ?_, qIIs _ _ _ _, fun k hk => ?_⟩
      · funext k; rw [qIIo _ _ (by omega), qIIo _ _ (by omega)]
      · rw [qIIo _ _ (by omega), qIIo _ _ (by omega)]
      · rw [qIIo _ _ (by omega), qIIs]
      · rw [qIIo _ _ (by omega), qIIo _ _ (by omega), qIIo _ _ (by omega), qIIo _ _ (by omega)]
        exact t4 k (by omega)
  · refine cOk_0 h (v := -1) ?_ ?_
    · unfold f_E_end
      rw [t2]
      rcases rng_no (by omega) ha with h1 | h1
      · rw [if_pos h1]
      · by_cases h2 : a < 0
        · rw [if_pos h2]
        · rw [if_neg h2, if_neg h1]
    · unfold f_M_end
      have e5 : f_M_lies a 0 (nI T) = some 0 := lies_no (lo := 0) (by omega) (by omega) ha
      rw [t3, qb1 e5, if_pos rfl]

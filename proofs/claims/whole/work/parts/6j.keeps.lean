/-! the reference keeps what was -/
def jE (P : zP) (r : Nat → Int32) (b : Nat) (e : Nat × zMv) : Prop := r b = nI e.2.1 ∧ (∀ s, s < pN P → r (b + (1 + s)) = e.2.2.2.1 s) ∧ (∀ x y, x < 9 → y < 9 → x ≠ y → r (b + (10 + (9 * x + y))) = b2 (e.2.2.2.2 x y)) ∧ r (b + 91) = nI e.2.2.1 ∧ r (b + 92) = nI e.1
theorem jE_f {P : zP} (h9 : pN P ≤ 9) {r r' : Nat → Int32} {b b' : Nat} {e : Nat × zMv} (h : jE P r b e) (hr : ∀ k, k < 93 → r' (b' + k) = r (b + k)) : jE P r' b' e := by
  obtain ⟨h1, h2, h3, h4, h5⟩ := h
  refine ⟨?_, fun s hs => ?_, fun x y hx hy hxy => ?_, ?_, ?_⟩
  · have := hr 0 (by omega)
    rw [Nat.add_zero, Nat.add_zero] at this
    rw [this]; exact h1
  · rw [hr _ (by omega)]; exact h2 s hs
  · rw [hr _ (by omega)]; exact h3 x y hx hy hxy
  · rw [hr _ (by omega)]; exact h4
  · rw [hr _ (by omega)]; exact h5
theorem jM_is {S : zSt} {P : zP} {es : List (Nat × zMv)} : jM S P es ↔ zI S 72 32 = nI es.length ∧ ∀ (i : Nat) (e : Nat × zMv), es[i]? = some e → jE P (zI S 86) (93 * (es.length - 1 - i)) e := Iff.rfl
theorem keeps_14 (fu : Nat) (a1 : Int32) : ∀ (m i n : Nat) (S : zSt), i + m = 1395 → m + 1 ≤ n → ∃ S1, f_M_keeps_14 fu n a1 93 (nI i) S = f_M_keeps_42 fu a1 93 S1 ∧ oR 86 S S1 ∧ ∀ k, zI S1 86 k = if i ≤ k ∧ k < 1395 then zI S 86 (k + 93) else zI S 86 k := by
  intro m
  induction m with
  | zero =>
    intro i n S h1 h2
    obtain ⟨n', rfl⟩ : ∃ n', n = n' + 1 := ⟨n - 1, by omega⟩
    refine ⟨S, ?_, oR_r _ S, fun k => by rw [if_neg (by omega)]⟩
    unfold f_M_keeps_14
    rw [show (15 : Int32) * 93 = nI 1395 from rfl, if_pos ((n_le (by omega) (by omega)).mpr (by omega))]
  | succ m ih =>
    intro i n S h1 h2
    obtain ⟨n', rfl⟩ : ∃ n', n = n' + 1 := ⟨n - 1, by omega⟩
    obtain ⟨S1, g1, g2, g3⟩ := ih (i + 1) n' (zwI S 86 i (zI S 86 (i + 93))) (by omega) (by omega)
    refine ⟨S1, ?_, oR_t (oR_w _ _ _ _) g2, fun k => ?_⟩
    · rw [← g1]
      obtain ⟨K, eK⟩ : ∃ K, K = f_M_keeps_14 fu n' := ⟨_, rfl⟩
      rw [← eK]
      unfold f_M_keeps_14
      rw [show (15 : Int32) * 93 = nI 1395 from rfl, if_neg (fun h => absurd ((n_le (by omega) (by omega)).mp h) (by omega)), show nI i + 93 = nI (i + 93) from n_add i 93, n_gd (by omega) (by omega), n_gd (by omega) (by omega), q_cl (by omega), q_cl (by omega), n_1, ← eK]
    · rw [g3]
      by_cases c : i + 1 ≤ k ∧ k < 1395
      · rw [if_pos c, if_pos (by omega), qIIo _ _ (by omega)]
      · rw [if_neg c, qII]
        by_cases c2 : k = i
        · rw [if_pos ⟨rfl, c2⟩, if_pos (by omega), c2]
        · rw [if_neg (fun h => c2 h.2), if_neg (by omega)]
theorem keeps_54 (fu : Nat) (a1 : Int32) {L : Nat} (hL : L ≤ 15) : ∀ (m i n : Nat) (S : zSt), i + m = 92 → m + 1 ≤ n → zI S 72 32 = nI L → ∃ S1, f_M_keeps_54 fu n a1 93 (nI i) S = f_M_keeps_85 fu a1 93 S1 ∧ oR 86 S S1 ∧ ∀ k, zI S1 86 k = if 93 * L + i ≤ k ∧ k < 93 * L + 92 then zI S 74 (k - 93 * L) else zI S 86 k := by
  intro m
  induction m with
  | zero =>
    intro i n S h1 h2 h3
    obtain ⟨n', rfl⟩ : ∃ n', n = n' + 1 := ⟨n - 1, by omega⟩
    refine ⟨S, ?_, oR_r _ S, fun k => by rw [if_neg (by omega)]⟩
    unfold f_M_keeps_54
    rw [if_pos (show (92 : Int32) ≤ nI i from (n_le (a := 92) (by omega) (by omega)).mpr (by omega))]
  | succ m ih =>
    intro i n S h1 h2 h3
    obtain ⟨n', rfl⟩ : ∃ n', n = n' + 1 := ⟨n - 1, by omega⟩
    obtain ⟨S1, g1, g2, g3⟩ := ih (i + 1) n' (zwI S 86 (93 * L + i) (zI S 74 i)) (by omega) (by omega) (by rw [qIIo _ _ (by omega)]; exact h3)
    refine ⟨S1, ?_, oR_t (oR_w _ _ _ _) g2, fun k => ?_⟩
    · rw [← g1]
      obtain ⟨K, eK⟩ : ∃ K, K = f_M_keeps_54 fu n' := ⟨_, rfl⟩
      rw [← eK]
      unfold f_M_keeps_54
      rw [if_neg (show ¬ (92 : Int32) ≤ nI i from fun h => absurd ((n_le (a := 92) (by omega) (by omega)).mp h) (by omega)), h3, show (93 : Int32) * nI L + nI i = nI (93 * L + i) by rw [show (93 : Int32) = nI 93 from rfl, n_mul, n_add], n_gd (by omega) (by omega), n_gd (by omega) (by omega), q_cl (by omega), q_cl (by omega), n_1, ← eK]
    · rw [g3]
      by_cases c : 93 * L + (i + 1) ≤ k ∧ k < 93 * L + 92
      · rw [if_pos c, if_pos (by omega), qIIo _ _ (by omega)]
      · rw [if_neg c, qII]
        by_cases c2 : k = 93 * L + i
        · rw [if_pos ⟨rfl, c2⟩, if_pos (by omega), show k - 93 * L = i by omega]
        · rw [if_neg (fun h => c2 h.2), if_neg (by omega)]
theorem keeps_lo (fu : Nat) (hfu : 10000 ≤ fu) {S : zSt} {P : zP} (hm : mRep S 74 0 P) (hP : pOK P) {L : Nat} (hL : L ≤ 15) (hl : zI S 72 32 = nI L) (k : Nat) : ∃ Y, f_M_keeps_54 fu fu (nI k) 93 0 S = some Y ∧ jE P (zI Y 86) (93 * L) (k, pMv P) ∧ (∀ q, q < 93 * L → zI Y 86 q = zI S 86 q) ∧ zI Y 72 32 = nI (L + 1) ∧ Y.2 = S.2 ∧ (∀ j, j ≠ 86 → j ≠ 72 → zI Y j = zI S j) ∧ ∀ q, q ≠ 32 → zI Y 72 q = zI S 72 q := by
  have h9 := hP.1
  obtain ⟨S1, g1, g2, g3⟩ := keeps_54 fu (nI k) hL 92 0 fu S (by omega) (by omega) hl
  have o72 : ∀ q, zI S1 72 q = zI S 72 q := fun q => g2.2 72 q (by omega)
  have e32 : zI S1 72 32 = nI L := (o72 32).trans hl
  have ea : (93 : Int32) * nI L + 92 = nI (93 * L + 92) := by rw [show (93 : Int32) = nI 93 from rfl, n_mul]; exact n_add _ 92
  refine ⟨zwI (zwI S1 86 (93 * L + 92) (nI k)) 72 32 (nI (L + 1)), ?_, ?_, fun q hq => ?_, qIIs _ _ _ _, ?_, fun j h1 h2 => ?_, fun q hq => ?_⟩
  · refine Eq.trans g1 ?_
    unfold f_M_keeps_85
    rw [e32, ea, n_gd (by omega) (by omega), q_cl (by omega)]
    have : zI (zwI S1 86 (93 * L + 92) (nI k)) 72 32 = nI L := by rw [qIIo _ _ (by omega)]; exact e32
    rw [this, n_1]
  · have hz := hm
    unfold mRep at hz
    simp only [Nat.zero_add] at hz
    obtain ⟨m1, m2, m3, m4, m5, m6, m7, m8, m9, m10, m11, m12, m13, m14⟩ := hz
    have R : ∀ q, q < 92 → zI (zwI (zwI S1 86 (93 * L + 92) (nI k)) 72 32 (nI (L + 1))) 86 (93 * L + q) = zI S 74 q := fun q hq => by
      rw [qIIo _ _ (by omega), qIIo _ _ (by omega), g3, if_pos (by omega), show 93 * L + q - 93 * L = q by omega]
    refine ⟨?_, fun s hs => ?_, fun x y hx hy hxy => ?_, ?_, ?_⟩
    · exact (R 0 (by omega)).trans m6
    · rw [R _ (by omega)]; exact m4 s hs
    · rw [R _ (by omega)]; exact m5 x y hx hy hxy
    · rw [R _ (by omega)]; exact m7
    · rw [qIIo _ _ (by omega), qIIs]
  · rw [qIIo _ _ (by omega), qIIo _ _ (by omega), g3, if_neg (by omega)]
  · show S1.2 = S.2
    exact g2.1
  · funext q
    rw [qIIo _ _ (by omega), qIIo _ _ (by omega), g2.2 j q h1]
  · rw [qIIo _ _ (by omega), qIIo _ _ (by omega), o72]
theorem keeps_ok (fu : Nat) (hfu : 10000 ≤ fu) {S : zSt} {P : zP} {es : List (Nat × zMv)} (hm : mRep S 74 0 P) (hP : pOK P) (hj : jM S P es) (hl : es.length ≤ 16) (k : Nat) : ∃ Y, f_M_keeps fu (nI k) S = some Y ∧ jM Y P (pushJ es (k, pMv P)) ∧ Y.2 = S.2 ∧ (∀ j, j ≠ 86 → j ≠ 72 → zI Y j = zI S j) ∧ ∀ q, q ≠ 32 → zI Y 72 q = zI S 72 q := by
  have h9 := hP.1
  obtain ⟨j1, j2⟩ := jM_is.mp hj
  unfold f_M_keeps
  rw [j1]
  by_cases c : es.length = 16
  · rw [if_pos (show nI es.length = 16 from (n_eq (b := 16) (by omega) (by omega)).mpr c)]
    obtain ⟨S1, g1, g2, g3⟩ := keeps_14 fu (nI k) 1395 0 fu S (by omega) (by omega)
    have e32 : zI S1 72 32 = nI 16 := by rw [g2.2 72 32 (by omega), j1, c]
    obtain ⟨S2, eS2⟩ : ∃ S2, S2 = zwI S1 72 32 (nI 15) := ⟨_, rfl⟩
    have hm2 : mRep S2 74 0 P := mRep_f hm (fun q _ => by rw [eS2, qIIo _ _ (by omega), g2.2 74 _ (by omega)]) hP
    obtain ⟨Y, y1, y2, y3, y4, y5, y6, y7⟩ := keeps_lo fu hfu hm2 hP (L := 15) (by omega) (by rw [eS2, qIIs]) k
    refine ⟨Y, ?_, jM_is.mpr ⟨?_, fun i e hie => ?_⟩, ?_, fun j h1 h2 => ?_, fun q hq => ?_⟩
    · refine Eq.trans g1 ?_
      unfold f_M_keeps_42
      rw [e32, show nI 16 - 1 = nI 15 from rfl, ← eS2]
      exact y1
    · rw [y4, push_len _ hl, c]; rfl
    · rw [push_len _ hl, c]
      obtain ⟨hi, hc⟩ := push_get hie
      rcases hc with ⟨rfl, rfl⟩ | ⟨t, rfl, ht⟩
      · exact y2
      · refine jE_f h9 (j2 t e ht) (fun q hq => ?_)
        rw [show 93 * (min 16 (16 + 1) - 1 - (t + 1)) = 93 * (14 - t) by omega, y3 _ (by omega), eS2, qIIo _ _ (by omega), g3, if_pos (by omega), c]
        congr 1
        omega
    · rw [y5, eS2]; exact g2.1
    · rw [y6 j h1 h2, eS2]
      funext q
      rw [qIIo _ _ (by omega), g2.2 j q h1]
    · rw [y7 q hq, eS2, qIIo _ _ (by omega), g2.2 72 q (by omega)]
  · rw [if_neg (show ¬ nI es.length = 16 from fun h => c ((n_eq (b := 16) (by omega) (by omega)).mp h))]
    obtain ⟨Y, y1, y2, y3, y4, y5, y6, y7⟩ := keeps_lo fu hfu hm hP (L := es.length) (by omega) j1 k
    refine ⟨Y, y1, jM_is.mpr ⟨?_, fun i e hie => ?_⟩, y5, y6, y7⟩
    · rw [y4, push_len _ hl, show min 16 (es.length + 1) = es.length + 1 by omega]
    · rw [push_len _ hl, show min 16 (es.length + 1) = es.length + 1 by omega]
      obtain ⟨hi, hc⟩ := push_get hie
      rcases hc with ⟨rfl, rfl⟩ | ⟨t, rfl, ht⟩
      · exact y2
      · have htl : t < es.length := (List.getElem?_eq_some_iff.mp ht).1
        refine jE_f h9 (j2 t e ht) (fun q hq => ?_)
        rw [show 93 * (es.length + 1 - 1 - (t + 1)) = 93 * (es.length - 1 - t) by omega, y3 _ (by omega)]
/-! what the acts leave alone -/
def cK (S X : zSt) : Prop := X.2.2 = S.2.2 ∧ (∀ j k, ¬ scI j k → ¬ (j = 1 ∧ (k = 5 ∨ k = 6)) → ¬ (32 ≤ j ∧ j ≤ 35) → zI X j k = zI S j k) ∧ ∀ j k, ¬ scL j → ¬ (j = 1 ∧ (k = 3 ∨ k = 4)) → ¬ (j = 36 ∨ j = 37) → zL X j k = zL S j k
def rK (S Y : zSt) : Prop := Y.2.2 = S.2.2 ∧ (∀ j k, ¬ scI j k → ¬ (j = 74 ∧ k < 92) → j ≠ 86 → ¬ (j = 72 ∧ k = 32) → zI Y j k = zI S j k) ∧ ∀ j k, ¬ scL j → zL Y j k = zL S j k
theorem cK_pw {S X : zSt} (h : pW 1 S X) : cK S X := ⟨h.1, fun j k a b _ => h.2.1 j k a b, fun j k a b _ => h.2.2 j k a b⟩
theorem cK_t {S X Y : zSt} (h : cK S X) (h2 : cK X Y) : cK S Y := ⟨h2.1.trans h.1, fun j k a b c => (h2.2.1 j k a b c).trans (h.2.1 j k a b c), fun j k a b c => (h2.2.2 j k a b c).trans (h.2.2 j k a b c)⟩
theorem rK_mw {S X : zSt} (h : mW S X) : rK S X := ⟨h.1, fun j k a b _ _ => h.2.1 j k a b, fun j k a => h.2.2 j k a⟩
theorem rK_t {S X Y : zSt} (h : rK S X) (h2 : rK X Y) : rK S Y := ⟨h2.1.trans h.1, fun j k a b c d => (h2.2.1 j k a b c d).trans (h.2.1 j k a b c d), fun j k a => (h2.2.2 j k a).trans (h.2.2 j k a)⟩
theorem cK_up {S X : zSt} (h : cK S X) : zUp S X := by
  have hI : ∀ j k, ¬ scI j k → ¬ (j = 1 ∧ (k = 5 ∨ k = 6)) → ¬ (32 ≤ j ∧ j ≤ 35) → zI X j k = zI S j k := h.2.1
  refine ⟨h.1, fun j hj => ?_, hI 44 1 (by unfold scI; omega) (by omega) (by omega), hI 72 13 (by unfold scI; omega) (by omega) (by omega), hI 72 49 (by unfold scI; omega) (by omega) (by omega), fun k hk => hI 54 k (by unfold scI; omega) (by omega) (by omega), fun k hk => hI 69 k (by unfold scI; omega) (by omega) (by omega), fun j hj => ?_⟩
  · funext k; exact hI j k (by unfold scI; omega) (by omega) (by omega)
  · funext k; exact h.2.2 j k (by unfold scL; omega) (by omega) (by omega)
theorem rK_up {S X : zSt} (h : rK S X) : zUp S X := by
  have hI := h.2.1
  refine ⟨h.1, fun j hj => ?_, hI 44 1 (by unfold scI; omega) (by omega) (by omega) (by omega), hI 72 13 (by unfold scI; omega) (by omega) (by omega) (by omega), hI 72 49 (by unfold scI; omega) (by omega) (by omega) (by omega), fun k hk => hI 54 k (by unfold scI; omega) (by omega) (by omega) (by omega), fun k hk => hI 69 k (by unfold scI; omega) (by omega) (by omega) (by omega), fun j hj => ?_⟩
  · funext k; exact hI j k (by unfold scI; omega) (by omega) (by omega) (by omega)
  · funext k; exact h.2.2 j k (by unfold scL; omega)
theorem cRep_rk {S Y : zSt} {P : zP} (h : cRep S 1 P) (hY : rK S Y) : cRep Y 1 P := cRep_up h (rK_up hY) (fun j a b => by funext k; exact hY.2.1 j k (by unfold scI; omega) (by omega) (by omega) (by omega)) (by funext k; exact hY.2.2 1 k (by unfold scL; omega))
theorem mRep_ck {S X : zSt} {P : zP} (h : mRep S 74 0 P) (hX : cK S X) (hP : pOK P) : mRep X 74 0 P := mRep_f h (fun k _ => hX.2.1 74 _ (by unfold scI; omega) (by omega) (by omega)) hP
theorem jM_ck {S X : zSt} {P : zP} {es : List (Nat × zMv)} (h : jM S P es) (hX : cK S X) : jM X P es := jM_f h (by funext k; exact hX.2.1 86 k (by unfold scI; omega) (by omega) (by omega)) (hX.2.1 72 32 (by unfold scI; omega) (by omega) (by omega))
theorem jC_rk {S Y : zSt} {P : zP} {es : List (Nat × zMv)} (h : jC S P es) (hY : rK S Y) : jC Y P es := jC_f h (fun j a b => by funext k; exact hY.2.1 j k (by unfold scI; omega) (by omega) (by omega) (by omega)) (fun j a => by funext k; exact hY.2.2 j k (by unfold scL; omega))
/-- granted acts -/
theorem cOk_act {S X Y : zSt} {P' : zP} {es' : List (Nat × zMv)} (h : Inv S) {v : Int32} {fE fM : zSt → Option (Int32 × zSt)} (hE : fE S = some (v, zwI X 0 19 0)) (hX : cK S X) (hM : fM (zwI X 0 19 0) = some (v, zwI Y 72 0 0)) (hY : rK (zwI X 0 19 0) Y) (hP' : pOK P') (hc : cRep X 1 P') (hm : mRep Y 74 0 P') (jo : jO P' es') (jc : jC X P' es') (jm : jM Y P' es') : cOk fE fM S := by
  obtain ⟨P, es, hP, -, -, -, hi, ht, hms, hd, hs⟩ := h
  have u1 : zUp X (zwI X 0 19 0) := zUp_w _ _ (by omega)
  have u2 : zUp Y (zwI Y 72 0 0) := zUp_w _ _ (by omega)
  have up : zUp S (zwI Y 72 0 0) := zUp_t (cK_up hX) (zUp_t u1 (zUp_t (rK_up hY) u2))
  have I : ∀ j, j ≠ 72 → zI (zwI Y 72 0 0) j = zI Y j := fun j hj => by funext k; exact qIIo _ _ (by omega)
  have J : ∀ j, j ≠ 0 → zI (zwI X 0 19 0) j = zI X j := fun j hj => by funext k; exact qIIo _ _ (by omega)
  have c1 : cRep (zwI X 0 19 0) 1 P' := cRep_up hc u1 (fun j _ b => J j (by omega)) rfl
  have q1 : jC (zwI X 0 19 0) P' es' := jC_f jc (fun j a b => J j (by omega)) (fun _ _ => rfl)
  have FY : ∀ j k, ¬ scI j k → ¬ (j = 74 ∧ k < 92) → j ≠ 86 → j ≠ 72 → zI (zwI Y 72 0 0) j k = zI (zwI X 0 19 0) j k := fun j k a b c d => by
    rw [I j d]; exact hY.2.1 j k a b c (by omega)
  refine ⟨v, _, _, hE, hM, Inv_up (es := es') hi ht hd hs up hP' ?_ ?_ ?_ ?_, by rw [zUp_N up]; exact Nat.le_refl _, by rw [zUp_N up]; omega⟩
  · exact cRep_up (cRep_rk c1 hY) u2 (fun j _ b => I j (by omega)) rfl
  · exact mRep_f hm (fun k _ => by rw [I 74 (by omega)]) hP'
  · exact jRel_is.mpr ⟨jo, jC_f (jC_rk q1 hY) (fun j a b => I j (by omega)) (fun _ _ => rfl), jM_f jm (I 86 (by omega)) (qIIo _ _ (by omega))⟩
  · refine gr_ms hms (fun k a b => ?_) ?_ ?_ (qIIs _ _ _ _) (fun k a => ?_) ?_
    · rw [FY 0 k (by unfold scI; omega) (by omega) (by omega) (by omega), qIIo _ _ (by omega)]
      exact hX.2.1 0 k (by unfold scI; omega) (by omega) (by omega)
    · rw [FY 0 19 (by unfold scI; omega) (by omega) (by omega) (by omega), qIIs]
    · funext k
      rw [FY 71 k (by unfold scI; omega) (by omega) (by omega) (by omega), J 71 (by omega)]
      exact hX.2.1 71 k (by unfold scI; omega) (by omega) (by omega)
    · rw [qIIo _ _ (by omega), hY.2.1 72 k (by unfold scI; omega) (by omega) (by omega) (by omega), J 72 (by omega)]
      exact hX.2.1 72 k (by unfold scI; omega) (by omega) (by omega)
    · funext k
      rw [FY 73 k (by unfold scI; omega) (by omega) (by omega) (by omega), J 73 (by omega)]
      exact hX.2.1 73 k (by unfold scI; omega) (by omega) (by omega)
theorem zCo_rS2 {S S' : zSt} (h : zCo S S') (v : Int32) (q : Nat) : zCo (rS2 S v q) (rS2 S' v q) := by
  refine ⟨h.1, fun j k a => ?_, h.2.2⟩
  have e : zI S' 73 q = zI S 73 q := h.2.1 73 q (by unfold scI; omega)
  unfold rS2
  rw [qII, qII, qII, qII, e, h.2.1 j k a]
theorem zCo_rS1 {S S' : zSt} (h : zCo S S') (v : Int32) (p : Nat) : zCo (rS1 S v p) (rS1 S' v p) := by
  refine ⟨h.1, fun j k a => ?_, h.2.2⟩
  have e : zI S' 71 p = zI S 71 p := h.2.1 71 p (by unfold scI; omega)
  unfold rS1
  rw [qII, qII, qII, qII, e, h.2.1 j k a]
/-- refused calls that write scratch -/
theorem cOk_ref2 {S X Y : zSt} (h : Inv S) {v : Int32} {p q : Nat} (hv : rfP v p q) {fE fM : zSt → Option (Int32 × zSt)} (hE : fE S = f_E_refused v X) (cX : zCo S X) (hM : fM (rS1 X v p) = f_M_refuses v Y) (cY : zCo (rS1 X v p) Y) : cOk fE fM S := by
  have c2 := zCo_rS2 cY v q
  have hN : zN (rS2 Y v q) = zN S := by
    rw [zCo_N c2, zUp_N (ref_up X v p q), zCo_N cX]
  exact ⟨v, rS1 X v p, rS2 Y v q, hE.trans (refE hv X), hM.trans (refM hv _), Inv_co (ref_inv hv (Inv_co h cX)) c2, by rw [hN]; exact Nat.le_refl _, by rw [hN]; omega⟩

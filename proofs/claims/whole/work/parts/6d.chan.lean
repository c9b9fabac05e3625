/-! channel, terms -/
theorem bL_off (x : Int64) {p : Nat} (hp : p < 64) (i : Nat) : bL (x &&& (((1 : Int64) <<< ((nI p).toInt64 &&& 63)) ^^^ (-1 : Int64))) i = (bL x i && decide (i ≠ p)) := by
  rcases Nat.lt_or_ge i 64 with h | h
  · rw [bL_and, bL_xor, bL_shl _ hp h, bL_m1 i h, bL_1]
    by_cases e : i = p
    · rw [e]; simp
    · rcases Nat.lt_or_ge i p with h2 | h2
      · simp [e, Nat.not_le.mpr h2]
      · have : ¬ i - p = 0 := by omega
        simp [e, this]
  · rw [bL_big h, bL_big h]; rfl
def pDig (P : zP) (a b : Nat) (v : Int32) : zP := (pN P, pLv P, fun x y => if (x = a ∧ y = b) ∨ (x = b ∧ y = a) then v else pFar P x y, pMud P, fun x y => if (x = a ∧ y = b) ∨ (x = b ∧ y = a) then false else pSh P x y, P.2.2.2.2.2)
theorem pOK_dig {P : zP} (hP : pOK P) {a b v : Nat} (ha : a < pN P) (hb : b < pN P) (hv : v ≤ 50) : pOK (pDig P a b (nI v)) := by
  obtain ⟨p1, p2, p3, p4, p5, p6, p7, p8, p9, p10, p11, p12, p13, p14, p15, p16⟩ := hP
  refine ⟨p1, p2, p3, fun x y hx hy => ?_, fun x y => ?_, fun x y => ?_, fun x y hx hy hxy hs => ?_, fun x y hx => ?_, p9, p10, p11, p12, p13, p14, p15, p16⟩
  · show ∃ w : Nat, w ≤ 50 ∧ (if (x = a ∧ y = b) ∨ (x = b ∧ y = a) then nI v else pFar P x y) = nI w
    by_cases e : (x = a ∧ y = b) ∨ (x = b ∧ y = a)
    · rw [if_pos e]; exact ⟨v, hv, rfl⟩
    · rw [if_neg e]; exact p4 x y hx hy
  · show (if (x = a ∧ y = b) ∨ (x = b ∧ y = a) then nI v else pFar P x y) = (if (y = a ∧ x = b) ∨ (y = b ∧ x = a) then nI v else pFar P y x)
    by_cases e : (x = a ∧ y = b) ∨ (x = b ∧ y = a)
    · rw [if_pos e, if_pos (by omega)]
    · rw [if_neg e, if_neg (by omega)]; exact p5 x y
  · show (if (x = a ∧ y = b) ∨ (x = b ∧ y = a) then false else pSh P x y) = (if (y = a ∧ x = b) ∨ (y = b ∧ x = a) then false else pSh P y x)
    by_cases e : (x = a ∧ y = b) ∨ (x = b ∧ y = a)
    · rw [if_pos e, if_pos (by omega)]
    · rw [if_neg e, if_neg (by omega)]; exact p6 x y
  · show (if (x = a ∧ y = b) ∨ (x = b ∧ y = a) then nI v else pFar P x y) ≠ 0
    have hs' : (if (x = a ∧ y = b) ∨ (x = b ∧ y = a) then false else pSh P x y) = true := hs
    by_cases e : (x = a ∧ y = b) ∨ (x = b ∧ y = a)
    · rw [if_pos e] at hs'; cases hs'
    · rw [if_neg e] at hs' ⊢; exact p7 x y hx hy hxy hs'
  · have hx' : pN P ≤ x := hx
    show (if (x = a ∧ y = b) ∨ (x = b ∧ y = a) then nI v else pFar P x y) = 0 ∧ (if (x = a ∧ y = b) ∨ (x = b ∧ y = a) then false else pSh P x y) = false
    rw [if_neg (by omega), if_neg (by omega)]; exact p8 x y hx'
theorem dig_ok {S : zSt} {P : zP} (h : cRep S 1 P) (hP : pOK P) {a b v : Nat} (ha : a < pN P) (hb : b < pN P) (hab : a ≠ b) : ∃ X, f_Ps_dig 1 (nI a) (nI b) (nI v) S = some (pFar P a b, X) ∧ cX S X ∧ cRep X 1 (pDig P a b (nI v)) ∧ ∀ j, j ≠ 3 → zI X j = zI S j := by
  have h9 := hP.1
  have hp := pq_c a (by omega) b (by omega) hab
  obtain ⟨X, eX⟩ : ∃ X, X = zwL (zwI S 3 (pq a b) (nI v)) 1 4 ((zL S 1 4) &&& (((1 : Int64) <<< ((nI (pq a b)).toInt64 &&& 63)) ^^^ (-1 : Int64))) := ⟨_, rfl⟩
  have xI : ∀ j k, zI X j k = zI (zwI S 3 (pq a b) (nI v)) j k := fun j k => by rw [eX]; rfl
  have xL : ∀ j k, zL X j k = if j = 1 ∧ k = 4 then (zL S 1 4) &&& (((1 : Int64) <<< ((nI (pq a b)).toInt64 &&& 63)) ^^^ (-1 : Int64)) else zL S j k := fun j k => by rw [eX]; rfl
  have hX : cX S X := by rw [eX]; exact cX_t (cX_w _ _ (by omega)) (cX_wL _ _ (by omega))
  have hR : ∀ j, j ≠ 3 → zI X j = zI S j := fun j hj => by funext k; rw [xI, qIIo _ _ (by omega)]
  have hpq : ∀ x, x < 9 → ∀ y, y < 9 → x ≠ y → (pq x y = pq a b ↔ (x = a ∧ y = b) ∨ (x = b ∧ y = a)) := fun x hx y hy hxy => by
    constructor
    · exact fun e => pq_inj x hx y hy a (by omega) b (by omega) hxy hab e
    · rintro (⟨rfl, rfl⟩ | ⟨rfl, rfl⟩)
      · rfl
      · exact pq_s _ _ hxy
  refine ⟨X, ?_, hX, ?_, hR⟩
  · unfold f_Ps_dig
    rw [qb1 (pair_yes h hP ha hb hab), if_neg (n_neg (by omega)), if_pos (show nI (pq a b) < 36 from (n_lt (b := 36) (by omega) (by omega)).mpr hp), n_gd (by omega) hp, n_gd (by omega) hp, q_cl (by omega), eX]
    have e : zI S (1 + 2) (pq a b) = pFar P a b := h.2.2.1 a b (by omega) (by omega) hab
    rw [e]
    rfl
  · refine cRep_mk h hX.1 rfl rfl ?_ (fun s hs => ?_) (fun x y hx hy hxy => ?_) (fun s hs => ?_) (fun x y hx hy hxy => ?_) (fun p hp36 => ?_) ?_ ?_ ?_ ?_ rfl ?_ ?_ ?_ ?_ ?_
    · rw [hR 1 (by omega)]; exact h.1
    · rw [hR 2 (by omega)]; exact h.2.1 s hs
    · show zI X 3 (pq x y) = if (x = a ∧ y = b) ∨ (x = b ∧ y = a) then nI v else pFar P x y
      have e := hpq x hx y hy hxy
      rw [xI, qII]
      by_cases he : (x = a ∧ y = b) ∨ (x = b ∧ y = a)
      · rw [if_pos he, if_pos ⟨rfl, e.mpr he⟩]
      · rw [if_neg he, if_neg (fun h => he (e.mp h.2))]; exact h.2.2.1 x y hx hy hxy
    · rw [xL, if_neg (by omega)]; exact h.2.2.2.1 s hs
    · show bL (zL X 1 4) (pq x y) = if (x = a ∧ y = b) ∨ (x = b ∧ y = a) then false else pSh P x y
      have e := hpq x hx y hy hxy
      rw [xL, if_pos ⟨rfl, rfl⟩, bL_off _ (by omega)]
      by_cases he : (x = a ∧ y = b) ∨ (x = b ∧ y = a)
      · rw [if_pos he, e.mpr he]; simp
      · rw [if_neg he, show bL (zL S 1 4) (pq x y) = pSh P x y from h.2.2.2.2.1 x y hx hy hxy, decide_eq_true (show pq x y ≠ pq a b from fun h => he (e.mp h)), Bool.and_true]
    · rw [xL, if_pos ⟨rfl, rfl⟩, bL_off _ (by omega), show bL (zL S 1 4) p = false from h.2.2.2.2.2.1 p hp36]; rfl
    · rw [hR 1 (by omega)]; exact h.2.2.2.2.2.2.1
    · rw [hR 1 (by omega)]; exact h.2.2.2.2.2.2.2.1
    · rw [hR 1 (by omega)]; exact h.2.2.2.2.2.2.2.2.1
    · rw [hR 1 (by omega)]; exact h.2.2.2.2.2.2.2.2.2.1
    · rw [hR 1 (by omega)]
    · exact hR 4 (by omega)
    · exact hR 5 (by omega)
    · rw [hR 1 (by omega)]
    · rw [hR 1 (by omega)]
theorem lays_ch {S : zSt} {P : zP} (h : mRep S 74 0 P) (hP : pOK P) {a b v : Nat} (ha : a < pN P) (hb : b < pN P) (hab : a ≠ b) : ∃ Y, f_M_laysChannel (nI a) (nI b) (nI v) S = some Y ∧ rY S Y ∧ mRep Y 74 0 (pDig P a b (nI v)) ∧ ∀ j, j ≠ 74 → zI Y j = zI S j := by
  have h9 := hP.1
  obtain ⟨Y, eY⟩ : ∃ Y, Y = zwI (zwI (zwI (zwI S 74 (101 + (9 * a + b)) (nI v)) 74 (101 + (9 * b + a)) (nI v)) 74 (10 + (9 * a + b)) 0) 74 (10 + (9 * b + a)) 0 := ⟨_, rfl⟩
  have hY : rY S Y := by rw [eY]; exact rY_t (rY_w _ _ (by omega)) (rY_t (rY_w _ _ (by omega)) (rY_t (rY_w _ _ (by omega)) (rY_w _ _ (by omega))))
  have K : ∀ k, k ≠ 101 + (9 * a + b) → k ≠ 101 + (9 * b + a) → k ≠ 10 + (9 * a + b) → k ≠ 10 + (9 * b + a) → zI Y 74 k = zI S 74 k := fun k h1 h2 h3 h4 => by
    rw [eY, qIIo _ _ (by omega), qIIo _ _ (by omega), qIIo _ _ (by omega), qIIo _ _ (by omega)]
  refine ⟨Y, ?_, hY, ?_, fun j hj => ?_⟩
  · unfold f_M_laysChannel
    rw [qb1 (m_pair (by omega) (by omega)), show (101 : Int32) + nI (9 * a + b) = nI (101 + (9 * a + b)) from n_add 101 _, n_gd (by omega) (by omega), qb1 (m_pair (by omega) (by omega)), show (101 : Int32) + nI (9 * b + a) = nI (101 + (9 * b + a)) from n_add 101 _, n_gd (by omega) (by omega), qb1 (m_pair (by omega) (by omega)), show (10 : Int32) + nI (9 * a + b) = nI (10 + (9 * a + b)) from n_add 10 _, n_gd (by omega) (by omega), qb1 (m_pair (by omega) (by omega)), show (10 : Int32) + nI (9 * b + a) = nI (10 + (9 * b + a)) from n_add 10 _, n_gd (by omega) (by omega), q_cl (by omega), q_cl (by omega), q_cl (by omega), q_cl (by omega), eY]
  · have hz := h
    unfold mRep at hz
    simp only [Nat.zero_add] at hz
    obtain ⟨g1, g2, g3, g4, g5, g6, g7, g8, g9, g10, g11, g12, g13, g14⟩ := hz
    refine mRep_mk h hP rfl rfl ?_ (fun s hs => ?_) (fun x y hx hy hxy => ?_) (fun s hs => ?_) (fun x y hx hy hxy => ?_) ?_ ?_ ?_ ?_ rfl (fun k hk => K k (by omega) (by omega) (by omega) (by omega))
    · rw [K _ (by omega) (by omega) (by omega) (by omega)]; exact g1
    · have hs' : s < pN P := hs
      rw [K _ (by omega) (by omega) (by omega) (by omega)]; exact g2 s hs
    · show zI Y 74 (101 + (9 * x + y)) = if (x = a ∧ y = b) ∨ (x = b ∧ y = a) then nI v else pFar P x y
      by_cases he : (x = a ∧ y = b) ∨ (x = b ∧ y = a)
      · rw [if_pos he, eY, qIIo _ _ (by omega), qIIo _ _ (by omega), qII]
        by_cases h2 : 101 + (9 * x + y) = 101 + (9 * b + a)
        · rw [if_pos ⟨rfl, h2⟩]
        · rw [if_neg (fun h => h2 h.2), qII, if_pos ⟨rfl, by omega⟩]
      · rw [if_neg he, K _ (by omega) (by omega) (by omega) (by omega)]; exact g3 x y hx hy hxy
    · have hs' : s < pN P := hs
      rw [K _ (by omega) (by omega) (by omega) (by omega)]; exact g4 s hs
    · show zI Y 74 (10 + (9 * x + y)) = b2 (if (x = a ∧ y = b) ∨ (x = b ∧ y = a) then false else pSh P x y)
      by_cases he : (x = a ∧ y = b) ∨ (x = b ∧ y = a)
      · rw [if_pos he, eY, qII]
        by_cases h2 : 10 + (9 * x + y) = 10 + (9 * b + a)
        · rw [if_pos ⟨rfl, h2⟩]; rfl
        · rw [if_neg (fun h => h2 h.2), qII, if_pos ⟨rfl, by omega⟩]; rfl
      · rw [if_neg he, K _ (by omega) (by omega) (by omega) (by omega)]; exact g5 x y hx hy hxy
    · rw [K _ (by omega) (by omega) (by omega) (by omega)]; exact g6
    · rw [K _ (by omega) (by omega) (by omega) (by omega)]; exact g7
    · rw [K _ (by omega) (by omega) (by omega) (by omega)]; exact g8
    · rw [K _ (by omega) (by omega) (by omega) (by omega)]; exact g9
  · funext k
    rw [eY, qIIo _ _ (by omega), qIIo _ _ (by omega), qIIo _ _ (by omega), qIIo _ _ (by omega)]
theorem call_channel {S : zSt} (h : Inv S) (a b d : Int32) : cOk (f_E_channel a b d) (f_M_channel a b d) S := by
  obtain ⟨P, es, hP, hc, hm, hj, hi, ht, hms, hdr, hs⟩ := id h
  have h9 := hP.1
  by_cases hab : a = b
  · refine cOk_ref h rf1 ?_ ?_
    · unfold f_E_channel; rw [if_pos hab, zb2_eta]
    · unfold f_M_channel; rw [if_pos hab, zb2_eta]
  rcases rng_or d 0 50 with ⟨v, -, hv, rfl⟩ | hd
  · have c1 : ¬ nI v < 0 := n_neg (by omega)
    have c2 : nI v ≤ 50 := (n_le (b := 50) (by omega) (by omega)).mpr hv
    have c3 : f_M_lies (nI v) 0 50 = some 1 := lies_yes (lo := 0) (hi := 50) (by omega) hv (by omega)
    rcases two_or P a b with ⟨x, y, hx, hy, hxy, rfl, rfl⟩ | hn
    · have hX0 : cX S (zwI S 32 0 0) := cX_w _ _ (by omega)
      have hc0 : cRep (zwI S 32 0 0) 1 P := cRep_up hc hX0.1 (fun j _ _ => by funext k; exact qIIo _ _ (by omega)) rfl
      obtain ⟨X, e1, hX1, hcX, hR⟩ := dig_ok (v := v) hc0 hP hx hy hxy
      have hX : cX S X := cX_t hX0 hX1
      have hm1 : mRep (zwI X 0 19 0) 74 0 P := mRep_f hm (fun k _ => by rw [qIIo _ _ (by omega), hX.2 74 (by omega)]) hP
      obtain ⟨Y, e2, hY, hmY, hRY⟩ := lays_ch (v := v) hm1 hP hx hy hxy
      refine cOk_set (v := pFar P x y) (X := X) (P' := pDig P x y (nI v)) h ?_ hX ?_ ?_ ?_ hY (pOK_dig hP hx hy hv) hcX hmY
      · unfold f_E_channel
        rw [if_neg hab, if_neg c1, if_pos c2, qb1 (has_yes hc hP hx), if_neg (by decide), qb1 (has_yes hc hP hy), if_neg (by decide), qb1 (show f_Jo_clear 32 S = some (zwI S 32 0 0) from rfl), qb2 e1]
        rfl
      · rw [hR 32 (by omega), qIIs]
      · rw [hR 32 (by omega), qIIo _ _ (by omega)]
      · unfold f_M_channel
        rw [if_neg hab, qb1 c3, if_neg (by decide), qb1 (m_two_yes hm1 hP hx hy hxy), if_neg (by decide), qb1 (m_far hm1 (by omega) (by omega) hxy), qb1 e2]
        rfl
    · refine cOk_ref h rf2 ?_ ?_
      · unfold f_E_channel
        rw [if_neg hab, if_neg c1, if_pos c2]
        rcases spr_or P a with ⟨x, hx, rfl⟩ | ha
        · rw [qb1 (has_yes hc hP hx), if_neg (by decide)]
          have hb : ∀ s, s < pN P → b ≠ nI s := by
            rcases hn with h1 | h1 | h1
            · exact absurd rfl (h1 x hx)
            · exact h1
            · exact absurd h1 hab
          rw [qb1 (has_no hc hP hb), if_pos rfl, zb2_eta]
        · rw [qb1 (has_no hc hP ha), if_pos rfl, zb2_eta]
      · unfold f_M_channel
        rw [if_neg hab, qb1 c3, if_neg (by decide), qb1 (m_two_no (rS1_m hm hP _ _) hP hn), if_pos rfl, zb2_eta]
  · refine cOk_ref h rf1 ?_ ?_
    · unfold f_E_channel
      rw [if_neg hab]
      rcases rng_no (hi := 50) (by omega) hd with h1 | h1
      · rw [if_pos h1, zb2_eta]
      · by_cases h2 : d < 0
        · rw [if_pos h2, zb2_eta]
        · rw [if_neg h2, if_neg (show ¬ d ≤ 50 from h1), zb2_eta]
    · unfold f_M_channel
      have e5 : f_M_lies d 0 50 = some 0 := lies_no (lo := 0) (hi := 50) (by omega) (by omega) hd
      rw [if_neg hab, qb1 e5, if_pos rfl, zb2_eta]
/-! terms -/
def pTr (P : zP) (k v : Nat) : zP := (pN P, pLv P, pFar P, pMud P, pSh P, (pAt P, (if k = 0 then v else pDay P), (if k = 1 then v else pSlips P), (if k = 2 then v else pMood P)), P.2.2.2.2.2.2)
def tmTop (k : Nat) : Nat := if k = 0 then 999 else if k = 1 then 10 else 9
def tmV (P : zP) (k : Nat) : Nat := if k = 0 then pDay P else if k = 1 then pSlips P else pMood P
def tmM (k : Nat) : Nat := if k = 0 then 91 else if k = 1 then 194 else 195
theorem pOK_tm {P : zP} (hP : pOK P) {k v : Nat} (hv : v ≤ tmTop k) : pOK (pTr P k v) := by
  obtain ⟨p1, p2, p3, p4, p5, p6, p7, p8, p9, p10, p11, p12, p13, p14, p15, p16⟩ := hP
  unfold tmTop at hv
  refine ⟨p1, p2, p3, p4, p5, p6, p7, p8, p9, ?_, ?_, ?_, p13, p14, p15, p16⟩
  · show (if k = 0 then v else pDay P) ≤ 999
    split
    · rename_i e; rw [if_pos e] at hv; exact hv
    · exact p10
  · show (if k = 1 then v else pSlips P) ≤ 10
    split
    · rename_i e; rw [e] at hv; exact hv
    · exact p11
  · show (if k = 2 then v else pMood P) ≤ 9
    split
    · rename_i e; rw [e] at hv; exact hv
    · exact p12
theorem call_terms {S : zSt} (h : Inv S) (a d : Int32) : cOk (f_E_terms a d) (f_M_terms a d) S := by
  obtain ⟨P, es, hP, hc, hm, hj, hi, ht, hms, hdr, hs⟩ := id h
  have hz := hm
  unfold mRep at hz
  simp only [Nat.zero_add] at hz
  obtain ⟨g1, g2, g3, g4, g5, g6, g7, g8, g9, g10, g11, g12, g13, g14⟩ := hz
  have p9 := hP.1
  rcases rng_or a 0 2 with ⟨k, -, hk, rfl⟩ | ha
  · have c1 : ¬ nI k < 0 := n_neg (by omega)
    have c2 : ¬ 2 < nI k := fun h => absurd ((n_lt (a := 2) (by omega) (by omega)).mp h) (by omega)
    have c3 : f_E_topOfTerm (nI k) = some (nI (tmTop k)) := (by decide +kernel : ∀ k, k < 3 → f_E_topOfTerm (nI k) = some (nI (tmTop k))) k (by omega)
    have c4 : tmTop k ≤ 999 := (by decide : ∀ k, k < 3 → tmTop k ≤ 999) k (by omega)
    have c5 : ∀ d, f_M_isTerm (nI k) d = zb1 (f_M_lies d 0 (nI (tmTop k))) (fun r3 => zgd (r3 = 0 ∨ r3 = 1) (some r3)) := fun d => by
      unfold f_M_isTerm
      rcases (by omega : k = 0 ∨ k = 1 ∨ k = 2) with rfl | rfl | rfl
      · rfl
      · rfl
      · rfl
    rcases rng_or d 0 (tmTop k) with ⟨v, -, hv, rfl⟩ | hd
    · have d1 : ¬ nI v < 0 := n_neg (by omega)
      have d2 : nI v ≤ nI (tmTop k) := (n_le (by omega) (by omega)).mpr hv
      have d3 : f_M_isTerm (nI k) (nI v) = some 1 := by
        have e5 : f_M_lies (nI v) 0 (nI (tmTop k)) = some 1 := lies_yes (lo := 0) (by omega) hv (by omega)
        rw [c5, e5, qb1s, qgd (by decide)]
      have d4 : f_Ps_term 1 (nI k) S = some (nI (tmV P k)) := by
        unfold f_Ps_term
        rcases (by omega : k = 0 ∨ k = 1 ∨ k = 2) with rfl | rfl | rfl
        · rw [if_pos (by decide)]; exact congrArg some hc.2.2.2.2.2.2.2.1
        · rw [if_neg (by decide), if_pos (by decide)]; exact congrArg some hc.2.2.2.2.2.2.2.2.1
        · rw [if_neg (by decide), if_neg (by decide)]; exact congrArg some hc.2.2.2.2.2.2.2.2.2.1
      have d5 : f_Ps_setTerm 1 (nI k) (nI v) S = some (zwI S 1 (6 + k) (nI v)) := by
        unfold f_Ps_setTerm
        rcases (by omega : k = 0 ∨ k = 1 ∨ k = 2) with rfl | rfl | rfl
        · rw [if_pos (by decide)]
        · rw [if_neg (by decide), if_pos (by decide)]
        · rw [if_neg (by decide), if_neg (by decide)]
      have d6 : f_M_termAt (nI k) = some (nI (tmM k)) := (by decide +kernel : ∀ k, k < 3 → f_M_termAt (nI k) = some (nI (tmM k))) k (by omega)
      have d7 : tmM k = 91 ∨ tmM k = 194 ∨ tmM k = 195 := (by decide : ∀ k, k < 3 → tmM k = 91 ∨ tmM k = 194 ∨ tmM k = 195) k (by omega)
      have d8 : zI S 74 (tmM k) = nI (tmV P k) := by
        rcases (by omega : k = 0 ∨ k = 1 ∨ k = 2) with rfl | rfl | rfl
        · exact g7
        · exact g8
        · exact g9
      have hX : cX S (zwI (zwI S 1 (6 + k) (nI v)) 32 0 0) := cX_t (cX_w _ _ (by omega)) (cX_w _ _ (by omega))
      have e74 : zI (zwI (zwI (zwI S 1 (6 + k) (nI v)) 32 0 0) 0 19 0) 74 = zI S 74 := by
        funext k
        rw [qIIo _ _ (by omega), hX.2 74 (by omega)]
      have hY : rY (zwI (zwI (zwI S 1 (6 + k) (nI v)) 32 0 0) 0 19 0) (zwI (zwI (zwI (zwI S 1 (6 + k) (nI v)) 32 0 0) 0 19 0) 74 (tmM k) (nI v)) := rY_w _ _ (by omega)
      refine cOk_set (v := nI (tmV P k)) (P' := pTr P k v) h ?_ hX (qIIs _ _ _ _) ?_ ?_ hY (pOK_tm hP hv) ?_ ?_
      · unfold f_E_terms
        rw [if_neg c1, if_neg c2, if_neg d1, qb1 c3, if_pos d2, qb1 d4, qb1 d5]
        rfl
      · rw [qIIo _ _ (by omega), qIIo _ _ (by omega)]
      · unfold f_M_terms
        rw [qb1 d3, if_neg (by decide), qb1 d6, n_gd (by omega) (by omega), qb1 d6, n_gd (by omega) (by omega), q_cl (by omega), e74, d8]
        rfl
      · have K : ∀ i, i ≠ 6 + k → zI (zwI (zwI S 1 (6 + k) (nI v)) 32 0 0) 1 i = zI S 1 i := fun i hi => by rw [qIIo _ _ (by omega), qIIo _ _ (by omega)]
        have R : ∀ j, j ≠ 1 → j ≠ 32 → zI (zwI (zwI S 1 (6 + k) (nI v)) 32 0 0) j = zI S j := fun j h1 h2 => by funext i; rw [qIIo _ _ (by omega), qIIo _ _ (by omega)]
        have Kk : zI (zwI (zwI S 1 (6 + k) (nI v)) 32 0 0) 1 (6 + k) = nI v := by rw [qIIo _ _ (by omega), qIIs]
        refine cRep_mk hc hX.1 rfl rfl ?_ (fun s hs => ?_) (fun x y hx hy hxy => ?_) (fun s hs => hc.2.2.2.1 s hs) (fun x y hx hy hxy => hc.2.2.2.2.1 x y hx hy hxy) (fun p hp => hc.2.2.2.2.2.1 p hp) ?_ ?_ ?_ ?_ rfl ?_ ?_ ?_ ?_ ?_
        · rw [K 0 (by omega)]; exact hc.1
        · rw [R 2 (by omega) (by omega)]; exact hc.2.1 s hs
        · rw [R 3 (by omega) (by omega)]; exact hc.2.2.1 x y hx hy hxy
        · rw [K 5 (by omega)]; exact hc.2.2.2.2.2.2.1
        · show zI _ 1 6 = nI (if k = 0 then v else pDay P)
          by_cases e : k = 0
          · rw [if_pos e]; rw [e] at Kk ⊢; exact Kk
          · rw [if_neg e, K 6 (by omega)]; exact hc.2.2.2.2.2.2.2.1
        · show zI _ 1 7 = nI (if k = 1 then v else pSlips P)
          by_cases e : k = 1
          · rw [if_pos e]; rw [e] at Kk ⊢; exact Kk
          · rw [if_neg e, K 7 (by omega)]; exact hc.2.2.2.2.2.2.2.2.1
        · show zI _ 1 8 = nI (if k = 2 then v else pMood P)
          by_cases e : k = 2
          · rw [if_pos e]; rw [e] at Kk ⊢; exact Kk
          · rw [if_neg e, K 8 (by omega)]; exact hc.2.2.2.2.2.2.2.2.2.1
        · rw [K 9 (by omega)]
        · exact R 4 (by omega) (by omega)
        · exact R 5 (by omega) (by omega)
        · rw [K 12 (by omega)]
        · rw [K 14 (by omega)]
      · have K : ∀ i, i ≠ tmM k → zI (zwI (zwI (zwI (zwI S 1 (6 + k) (nI v)) 32 0 0) 0 19 0) 74 (tmM k) (nI v)) 74 i = zI S 74 i := fun i hi => by rw [qIIo _ _ (by omega), e74]
        have Kk : zI (zwI (zwI (zwI (zwI S 1 (6 + k) (nI v)) 32 0 0) 0 19 0) 74 (tmM k) (nI v)) 74 (tmM k) = nI v := qIIs _ _ _ _
        refine mRep_mk hm hP rfl rfl ?_ (fun s hs => ?_) (fun x y hx hy hxy => ?_) (fun s hs => ?_) (fun x y hx hy hxy => ?_) ?_ ?_ ?_ ?_ rfl (fun i hi => K i (by omega))
        · rw [K _ (by omega)]; exact g1
        · have hs' : s < pN P := hs
          rw [K _ (by omega)]; exact g2 s hs
        · rw [K _ (by omega)]; exact g3 x y hx hy hxy
        · have hs' : s < pN P := hs
          rw [K _ (by omega)]; exact g4 s hs
        · rw [K _ (by omega)]; exact g5 x y hx hy hxy
        · rw [K _ (by omega)]; exact g6
        · show zI _ 74 91 = nI (if k = 0 then v else pDay P)
          by_cases e : k = 0
          · rw [if_pos e]; rw [e] at Kk ⊢; exact Kk
          · rw [if_neg e, K _ (by rcases (by omega : k = 1 ∨ k = 2) with rfl | rfl <;> decide)]; exact g7
        · show zI _ 74 194 = nI (if k = 1 then v else pSlips P)
          by_cases e : k = 1
          · rw [if_pos e]; rw [e] at Kk ⊢; exact Kk
          · rw [if_neg e, K _ (by rcases (by omega : k = 0 ∨ k = 2) with rfl | rfl <;> decide)]; exact g8
        · show zI _ 74 195 = nI (if k = 2 then v else pMood P)
          by_cases e : k = 2
          · rw [if_pos e]; rw [e] at Kk ⊢; exact Kk
          · rw [if_neg e, K _ (by rcases (by omega : k = 0 ∨ k = 1) with rfl | rfl <;> decide)]; exact g9
    · refine cOk_ref h rf1 ?_ ?_
      · unfold f_E_terms
        rw [if_neg c1, if_neg c2]
        rcases rng_no (by omega) hd with h1 | h1
        · rw [if_pos h1, zb2_eta]
        · by_cases h2 : d < 0
          · rw [if_pos h2, zb2_eta]
          · rw [if_neg h2, qb1 c3, if_neg h1, zb2_eta]
      · unfold f_M_terms
        have e5 : f_M_lies d 0 (nI (tmTop k)) = some 0 := lies_no (lo := 0) (by omega) (by omega) hd
        rw [c5, e5, qb1s, qgd (by decide), qb1s, if_pos rfl, zb2_eta]
  · have hn : ∀ k : Nat, k ≤ 2 → a ≠ nI k := fun k hk => ha k (Nat.zero_le _) hk
    refine cOk_ref h rf1 ?_ ?_
    · unfold f_E_terms
      rcases rng_no (hi := 2) (by omega) ha with h1 | h1
      · rw [if_pos h1, zb2_eta]
      · by_cases h2 : a < 0
        · rw [if_pos h2, zb2_eta]
        · rw [if_neg h2, if_pos (not_le_lt (a := a) (b := 2) h1), zb2_eta]
    · unfold f_M_terms
      have e : f_M_isTerm a d = some 0 := by
        unfold f_M_isTerm
        rw [if_neg (show ¬ a = 0 from hn 0 (by omega)), if_neg (show ¬ a = 1 from hn 1 (by omega)), if_neg (show ¬ a = 2 from hn 2 (by omega))]
      rw [qb1 e, if_pos rfl, zb2_eta]

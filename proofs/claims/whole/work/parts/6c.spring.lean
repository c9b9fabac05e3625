/-! spring, channel, terms -/
theorem not_le_lt {a b : Int32} (h : ¬ a ≤ b) : b < a := by
  rw [q_le] at h
  rw [q_lt]
  omega
/-- a parish's laws and what is in force stay, all else is given -/
theorem cRep_mk {S X : zSt} {P P' : zP} (h : cRep S 1 P) (hu : zUp S X) (hl : pLw P' = pLw P) (hf : pFc P' = pFc P) (h0 : zI X 1 0 = nI (pN P')) (h1 : ∀ s, s < pN P' → zI X 2 s = pLv P' s) (h2 : ∀ a b, a < 9 → b < 9 → a ≠ b → zI X 3 (pq a b) = pFar P' a b) (h3 : ∀ s, s < pN P' → nib (zL X 1 3) s = pMud P' s)
    (h4 : ∀ a b, a < 9 → b < 9 → a ≠ b → bL (zL X 1 4) (pq a b) = pSh P' a b) (h5 : ∀ p, 36 ≤ p → bL (zL X 1 4) p = false) (h6 : zI X 1 5 = nI (pAt P')) (h7 : zI X 1 6 = nI (pDay P')) (h8 : zI X 1 7 = nI (pSlips P')) (h9 : zI X 1 8 = nI (pMood P')) (hh : pHd P' = pHd P) (h10 : zI X 1 9 = zI S 1 9) (h11 : zI X 4 = zI S 4) (h12 : zI X 5 = zI S 5) (h13 : zI X 1 12 = zI S 1 12) (h14 : zI X 1 14 = zI S 1 14) : cRep X 1 P' := by
  have l14 := cRep_14 h hu
  obtain ⟨-, -, -, -, -, -, -, -, -, -, g11, g12, g13, g14, g15⟩ := h
  refine ⟨h0, h1, h2, h3, h4, h5, h6, h7, h8, h9, ?_, ?_, ?_, ?_, ?_⟩
  · rw [hh, h10]; exact g11
  · rw [hh]; intro i x hx
    show zI X 4 i = _ ∧ zI X 5 i = _
    rw [h11, h12]; exact g12 i x hx
  · rw [hl, h13]; exact g13
  · rw [hl]; exact l14
  · rw [hf, h14]; exact g15
theorem mRep_mk {S Y : zSt} {P P' : zP} (h : mRep S 74 0 P) (hP : pOK P) (hl : pLw P' = pLw P) (hf : pFc P' = pFc P) (h1 : zI Y 74 196 = nI (pN P')) (h2 : ∀ s, s < pN P' → zI Y 74 (92 + s) = pLv P' s) (h3 : ∀ a c, a < 9 → c < 9 → a ≠ c → zI Y 74 (101 + (9 * a + c)) = pFar P' a c) (h4 : ∀ s, s < pN P' → zI Y 74 (1 + s) = pMud P' s)
    (h5 : ∀ a c, a < 9 → c < 9 → a ≠ c → zI Y 74 (10 + (9 * a + c)) = b2 (pSh P' a c)) (h6 : zI Y 74 0 = nI (pAt P')) (h7 : zI Y 74 91 = nI (pDay P')) (h8 : zI Y 74 194 = nI (pSlips P')) (h9 : zI Y 74 195 = nI (pMood P')) (hh : pHd P' = pHd P) (hI : ∀ k, (182 ≤ k ∧ k ≤ 193) ∨ 197 ≤ k → zI Y 74 k = zI S 74 k) : mRep Y 74 0 P' := by
  have l13 := mRep_13 h hP (fun k hk => hI k (by omega))
  have p13 := hP.2.2.2.2.2.2.2.2.2.2.2.2.1
  obtain ⟨-, -, -, -, -, -, -, -, -, g10, g11, g12, g13, g14⟩ := h
  refine ⟨by rw [Nat.zero_add]; exact h1, fun s hs => by rw [Nat.zero_add]; exact h2 s hs, fun a c ha hc hac => by rw [Nat.zero_add]; exact h3 a c ha hc hac, fun s hs => by rw [Nat.zero_add]; exact h4 s hs, fun a c ha hc hac => by rw [Nat.zero_add]; exact h5 a c ha hc hac, h6, by rw [Nat.zero_add]; exact h7, by rw [Nat.zero_add]; exact h8, by rw [Nat.zero_add]; exact h9, ?_, ?_, ?_, ?_, ?_⟩
  · rw [hh, hI _ (by omega)]; exact g10
  · rw [hh]; intro i x hx
    have hi : i < (pHd P).length := (List.getElem?_eq_some_iff.mp hx).1
    rw [hI _ (by omega), hI _ (by omega)]; exact g11 i x hx
  · rw [hl, hI _ (by omega)]; exact g12
  · rw [hl]; exact l13
  · rw [hf, hI _ (by omega)]; exact g14
/-- the class's granted call that clears its journal, and the reference's -/
theorem cOk_set {S X Y : zSt} {P' : zP} (h : Inv S) {v : Int32} {fE fM : zSt → Option (Int32 × zSt)} (hE : fE S = some (v, zwI X 0 19 0)) (hX : cX S X) (h32 : zI X 32 0 = 0) (hn : zI X 32 1 = zI S 32 1) (hM : fM (zwI X 0 19 0) = some (v, zwI (zwI Y 72 32 0) 72 0 0)) (hY : rY (zwI X 0 19 0) Y) (hP' : pOK P') (hc : cRep X 1 P') (hm : mRep Y 74 0 P') : cOk fE fM S := by
  obtain ⟨P, es, hP, hc0, hm0, hj, -⟩ := id h
  have hY2 : rY (zwI X 0 19 0) (zwI Y 72 32 0) := rY_t hY (rY_w _ _ (by omega))
  refine cOk_gr (es' := []) h hE hX hM hY2 hP' hc (mRep_f hm (fun k _ => by rw [qIIo _ _ (by omega)]) hP') (jRel_nil P' ?_ (qIIs _ _ _ _) ?_)
  · rw [hY2.2.1 32 (by omega), qIIo _ _ (by omega)]; exact h32
  · obtain ⟨nx, g1, g2⟩ := jRel_nx hj
    exact ⟨nx, g1, by rw [hY2.2.1 32 (by omega), qIIo _ _ (by omega), hn]; exact g2⟩
def pSpr (P : zP) (lv md : Int32) : zP := (pN P + 1, fun s => if s = pN P then lv else pLv P s, pFar P, fun s => if s = pN P then md else pMud P s, pSh P, P.2.2.2.2.2)
theorem pOK_spr {P : zP} (hP : pOK P) (hn : pN P < 9) {lv md : Nat} (h1 : lv ≤ 9) (h2 : md ≤ 9) : pOK (pSpr P (nI lv) (nI md)) := by
  obtain ⟨p1, p2, p3, p4, p5, p6, p7, p8, p9, p10, p11, p12, p13, p14, p15, p16⟩ := hP
  refine ⟨show pN P + 1 ≤ 9 from hn, fun s hs => ?_, fun s hs => ?_, p4, p5, p6, p7, fun a b hab => p8 a b (Nat.le_of_succ_le hab), Or.inl ?_, p10, p11, p12, p13, fun i x hx => ?_, p15, p16⟩
  · have hs' : s < pN P + 1 := hs
    show ∃ v : Nat, v ≤ 9 ∧ (if s = pN P then nI lv else pLv P s) = nI v
    by_cases e : s = pN P
    · rw [if_pos e]; exact ⟨lv, h1, rfl⟩
    · rw [if_neg e]; exact p2 s (by omega)
  · have hs' : s < pN P + 1 := hs
    show ∃ v : Nat, v ≤ 9 ∧ (if s = pN P then nI md else pMud P s) = nI v
    by_cases e : s = pN P
    · rw [if_pos e]; exact ⟨md, h2, rfl⟩
    · rw [if_neg e]; exact p3 s (by omega)
  · show pAt P < pN P + 1
    omega
  · have := p14 i x hx
    exact ⟨Nat.lt_succ_of_lt this.1, this.2⟩
theorem call_spring {S : zSt} (h : Inv S) (a d : Int32) : cOk (f_E_spring a d) (f_M_spring a d) S := by
  obtain ⟨P, es, hP, hc, hm, hj, hi, ht, hms, hdr, hs⟩ := id h
  have h9 := hP.1
  rcases rng_or a 0 9 with ⟨lv, -, hlv, rfl⟩ | ha
  · have c1 : ¬ nI lv < 0 := n_neg (by omega)
    have c2 : ¬ 9 < nI lv := fun h => absurd ((n_lt (a := 9) (by omega) (by omega)).mp h) (by omega)
    have c3 : f_M_lies (nI lv) 0 9 = some 1 := lies_yes (lo := 0) (hi := 9) (by omega) hlv (by omega)
    rcases rng_or d 0 9 with ⟨md, -, hmd, rfl⟩ | hd
    · have c4 : ¬ nI md < 0 := n_neg (by omega)
      have c5 : nI md ≤ 9 := (n_le (b := 9) (by omega) (by omega)).mpr hmd
      have c6 : f_M_lies (nI md) 0 9 = some 1 := lies_yes (lo := 0) (hi := 9) (by omega) hmd (by omega)
      have m0 : 0 ≤ (nI md).toInt := by rw [q_nI (by omega)]; omega
      have m9 : (nI md).toInt < 16 := by rw [q_nI (by omega)]; omega
      have e0 : zI S 1 0 = nI (pN P) := hc.1
      by_cases hn : pN P < 9
      · obtain ⟨X, eX⟩ : ∃ X, X = zwL (zwI (zwI (zwI S 32 0 0) 2 (pN P) (nI lv)) 1 0 (nI (pN P + 1))) 1 3 (nibS (zL S 1 3) (pN P) (nI md)) := ⟨_, rfl⟩
        have hX : cX S X := by rw [eX]; exact cX_t (cX_w _ _ (by omega)) (cX_t (cX_w _ _ (by omega)) (cX_t (cX_w _ _ (by omega)) (cX_wL _ _ (by omega))))
        have xI : ∀ j k, zI X j k = zI (zwI (zwI (zwI S 32 0 0) 2 (pN P) (nI lv)) 1 0 (nI (pN P + 1))) j k := fun j k => by rw [eX]; rfl
        have xL : ∀ j k, zL X j k = if j = 1 ∧ k = 3 then nibS (zL S 1 3) (pN P) (nI md) else zL S j k := fun j k => by rw [eX]; rfl
        have e74 : zI (zwI X 0 19 0) 74 = zI S 74 := by
          funext k
          rw [qIIo _ _ (by omega), hX.2 74 (by omega)]
        have hm1 : mRep (zwI X 0 19 0) 74 0 P := mRep_f hm (fun k _ => by rw [e74]) hP
        have hY : rY (zwI X 0 19 0) (zwI (zwI (zwI (zwI X 0 19 0) 74 (92 + pN P) (nI lv)) 74 (1 + pN P) (nI md)) 74 196 (nI (pN P + 1))) := rY_t (rY_w _ _ (by omega)) (rY_t (rY_w _ _ (by omega)) (rY_w _ _ (by omega)))
        refine cOk_set (v := nI (pN P)) (X := X) (P' := pSpr P (nI lv) (nI md)) h ?_ hX ?_ ?_ ?_ hY (pOK_spr hP hn hlv hmd) ?_ ?_
        · have e1 : f_Ps_addSpring 1 (nI lv) (nI md) (zwI S 32 0 0) = some (nI (pN P), X) := by
            unfold f_Ps_addSpring
            have e2 : zI (zwI S 32 0 0) 1 0 = nI (pN P) := by rw [qIIo _ _ (by omega)]; exact e0
            rw [e2, if_neg (n_neg (by omega)), if_pos (show nI (pN P) < 9 from (n_lt (b := 9) (by omega) (by omega)).mpr hn), n_gd (by omega) (by omega), q_cl (by omega), n_1, eX]
            rfl
          unfold f_E_spring
          rw [if_neg c1, if_neg c2, if_neg c4, if_pos c5, e0, if_pos (show nI (pN P) < 9 from (n_lt (b := 9) (by omega) (by omega)).mpr hn), qb1 (show f_Jo_clear 32 S = some (zwI S 32 0 0) from rfl), qb2 e1]
          rfl
        · rw [xI, qIIo _ _ (by omega), qIIo _ _ (by omega), qIIs]
        · rw [xI, qIIo _ _ (by omega), qIIo _ _ (by omega), qIIo _ _ (by omega)]
        · unfold f_M_spring
          rw [qb1 c3, if_neg (by decide), qb1 c6, if_neg (by decide), qb1 (m_many hm1), if_neg (show ¬ nI (pN P) = 9 from fun h => absurd ((n_eq (b := 9) (by omega) (by omega)).mp h) (by omega)), show (92 : Int32) + nI (pN P) = nI (92 + pN P) from n_add 92 _, show (1 : Int32) + nI (pN P) = nI (1 + pN P) from n_add 1 _, n_gd (by omega) (by omega), n_gd (by omega) (by omega), q_cl (by omega), q_cl (by omega)]
          have e7 : zI (zwI (zwI (zwI X 0 19 0) 74 (92 + pN P) (nI lv)) 74 (1 + pN P) (nI md)) 74 (196 : Int32).toNatClampNeg = nI (pN P) := by
            rw [show (196 : Int32).toNatClampNeg = 196 from rfl, qIIo _ _ (by omega), qIIo _ _ (by omega)]
            have := hm1.1
            rw [Nat.zero_add] at this
            exact this
          rw [e7, n_1]
          rfl
        · refine cRep_mk hc hX.1 rfl rfl ?_ (fun s hs => ?_) (fun a b ha hb hab => ?_) (fun s hs => ?_) (fun a b ha hb hab => ?_) (fun p hp => ?_) ?_ ?_ ?_ ?_ rfl ?_ ?_ ?_ ?_ ?_
          · rw [xI, qIIs]; rfl
          · have hs' : s < pN P + 1 := hs
            show zI X 2 s = if s = pN P then nI lv else pLv P s
            rw [xI, qIIo _ _ (by omega)]
            by_cases e : s = pN P
            · rw [if_pos e, e, qIIs]
            · rw [if_neg e, qIIo _ _ (by omega), qIIo _ _ (by omega)]; exact hc.2.1 s (by omega)
          · rw [xI, qIIo _ _ (by omega), qIIo _ _ (by omega), qIIo _ _ (by omega)]; exact hc.2.2.1 a b ha hb hab
          · have hs' : s < pN P + 1 := hs
            show nib (zL X 1 3) s = if s = pN P then nI md else pMud P s
            rw [xL, if_pos ⟨rfl, rfl⟩]
            by_cases e : s = pN P
            · rw [if_pos e, e, nib_same _ hn m0 m9]
            · rw [if_neg e, nib_other _ hn (by omega) (fun h => e h.symm) m0 m9]; exact hc.2.2.2.1 s (by omega)
          · rw [xL, if_neg (by omega)]; exact hc.2.2.2.2.1 a b ha hb hab
          · rw [xL, if_neg (by omega)]; exact hc.2.2.2.2.2.1 p hp
          · rw [xI, qIIo _ _ (by omega), qIIo _ _ (by omega), qIIo _ _ (by omega)]; exact hc.2.2.2.2.2.2.1
          · rw [xI, qIIo _ _ (by omega), qIIo _ _ (by omega), qIIo _ _ (by omega)]; exact hc.2.2.2.2.2.2.2.1
          · rw [xI, qIIo _ _ (by omega), qIIo _ _ (by omega), qIIo _ _ (by omega)]; exact hc.2.2.2.2.2.2.2.2.1
          · rw [xI, qIIo _ _ (by omega), qIIo _ _ (by omega), qIIo _ _ (by omega)]; exact hc.2.2.2.2.2.2.2.2.2.1
          · rw [xI, qIIo _ _ (by omega), qIIo _ _ (by omega), qIIo _ _ (by omega)]
          · funext k; rw [xI, qIIo _ _ (by omega), qIIo _ _ (by omega), qIIo _ _ (by omega)]
          · funext k; rw [xI, qIIo _ _ (by omega), qIIo _ _ (by omega), qIIo _ _ (by omega)]
          · rw [xI, qIIo _ _ (by omega), qIIo _ _ (by omega), qIIo _ _ (by omega)]
          · rw [xI, qIIo _ _ (by omega), qIIo _ _ (by omega), qIIo _ _ (by omega)]
        · have K : ∀ k, k ≠ 92 + pN P → k ≠ 1 + pN P → k ≠ 196 → zI (zwI (zwI (zwI (zwI X 0 19 0) 74 (92 + pN P) (nI lv)) 74 (1 + pN P) (nI md)) 74 196 (nI (pN P + 1))) 74 k = zI S 74 k := fun k h1 h2 h3 => by
            rw [qIIo _ _ (by omega), qIIo _ _ (by omega), qIIo _ _ (by omega), e74]
          have hz := hm
          unfold mRep at hz
          simp only [Nat.zero_add] at hz
          obtain ⟨g1, g2, g3, g4, g5, g6, g7, g8, g9, g10, g11, g12, g13, g14⟩ := hz
          refine mRep_mk hm hP rfl rfl ?_ (fun s hs => ?_) (fun a b ha hb hab => ?_) (fun s hs => ?_) (fun a b ha hb hab => ?_) ?_ ?_ ?_ ?_ rfl (fun k hk => K k (by omega) (by omega) (by omega))
          · rw [qIIs]; rfl
          · have hs' : s < pN P + 1 := hs
            show zI _ 74 (92 + s) = if s = pN P then nI lv else pLv P s
            by_cases e : s = pN P
            · rw [if_pos e, e, qIIo _ _ (by omega), qIIo _ _ (by omega), qIIs]
            · rw [if_neg e, K _ (by omega) (by omega) (by omega)]; exact g2 s (by omega)
          · rw [K _ (by omega) (by omega) (by omega)]; exact g3 a b ha hb hab
          · have hs' : s < pN P + 1 := hs
            show zI _ 74 (1 + s) = if s = pN P then nI md else pMud P s
            by_cases e : s = pN P
            · rw [if_pos e, e, qIIo _ _ (by omega), qIIs]
            · rw [if_neg e, K _ (by omega) (by omega) (by omega)]; exact g4 s (by omega)
          · rw [K _ (by omega) (by omega) (by omega)]; exact g5 a b ha hb hab
          · rw [K _ (by omega) (by omega) (by omega)]; exact g6
          · rw [K _ (by omega) (by omega) (by omega)]; exact g7
          · rw [K _ (by omega) (by omega) (by omega)]; exact g8
          · rw [K _ (by omega) (by omega) (by omega)]; exact g9
      · refine cOk_ref h rf5 ?_ ?_
        · unfold f_E_spring
          rw [if_neg c1, if_neg c2, if_neg c4, if_pos c5, e0, if_neg (show ¬ nI (pN P) < 9 from fun h => hn ((n_lt (b := 9) (by omega) (by omega)).mp h)), zb2_eta]
        · unfold f_M_spring
          rw [qb1 c3, if_neg (by decide), qb1 c6, if_neg (by decide), qb1 (m_many (rS1_m hm hP _ _)), if_pos (show nI (pN P) = 9 from (n_eq (b := 9) (by omega) (by omega)).mpr (by omega)), zb2_eta]
    · refine cOk_ref h rf1 ?_ ?_
      · unfold f_E_spring
        rw [if_neg c1, if_neg c2]
        rcases rng_no (hi := 9) (by omega) hd with h1 | h1
        · rw [if_pos h1, zb2_eta]
        · by_cases h2 : d < 0
          · rw [if_pos h2, zb2_eta]
          · rw [if_neg h2, if_neg (show ¬ d ≤ 9 from h1), zb2_eta]
      · unfold f_M_spring
        have e5 : f_M_lies d 0 9 = some 0 := lies_no (lo := 0) (hi := 9) (by omega) (by omega) hd
        rw [qb1 c3, if_neg (by decide), qb1 e5, if_pos rfl, zb2_eta]
  · refine cOk_ref h rf1 ?_ ?_
    · unfold f_E_spring
      rcases rng_no (hi := 9) (by omega) ha with h1 | h1
      · rw [if_pos h1, zb2_eta]
      · by_cases h2 : a < 0
        · rw [if_pos h2, zb2_eta]
        · rw [if_neg h2, if_pos (not_le_lt (a := a) (b := 9) h1), zb2_eta]
    · unfold f_M_spring
      have e5 : f_M_lies a 0 9 = some 0 := lies_no (lo := 0) (hi := 9) (by omega) (by omega) ha
      rw [qb1 e5, if_pos rfl, zb2_eta]

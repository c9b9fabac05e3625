/-! orders: the words of both -/
def mdI (P : zP) (s : Nat) : Int32 := if s < pN P then pMud P s else -1
def soI (P : zP) (s : Nat) : Int32 := if s < pN P then pSo (pD P (pLaw P)) (pAt P) s else -1
def oEs (P : zP) (dn lt : Int32) (so : Nat → Int32) : lE := fun k => if k = 0 then (nI (pDay P)).toInt else if k = 1 then dn.toInt else if k = 2 then lt.toInt else if k = 3 then (nI (pAt P)).toInt else if k = 4 then (nI (smR (gCh P 1) (pN P))).toInt else if k < 14 then (mdI P (k - 5)).toInt else if k < 23 then (if k - 14 < pN P then so (k - 14) else -1).toInt else 0
def oEv (P : zP) (dn lt : Int32) : lE := oEs P dn lt (fun s => pSo (pD P (pLaw P)) (pAt P) s)
theorem oE_md (P : zP) (dn lt : Int32) (so : Nat → Int32) {s : Nat} (h : s < 9) : oEs P dn lt so (5 + s) = (mdI P s).toInt := by
  unfold oEs
  rw [if_neg (by omega), if_neg (by omega), if_neg (by omega), if_neg (by omega), if_neg (by omega), if_pos (by omega), Nat.add_sub_cancel_left]
theorem oE_ss (P : zP) (dn lt : Int32) (so : Nat → Int32) {s : Nat} (h : s < 9) : oEs P dn lt so (14 + s) = (if s < pN P then so s else -1).toInt := by
  unfold oEs
  rw [if_neg (by omega), if_neg (by omega), if_neg (by omega), if_neg (by omega), if_neg (by omega), if_neg (by omega), if_pos (by omega), Nat.add_sub_cancel_left]
theorem oE_so (P : zP) (dn lt : Int32) {s : Nat} (h : s < 9) : oEv P dn lt (14 + s) = (soI P s).toInt := oE_ss P dn lt _ h
theorem at_9 {P : zP} (hP : pOK P) : pAt P < 9 := by
  have h9 := hP.1
  have := hP.2.2.2.2.2.2.2.2.1
  omega
theorem has_any (a : Int32) (X : zSt) : f_Pa_has a X = some 0 ∨ f_Pa_has a X = some 1 := by
  unfold f_Pa_has
  split
  · exact Or.inl rfl
  · split
    · exact Or.inl rfl
    · exact Or.inr rfl
theorem soon_any {a s : Nat} (ha : a < 9) (hs : s < 9) (X : zSt) : ∃ v, f_Pa_soonest (nI a) (nI s) X = some v := by
  unfold f_Pa_soonest
  rcases has_any (nI a) X with e | e
  · rw [qb1 e, if_pos rfl, if_pos (by decide)]
    exact ⟨_, rfl⟩
  · rw [qb1 e, if_neg (by decide)]
    rcases has_any (nI s) X with e2 | e2
    · rw [qb1 e2, if_pos rfl, if_pos (by decide)]
      exact ⟨_, rfl⟩
    · rw [qb1 e2, if_neg (by decide), qb1 (pa_pair ha hs), n_gd (by omega) (by omega)]
      split
      · exact ⟨_, rfl⟩
      · exact ⟨_, rfl⟩
theorem soon_so {P : zP} (hP : pOK P) {X : zSt} (hp : zPp X P (pLaw P)) {s : Nat} (hs : s < 9) : f_Pa_soonest (nI (pAt P)) (nI s) X = some (soI P s) := by
  have h9 := hP.1
  unfold soI
  by_cases h : s < pN P
  · rw [if_pos h]
    exact pa_soon hP hp (by have := hP.2.2.2.2.2.2.2.2.1; omega) h
  · rw [if_neg h]
    exact pa_soon_no hP hp.1 (Or.inr (ne_n h9 hs (by omega)))
theorem mud_md {P : zP} (hP : pOK P) {X : zSt} {o : Nat} (hc : cRep X o P) {s : Nat} (hs : s < 9) : f_Ps_mudOf o (nI s) X = some (mdI P s) := by
  have h9 := hP.1
  unfold mdI
  by_cases h : s < pN P
  · rw [if_pos h]
    exact mud_yes hc hP h
  · rw [if_neg h]
    exact mud_no hc hP (ne_n h9 hs (by omega))
theorem tw_58 (fu : Nat) {P : zP} (hP : pOK P) {fl : Prop} : ∀ (m s n : Nat) (X : zSt), s + m = 9 → m + 1 ≤ n → cRep X 1 P → (fl → zPp X P (pLaw P)) → (∀ t, t < s → zI X 69 (5 + t) = mdI P t ∧ (fl → zI X 69 (14 + t) = soI P t)) → ∃ X', f_E_tellOrderWords_58 fu n (nI s) X = some X' ∧ oR 69 X X' ∧ (∀ k, k < 5 ∨ 23 ≤ k → zI X' 69 k = zI X 69 k) ∧ ∀ t, t < 9 → zI X' 69 (5 + t) = mdI P t ∧ (fl → zI X' 69 (14 + t) = soI P t) := by
  have h9 := hP.1
  have hat := at_9 hP
  intro m
  induction m with
  | zero =>
    intro s n X h1 h2 hc hf hr
    obtain ⟨n', rfl⟩ : ∃ n', n = n' + 1 := ⟨n - 1, by omega⟩
    refine ⟨X, ?_, oR_r _ X, fun _ _ => rfl, by rw [← show s = 9 by omega]; exact hr⟩
    unfold f_E_tellOrderWords_58
    rw [if_pos (show (9 : Int32) ≤ nI s from (n_le (a := 9) (by omega) (by omega)).mpr (by omega))]
  | succ m ih =>
    intro s n X h1 h2 hc hf hr
    obtain ⟨n', rfl⟩ : ∃ n', n = n' + 1 := ⟨n - 1, by omega⟩
    have hs : s < 9 := by omega
    obtain ⟨X1, eX1⟩ : ∃ X1, X1 = zwI X 69 (5 + s) (mdI P s) := ⟨_, rfl⟩
    have o1 : oR 69 X X1 := by rw [eX1]; exact oR_w _ _ _ _
    have c1 : zCo X X1 := by rw [eX1]; exact zCo_w _ _ (by unfold scI; omega)
    have hc1 := cRep_co hc c1 (by omega)
    obtain ⟨v, ev⟩ : ∃ v, f_Pa_soonest (nI (pAt P)) (nI s) X1 = some v := soon_any hat hs X1
    have hv : fl → v = soI P s := fun f => by
      have := soon_so hP (zPp_f (hf f) (fun j a b => funext fun k => o1.2 j k (by omega))) hs
      rw [ev] at this
      injection this
    obtain ⟨X2, eX2⟩ : ∃ X2, X2 = zwI X1 69 (14 + s) v := ⟨_, rfl⟩
    have o2 : oR 69 X X2 := by rw [eX2]; exact oR_t o1 (oR_w _ _ _ _)
    have c2 : zCo X X2 := by rw [eX2]; exact zCo_t c1 (zCo_w _ _ (by unfold scI; omega))
    obtain ⟨X3, g1, g2, g3, g4⟩ := ih (s + 1) n' X2 (by omega) (by omega) (cRep_co hc c2 (by omega)) (fun f => zPp_f (hf f) (fun j a b => funext fun k => o2.2 j k (by omega))) (fun t ht => by
      rw [eX2, eX1]
      by_cases e : t = s
      · rw [e]
        refine ⟨by rw [qIIo _ _ (by omega), qIIs], fun f => ?_⟩
        rw [qIIs]
        exact hv f
      · obtain ⟨r1, r2⟩ := hr t (by omega)
        refine ⟨by rw [qIIo _ _ (by omega), qIIo _ _ (by omega)]; exact r1, fun f => ?_⟩
        rw [qIIo _ _ (by omega), qIIo _ _ (by omega)]
        exact r2 f)
    refine ⟨X3, ?_, oR_t o2 g2, fun k hk => ?_, g4⟩
    · rw [← g1]
      obtain ⟨K, eK⟩ : ∃ K, K = f_E_tellOrderWords_58 fu n' := ⟨_, rfl⟩
      rw [← eK]
      have e15 : zI X1 1 5 = nI (pAt P) := hc1.2.2.2.2.2.2.1
      unfold f_E_tellOrderWords_58
      rw [if_neg (show ¬ (9 : Int32) ≤ nI s from fun h => absurd ((n_le (a := 9) (by omega) (by omega)).mp h) (by omega)), qb1 (mud_md hP hc hs), show 5 + nI s = nI (5 + s) from n_add 5 s, n_gd (by omega) (by omega), q_cl (by omega), ← eX1, e15, qb1 ev, show 14 + nI s = nI (14 + s) from n_add 14 s, n_gd (by omega) (by omega), q_cl (by omega), ← eX2, ← eK, n_1]
    · rw [g3 k hk, eX2, qIIo _ _ (by omega), eX1, qIIo _ _ (by omega)]
theorem c_words (fu : Nat) (hfu : 100 ≤ fu) {P : zP} (hP : pOK P) {fl : Prop} {X : zSt} (hc : cRep X 1 P) (hf : fl → zPp X P (pLaw P)) (h69 : ∀ k, 23 ≤ k → zI X 69 k = 0) (dn lt : Int32) : ∃ X', f_E_tellOrderWords fu dn lt X = some X' ∧ oR 69 X X' ∧ (∀ k, 23 ≤ k → zI X' 69 k = 0) ∧ (∀ k, k < 14 ∨ 22 < k → (zI X' 69 k).toInt = oEv P dn lt k) ∧ (fl → ∀ k, (zI X' 69 k).toInt = oEv P dn lt k) := by
  obtain ⟨X0, eX0⟩ : ∃ X0, X0 = zwI (zwI (zwI (zwI (zwI X 69 0 (zI X 1 6)) 69 1 dn) 69 2 lt) 69 3 (zI (zwI (zwI (zwI X 69 0 (zI X 1 6)) 69 1 dn) 69 2 lt) 1 5)) 69 4 (nI (smR (gCh P 1) (pN P))) := ⟨_, rfl⟩
  have o0 : oR 69 X X0 := by rw [eX0]; exact oR_t (oR_w _ _ _ _) (oR_t (oR_w _ _ _ _) (oR_t (oR_w _ _ _ _) (oR_t (oR_w _ _ _ _) (oR_w _ _ _ _))))
  have c0 : zCo X X0 := by
    rw [eX0]
    exact zCo_t (zCo_w _ _ (by unfold scI; omega)) (zCo_t (zCo_w _ _ (by unfold scI; omega)) (zCo_t (zCo_w _ _ (by unfold scI; omega)) (zCo_t (zCo_w _ _ (by unfold scI; omega)) (zCo_w _ _ (by unfold scI; omega)))))
  obtain ⟨X1, g1, g2, g3, g4⟩ := tw_58 fu hP (fl := fl) 9 0 fu X0 (by omega) (by omega) (cRep_co hc c0 (by omega)) (fun f => zPp_f (hf f) (fun j a b => funext fun k => o0.2 j k (by omega))) (fun t ht => absurd ht (by omega))
  have w0 : zI X0 69 0 = nI (pDay P) := by rw [eX0, qIIo _ _ (by omega), qIIo _ _ (by omega), qIIo _ _ (by omega), qIIo _ _ (by omega), qIIs]; exact hc.2.2.2.2.2.2.2.1
  have w1 : zI X0 69 1 = dn := by rw [eX0, qIIo _ _ (by omega), qIIo _ _ (by omega), qIIo _ _ (by omega), qIIs]
  have w2 : zI X0 69 2 = lt := by rw [eX0, qIIo _ _ (by omega), qIIo _ _ (by omega), qIIs]
  have w3 : zI X0 69 3 = nI (pAt P) := by rw [eX0, qIIo _ _ (by omega), qIIs, qIIo _ _ (by omega), qIIo _ _ (by omega), qIIo _ _ (by omega)]; exact hc.2.2.2.2.2.2.1
  have w4 : zI X0 69 4 = nI (smR (gCh P 1) (pN P)) := by rw [eX0, qIIs]
  have k23 : ∀ k, 23 ≤ k → zI X1 69 k = 0 := fun k hk => by
    rw [g3 k (Or.inr hk), eX0, qIIo _ _ (by omega), qIIo _ _ (by omega), qIIo _ _ (by omega), qIIo _ _ (by omega), qIIo _ _ (by omega)]
    exact h69 k hk
  have e23 : ∀ k, 23 ≤ k → (zI X1 69 k).toInt = oEv P dn lt k := fun k hk => by
    rw [k23 k hk]
    unfold oEv oEs
    rw [if_neg (by omega), if_neg (by omega), if_neg (by omega), if_neg (by omega), if_neg (by omega), if_neg (by omega), if_neg (by omega)]
    rfl
  have e14 : ∀ k, k < 14 → (zI X1 69 k).toInt = oEv P dn lt k := fun k hk => by
    by_cases h5 : k < 5
    · rw [g3 k (Or.inl h5)]
      rcases (by omega : k = 0 ∨ k = 1 ∨ k = 2 ∨ k = 3 ∨ k = 4) with rfl | rfl | rfl | rfl | rfl
      · rw [w0]; rfl
      · rw [w1]; rfl
      · rw [w2]; rfl
      · rw [w3]; rfl
      · rw [w4]; rfl
    · have := (g4 (k - 5) (by omega)).1
      rw [show 5 + (k - 5) = k by omega] at this
      have e2 := oE_md P dn lt (fun s => pSo (pD P (pLaw P)) (pAt P) s) (s := k - 5) (by omega)
      rw [show 5 + (k - 5) = k by omega] at e2
      rw [this]
      exact e2.symm
  refine ⟨X1, ?_, oR_t o0 g2, k23, fun k hk => ?_, fun f k => ?_⟩
  · have eb : f_Lg_bitCount (zL (zwI (zwI (zwI (zwI X 69 0 (zI X 1 6)) 69 1 dn) 69 2 lt) 69 3 (zI (zwI (zwI (zwI X 69 0 (zI X 1 6)) 69 1 dn) 69 2 lt) 1 5)) 1 4) = some (nI (smR (gCh P 1) (pN P))) := c_shut (S := X) hc hP
    unfold f_E_tellOrderWords
    rw [show (0 : Int32).toNatClampNeg = 0 from rfl, show (1 : Int32).toNatClampNeg = 1 from rfl, show (2 : Int32).toNatClampNeg = 2 from rfl, show (3 : Int32).toNatClampNeg = 3 from rfl, show (4 : Int32).toNatClampNeg = 4 from rfl, qb1 eb, ← eX0]
    exact g1
  · rcases hk with hk | hk
    · exact e14 k hk
    · exact e23 k (by omega)
  · by_cases h14 : k < 14
    · exact e14 k h14
    · by_cases h23 : 23 ≤ k
      · exact e23 k h23
      · have := (g4 (k - 14) (by omega)).2 f
        rw [show 14 + (k - 14) = k by omega] at this
        have e2 := oE_so P dn lt (s := k - 14) (by omega)
        rw [show 14 + (k - 14) = k by omega] at e2
        rw [this, e2]
/-- the reference's words at hand -/
def mWd (Z : zSt) (P : zP) (dn lt : Int32) (so : Nat → Int32) : Prop := mRep Z 74 0 P ∧ zI Z 72 27 = dn ∧ zI Z 72 28 = lt ∧ ∀ s, s < pN P → zI Z 85 s = so s
theorem mWd_f {Z Z' : zSt} {P : zP} {dn lt : Int32} {so : Nat → Int32} (hP : pOK P) (h : mWd Z P dn lt so) (h74 : zI Z' 74 = zI Z 74) (h85 : zI Z' 85 = zI Z 85) (h27 : zI Z' 72 27 = zI Z 72 27) (h28 : zI Z' 72 28 = zI Z 72 28) : mWd Z' P dn lt so := ⟨mRep_f h.1 (fun k _ => by rw [h74]) hP, h27.trans h.2.1, h28.trans h.2.2.1, fun s hs => by rw [h85]; exact h.2.2.2 s hs⟩
theorem spr_any {P : zP} (hP : pOK P) {Z : zSt} (hm : mRep Z 74 0 P) {s : Nat} (hs : s < 9) : f_M_isSpring (nI s) Z = some (if s < pN P then 1 else 0) := by
  by_cases h : s < pN P
  · rw [if_pos h]; exact m_spr_yes hm hP h
  · rw [if_neg h]; exact m_spr_no hm hP (ne_n hP.1 hs (by omega))
theorem eO_is (fu : Nat) (hfu : 100 ≤ fu) {P : zP} (hP : pOK P) {Z : zSt} {dn lt : Int32} {so : Nat → Int32} (h : mWd Z P dn lt so) (h25 : zI Z 72 25 = 1) : eO fu Z (oEs P dn lt so) := by
  have h9 := hP.1
  have hz : ∀ g b, mWd (zEv Z g b) P dn lt so := fun g b => mWd_f hP h (funext fun k => zEv_o _ _ _ (Or.inl (by omega))) (funext fun k => zEv_o _ _ _ (Or.inl (by omega))) (zEv_o _ _ _ (Or.inr (by omega))) (zEv_o _ _ _ (Or.inr (by omega)))
  refine ⟨h25, fun g b n k hn => ?_, fun g b k hk => ?_, fun g b k hk => ?_⟩
  · obtain ⟨m1, m2, m3, m4⟩ := hz g b
    have e91 : zI (zEv Z g b) 74 91 = nI (pDay P) := by have := m1.2.2.2.2.2.2.1; rw [Nat.zero_add] at this; exact this
    have e0 : zI (zEv Z g b) 74 0 = nI (pAt P) := m1.2.2.2.2.2.1
    have eS : f_M_shutMany fu (zEv Z g b) = some (nI (smR (gCh P 1) (pN P))) := by
      unfold f_M_shutMany
      rw [qb1 (m_chMany fu hfu m1 hP 1)]
    unfold f_M_orderValue
    rcases (by omega : n = 0 ∨ n = 1 ∨ n = 2 ∨ n = 3 ∨ n = 4) with rfl | rfl | rfl | rfl | rfl
    · rw [if_neg (by decide), if_pos (by decide), show (91 : Int32).toNatClampNeg = 91 from rfl, e91]
      exact ⟨_, rfl, rfl⟩
    · rw [if_neg (by decide), if_neg (by decide), if_pos (by decide), m2]
      exact ⟨_, rfl, rfl⟩
    · rw [if_neg (by decide), if_neg (by decide), if_neg (by decide), if_pos (by decide), m3]
      exact ⟨_, rfl, rfl⟩
    · rw [if_neg (by decide), if_neg (by decide), if_neg (by decide), if_neg (by decide), if_pos (by decide), show (0 : Int32).toNatClampNeg = 0 from rfl, e0]
      exact ⟨_, rfl, rfl⟩
    · rw [if_neg (by decide), if_neg (by decide), if_neg (by decide), if_neg (by decide), if_neg (by decide), if_pos (by decide), qb1 eS]
      exact ⟨_, rfl, rfl⟩
  · obtain ⟨m1, m2, m3, m4⟩ := hz g b
    rw [oE_md P dn lt so hk]
    unfold f_M_orderValue mdI
    rw [if_pos rfl, qb1 (spr_any hP m1 hk)]
    by_cases hs : k < pN P
    · have em := m1.2.2.2.1 k hs
      rw [Nat.zero_add] at em
      rw [if_pos hs, if_pos hs, if_neg (by decide), show 1 + nI k = nI (1 + k) from n_add 1 k, n_gd (by omega) (by omega), q_cl (by omega), em]
      exact ⟨_, rfl, rfl⟩
    · rw [if_neg hs, if_neg hs, if_pos rfl]
      exact ⟨_, rfl, rfl⟩
  · obtain ⟨m1, m2, m3, m4⟩ := hz g b
    rw [oE_ss P dn lt so hk]
    unfold f_M_orderValue
    rw [if_neg (by decide), if_neg (by decide), if_neg (by decide), if_neg (by decide), if_neg (by decide), if_neg (by decide), qb1 (spr_any hP m1 hk)]
    by_cases hs : k < pN P
    · rw [if_pos hs, if_pos hs, if_neg (by decide), n_gd (by omega) (by omega), q_cl (by omega), m4 k hs]
      exact ⟨_, rfl, rfl⟩
    · rw [if_neg hs, if_neg hs, if_pos rfl]
      exact ⟨_, rfl, rfl⟩

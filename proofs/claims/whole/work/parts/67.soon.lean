/-! soon, way, never, centre, share -/
def pSo (D : zD) (a b : Nat) : Int32 := if 1000000 ≤ D a b then -1 else nI (D a b)
section QSO
variable {P : zP} {law : List lC} {S : zSt}
theorem pa_has (hP : pOK P) (h : zI S 55 0 = nI (pN P)) {s : Nat} (hs : s < pN P) : f_Pa_has (nI s) S = some 1 := by
  have h9 := hP.1
  unfold f_Pa_has
  rw [if_neg (n_neg (by omega)), h, if_neg (fun h => absurd ((n_le (by omega) (by omega)).mp h) (by omega))]
theorem pa_hasn (hP : pOK P) (h : zI S 55 0 = nI (pN P)) {a : Int32} (ha : ∀ s, s < pN P → a ≠ nI s) : f_Pa_has a S = some 0 := by
  have h9 := hP.1
  unfold f_Pa_has
  by_cases h0 : a < 0
  · rw [if_pos h0]
  · rw [if_neg h0, h]
    rw [q_lt, q_0] at h0
    obtain ⟨m, rfl, hm, hb⟩ := q_ex (a := a) (by omega)
    have : pN P ≤ m := Nat.le_of_not_lt (fun h => ha m h rfl)
    rw [if_pos ((n_le (by omega) (by omega)).mpr this)]
theorem m1_ne {P : zP} (hP : pOK P) : ∀ s, s < pN P → (-1 : Int32) ≠ nI s := by
  have h9 := hP.1
  intro s hs h
  have := congrArg Int32.toInt h
  rw [q_nI (by omega), show (-1 : Int32).toInt = -1 from rfl] at this
  omega
theorem row_cmp {D : zD} {a b : Nat} (h : D a b ≤ 1000000) : ((1000000 : Int32) ≤ nI (D a b) ↔ 1000000 ≤ D a b) ∧ (nI (D a b) < (1000000 : Int32) ↔ D a b < 1000000) := ⟨n_le (a := 1000000) (by omega) (by omega), n_lt (b := 1000000) (by omega) (by omega)⟩
theorem pa_soon (hP : pOK P) (h : zPp S P law) {a b : Nat} (ha : a < pN P) (hb : b < pN P) : f_Pa_soonest (nI a) (nI b) S = some (pSo (pD P law) a b) := by
  have h9 := hP.1
  obtain ⟨d1, d2⟩ := h.2.1 a b ha hb
  unfold f_Pa_soonest pSo
  rw [qb1 (pa_has hP h.1 ha), if_neg (by decide), qb1 (pa_has hP h.1 hb), if_neg (by decide), qb1 (pa_pair (by omega) (by omega)), n_gd (by omega) (by omega), q_cl (by omega), d1]
  by_cases hd : 1000000 ≤ pD P law a b
  · rw [if_pos ((row_cmp d2).1.mpr hd), if_pos hd]
  · rw [if_neg (fun h => hd ((row_cmp d2).1.mp h)), if_neg hd]
theorem pa_soon_no (hP : pOK P) (h : zI S 55 0 = nI (pN P)) {a b : Int32} (hab : (∀ s, s < pN P → a ≠ nI s) ∨ ∀ s, s < pN P → b ≠ nI s) : f_Pa_soonest a b S = some (-1) := by
  unfold f_Pa_soonest
  have l : (1000000 : Int32) ≤ 1000000 := by decide
  rcases spr_or P a with ⟨s, hs, rfl⟩ | ha
  · rw [qb1 (pa_has hP h hs), if_neg (by decide)]
    rcases hab with h1 | h1
    · exact absurd rfl (h1 s hs)
    · rw [qb1 (pa_hasn hP h h1), if_pos rfl, if_pos l]
  · rw [qb1 (pa_hasn hP h ha), if_pos rfl, if_pos l]
theorem m_soonOr (hP : pOK P) (h : mPp S P) {a b : Nat} (ha : a < pN P) (hb : b < pN P) : f_M_soonOr (nI a) (nI b) S = some (pSo (pD P (pLaw P)) a b) := by
  have h9 := hP.1
  obtain ⟨d1, d2⟩ := h.1 a b ha hb
  unfold f_M_soonOr pSo
  rw [qb1 (m_pair (by omega) (by omega)), n_gd (by omega) (by omega), q_cl (by omega), d1]
  by_cases hd : 1000000 ≤ pD P (pLaw P) a b
  · rw [if_neg (fun h => absurd ((row_cmp d2).2.mp h) (by omega)), if_pos hd]
  · rw [if_pos ((row_cmp d2).2.mpr (by omega)), if_neg hd, qb1 (m_pair (by omega) (by omega)), q_cl (by omega), qgd ⟨n_0 (by omega), by omega⟩, d1]
theorem pSo_m1 {D : zD} {a b : Nat} (h : D a b ≤ 1000000) : pSo D a b = -1 ↔ 1000000 ≤ D a b := by
  unfold pSo
  by_cases hd : 1000000 ≤ D a b
  · rw [if_pos hd]; exact ⟨fun _ => hd, fun _ => rfl⟩
  · rw [if_neg hd]
    exact ⟨fun h2 => by
      have := congrArg Int32.toInt h2
      rw [q_nI (by omega), show (-1 : Int32).toInt = -1 from rfl] at this
      omega, fun h2 => absurd h2 hd⟩
end QSO
/-- what both have on paper -/
theorem inv_paper (fu : Nat) (hfu : 1000 ≤ fu) {S : zSt} {P : zP} (hP : pOK P) (hc : cRep S 1 P) (hm : mRep S 74 0 P) (hs : iSt S) : ∃ S1, f_E_fillPaper fu S = some S1 ∧ zCo S S1 ∧ zPp S1 P (pLaw P) ∧ cRep S1 1 P ∧ mRep S1 74 0 P := by
  obtain ⟨S1, x1, x2, x3⟩ := fill_paper fu hfu hP (m_lawG hm _ hP.2.2.2.2.2.2.2.2.2.2.2.2.2.2.2) hc hs.1
  exact ⟨S1, x1, x2, x3, cRep_co hc x2 (by omega), mRep_co hm x2 (Or.inl rfl) hP⟩
theorem call_soon (fu : Nat) (hfu : 1000 ≤ fu) {S : zSt} (h : Inv S) (a b : Int32) : cOk (f_E_soon fu a b) (f_M_soon fu a b) S := by
  obtain ⟨P, es, hP, hc, hm, hj, hi, ht, hms, hd, hs⟩ := id h
  obtain ⟨S1, x1, x2, x3, x4, x5⟩ := inv_paper fu hfu hP hc hm hs
  have hE : ∀ r, f_Pa_soonest a b S1 = some r → f_E_soon fu a b S = some (r, S1) := by
    intro r hr
    unfold f_E_soon
    rw [qb1 x1, qb1 hr]
  rcases spr_or P a with ⟨s, hss, rfl⟩ | ha
  · rcases spr_or P b with ⟨t, htt, rfl⟩ | hb
    · obtain ⟨S2, y1, y2, y3⟩ := lays_soon fu (by omega) hP x5
      refine cOk_q h (hE _ (pa_soon hP x3 hss htt)) x2 (S2 := S2) ?_ y2
      unfold f_M_soon
      rw [qb1 (m_spr_yes x5 hP hss), if_neg (by decide), qb1 (m_spr_yes x5 hP htt), if_neg (by decide), qb1 y1, qb1 (m_soonOr hP y3 hss htt)]
    · refine cOk_q h (hE _ (pa_soon_no hP x3.1 (Or.inr hb))) x2 (S2 := S1) ?_ (zCo_r S1)
      unfold f_M_soon
      rw [qb1 (m_spr_yes x5 hP hss), if_neg (by decide), qb1 (m_spr_no x5 hP hb), if_pos rfl]
  · refine cOk_q h (hE _ (pa_soon_no hP x3.1 (Or.inl ha))) x2 (S2 := S1) ?_ (zCo_r S1)
    unfold f_M_soon
    rw [qb1 (m_spr_no x5 hP ha), if_pos rfl]
/-! never -/
def nvP (D : zD) (a : Nat) : Nat → Nat → Int32 → Int32
  | 0, _, set => set
  | m + 1, s, set => nvP D a m (s + 1) (if 1000000 ≤ D a s then set ||| ((1 : Int32) <<< (nI s &&& 31)) else set)
theorem call_never (fu : Nat) (hfu : 1000 ≤ fu) {S : zSt} (h : Inv S) (a : Int32) : cOk (f_E_never fu a) (f_M_never fu a) S := by
  obtain ⟨P, es, hP, hc, hm, hj, hi, ht, hms, hd, hs⟩ := id h
  have h9 := hP.1
  obtain ⟨S1, x1, x2, x3, x4, x5⟩ := inv_paper fu hfu hP hc hm hs
  rcases spr_or P a with ⟨s, hss, rfl⟩ | ha
  · obtain ⟨S2, y1, y2, y3⟩ := lays_soon fu (by omega) hP x5
    have hC : ∀ (m t : Nat) (set : Int32), t ≤ pN P → pN P < m + t → f_Pa_unreached_14 fu m (nI s) set (nI t) S1 = some (nvP (pD P (pLaw P)) s (pN P - t) t set) := by
      intro m
      induction m with
      | zero => intro t set h1 h2; omega
      | succ m ih =>
        intro t set h1 h2
        rw [f_Pa_unreached_14, x3.1]
        by_cases e : t = pN P
        · rw [if_pos ((n_le (by omega) (by omega)).mpr (by omega)), e, Nat.sub_self]; rfl
        · have d2 := (x3.2.1 s t hss (by omega)).2
          rw [if_neg (fun h => absurd ((n_le (by omega) (by omega)).mp h) (by omega)), qb1 (pa_soon hP x3 hss (by omega)), show pN P - t = (pN P - (t + 1)) + 1 by omega, n_1]
          show _ = some (nvP (pD P (pLaw P)) s (pN P - (t + 1)) (t + 1) (if 1000000 ≤ pD P (pLaw P) s t then set ||| ((1 : Int32) <<< (nI t &&& 31)) else set))
          by_cases hdd : 1000000 ≤ pD P (pLaw P) s t
          · rw [if_pos ((pSo_m1 d2).mpr hdd), if_pos hdd]; exact ih (t + 1) _ (by omega) (by omega)
          · rw [if_neg (fun h => hdd ((pSo_m1 d2).mp h)), if_neg hdd]; exact ih (t + 1) _ (by omega) (by omega)
    have hM : ∀ (m t : Nat) (set : Int32), t ≤ pN P → pN P < m + t → f_M_never_18 fu m (nI s) set (nI t) S2 = some (nvP (pD P (pLaw P)) s (pN P - t) t set, S2) := by
      have hm2 := mRep_co x5 y2 (Or.inl rfl) hP
      intro m
      induction m with
      | zero => intro t set h1 h2; omega
      | succ m ih =>
        intro t set h1 h2
        rw [f_M_never_18, qb1 (m_many hm2)]
        by_cases e : t = pN P
        · rw [if_pos ((n_le (by omega) (by omega)).mpr (by omega)), e, Nat.sub_self]; rfl
        · have d2 := (y3.1 s t hss (by omega)).2
          rw [if_neg (fun h => absurd ((n_le (by omega) (by omega)).mp h) (by omega)), qb1 (m_soonOr hP y3 hss (by omega)), show pN P - t = (pN P - (t + 1)) + 1 by omega, n_1]
          show _ = some (nvP (pD P (pLaw P)) s (pN P - (t + 1)) (t + 1) (if 1000000 ≤ pD P (pLaw P) s t then set ||| ((1 : Int32) <<< (nI t &&& 31)) else set), S2)
          by_cases hdd : 1000000 ≤ pD P (pLaw P) s t
          · rw [if_pos ((pSo_m1 d2).mpr hdd), if_pos hdd]; exact ih (t + 1) _ (by omega) (by omega)
          · rw [if_neg (fun h => hdd ((pSo_m1 d2).mp h)), if_neg hdd, Int32.or_zero]; exact ih (t + 1) _ (by omega) (by omega)
    refine cOk_q h (v := nvP (pD P (pLaw P)) s (pN P) 0 0) (S1 := S1) (S2 := S2) ?_ x2 ?_ y2
    · unfold f_E_never f_Pa_unreached
      rw [qb1 x1, qb1 (pa_has hP x3.1 hss), if_neg (by decide)]
      exact qb1 (hC fu 0 0 (by omega) (by omega))
    · unfold f_M_never
      rw [qb1 (m_spr_yes x5 hP hss), if_neg (by decide), qb1 y1]
      exact hM fu 0 0 (by omega) (by omega)
  · refine cOk_q h (v := -1) (S1 := S1) (S2 := S1) ?_ x2 ?_ (zCo_r S1)
    · unfold f_E_never f_Pa_unreached
      rw [qb1 x1, qb1 (pa_hasn hP x3.1 ha), if_pos rfl, qb1s]
    · unfold f_M_never
      rw [qb1 (m_spr_no x5 hP ha), if_pos rfl]
/-! centre -/
def lsP (D : zD) (a : Nat) : Nat → Nat → Nat → Nat
  | 0, _, acc => acc
  | m + 1, b, acc => lsP D a m (b + 1) (max acc (D a b))
theorem lsP_le {D : zD} {n a : Nat} (hD : ∀ b, b < n → D a b ≤ 1000000) : ∀ (m b acc : Nat), b + m = n → acc ≤ 1000000 → lsP D a m b acc ≤ 1000000 := by
  intro m
  induction m with
  | zero => intro b acc _ h; exact h
  | succ m ih =>
    intro b acc h1 h2
    have := hD b (by omega)
    exact ih (b + 1) _ (by omega) (by omega)
/-- the centre: which, and when it has come to the last -/
def cnP (D : zD) (n : Nat) : Nat → Nat → Option Nat × Nat → Option Nat × Nat
  | 0, _, r => r
  | m + 1, a, r => cnP D n m (a + 1) (if lsP D a n 0 0 < r.2 then (some a, lsP D a n 0 0) else r)
def cnOk (D : zD) (n : Nat) (r : Option Nat × Nat) : Prop := r.2 ≤ 1000000 ∧ ∀ c, r.1 = some c → c < n ∧ r.2 = lsP D c n 0 0
theorem cnP_ok {D : zD} {n : Nat} : ∀ (m a : Nat) (r : Option Nat × Nat), a + m = n → cnOk D n r → cnOk D n (cnP D n m a r) := by
  intro m
  induction m with
  | zero => intro a r _ h; exact h
  | succ m ih =>
    intro a r h1 h2
    refine ih (a + 1) _ (by omega) ?_
    split
    · rename_i hl
      exact ⟨by have := h2.1; show lsP D a n 0 0 ≤ 1000000; omega, fun c hc => by
        injection hc with hc
        subst hc
        exact ⟨by omega, rfl⟩⟩
    · exact h2
def ocI (o : Option Nat) : Int32 := match o with
  | none => -1
  | some c => nI c
theorem call_centre (fu : Nat) (hfu : 1000 ≤ fu) {S : zSt} (h : Inv S) (w : Int32) : cOk (f_E_centre fu w) (f_M_centre fu w) S := by
  obtain ⟨P, es, hP, hc, hm, hj, hi, ht, hms, hd, hs⟩ := id h
  have h9 := hP.1
  by_cases hw : w = 0 ∨ w = 1
  · obtain ⟨S1, x1, x2, x3, x4, x5⟩ := inv_paper fu hfu hP hc hm hs
    obtain ⟨S2, y1, y2, y3⟩ := lays_soon fu (by omega) hP x5
    have hm2 := mRep_co x5 y2 (Or.inl rfl) hP
    generalize hDD : pD P (pLaw P) = D at *
    have hDle : ∀ a, a < pN P → ∀ b, b < pN P → D a b ≤ 1000000 := fun a ha b hb => by rw [← hDD]; exact (x3.2.1 a b ha hb).2
    have row58 : ∀ a b, a < pN P → b < pN P → zI S1 58 (9 * a + b) = nI (D a b) := fun a b ha hb => by rw [← hDD]; exact (x3.2.1 a b ha hb).1
    have row90 : ∀ a b, a < pN P → b < pN P → zI S2 90 (9 * a + b) = nI (D a b) := fun a b ha hb => by rw [← hDD]; exact (y3.1 a b ha hb).1
    have hLast : ∀ a, a < pN P → ∀ (m b acc : Nat), b ≤ pN P → pN P < m + b → acc ≤ 1000000 → f_Pa_lastDay_4 fu m (nI a) (nI acc) (nI b) S1 = some (nI (lsP D a (pN P - b) b acc)) := by
      intro a ha m
      induction m with
      | zero => intro b acc h1 h2; omega
      | succ m ih =>
        intro b acc h1 h2 h3
        rw [f_Pa_lastDay_4, qb1 (pa_has hP x3.1 ha), if_neg (by decide), x3.1]
        by_cases e : b = pN P
        · rw [if_pos ((n_le (by omega) (by omega)).mpr (by omega)), e, Nat.sub_self]; rfl
        · have d2 := hDle a ha b (by omega)
          have l := n_le (a := D a b) (b := acc) (by omega) (by omega)
          rw [if_neg (fun h => absurd ((n_le (by omega) (by omega)).mp h) (by omega)), qb1 (pa_pair (by omega) (by omega)), n_gd (by omega) (by omega), q_cl (by omega), row58 a b ha (by omega), show pN P - b = (pN P - (b + 1)) + 1 by omega, n_1]
          show _ = some (nI (lsP D a (pN P - (b + 1)) (b + 1) (max acc (D a b))))
          by_cases hl : D a b ≤ acc
          · rw [if_pos (l.mpr hl), Nat.max_eq_left hl]; exact ih (b + 1) acc (by omega) (by omega) h3
          · rw [if_neg (fun h => hl (l.mp h)), Nat.max_eq_right (by omega)]; exact ih (b + 1) _ (by omega) (by omega) d2
    have hLast0 : ∀ a, a < pN P → f_Pa_lastDay fu (nI a) S1 = some (nI (lsP D a (pN P) 0 0)) := fun a ha => hLast a ha fu 0 0 (by omega) (by omega) (by omega)
    have hMid : ∀ (m a : Nat) (r : Option Nat × Nat), a ≤ pN P → pN P < m + a → r.2 ≤ 1000000 → f_Pa_middle_7 fu m (ocI r.1) (nI r.2) (nI a) S1 = some (ocI (cnP D (pN P) (pN P - a) a r).1) := by
      intro m
      induction m with
      | zero => intro a r h1 h2; omega
      | succ m ih =>
        intro a r h1 h2 h3
        rw [f_Pa_middle_7, x3.1]
        by_cases e : a = pN P
        · rw [if_pos ((n_le (by omega) (by omega)).mpr (by omega)), e, Nat.sub_self]; rfl
        · have d2 := lsP_le (hDle a (by omega)) (pN P) 0 0 (by omega) (by omega)
          have l := n_le (a := r.2) (b := lsP D a (pN P) 0 0) (by omega) (by omega)
          rw [if_neg (fun h => absurd ((n_le (by omega) (by omega)).mp h) (by omega)), qb1 (hLast0 a (by omega)), show pN P - a = (pN P - (a + 1)) + 1 by omega, n_1]
          show _ = some (ocI (cnP D (pN P) (pN P - (a + 1)) (a + 1) (if lsP D a (pN P) 0 0 < r.2 then (some a, lsP D a (pN P) 0 0) else r)).1)
          by_cases hl : r.2 ≤ lsP D a (pN P) 0 0
          · rw [if_pos (l.mpr hl), if_neg (by omega)]; exact ih (a + 1) r (by omega) (by omega) h3
          · rw [if_neg (fun h => hl (l.mp h)), if_pos (by omega)]; exact ih (a + 1) (some a, _) (by omega) (by omega) d2
    have hM38 : ∀ k23, ∀ a, a < pN P → ∀ (f l : Int32) (m b acc : Nat), b ≤ pN P → pN P < m + b → acc ≤ 1000000 → f_M_centre_38 fu k23 m w f l (nI a) (nI acc) (nI b) S2 = f_M_centre_72 fu k23 w f l (nI a) (nI (lsP D a (pN P - b) b acc)) S2 := by
      intro k23 a ha f l m
      induction m with
      | zero => intro b acc h1 h2; omega
      | succ m ih =>
        intro b acc h1 h2 h3
        rw [f_M_centre_38, qb1 (m_many hm2)]
        by_cases e : b = pN P
        · rw [if_pos ((n_le (by omega) (by omega)).mpr (by omega)), e, Nat.sub_self]; rfl
        · have d2 := hDle a ha b (by omega)
          have ll := n_le (a := acc) (b := D a b) (by omega) (by omega)
          have eG : f_M_greater (nI acc) (nI (D a b)) = some (nI (max acc (D a b))) := by
            unfold f_M_greater
            by_cases hl : acc ≤ D a b
            · rw [if_pos (ll.mpr hl), Nat.max_eq_right hl]
            · rw [if_neg (fun h => hl (ll.mp h)), Nat.max_eq_left (by omega)]
          rw [if_neg (fun h => absurd ((n_le (by omega) (by omega)).mp h) (by omega)), qb1 (m_pair (by omega) (by omega)), n_gd (by omega) (by omega), q_cl (by omega), row90 a b ha (by omega), qb1 eG, show pN P - b = (pN P - (b + 1)) + 1 by omega, n_1]
          exact ih (b + 1) _ (by omega) (by omega) (by omega)
    have hM23 : ∀ (m a : Nat) (r : Option Nat × Nat), a ≤ pN P → pN P < m + a → r.2 ≤ 1000000 → f_M_centre_23 fu m w (ocI r.1) (nI r.2) (nI a) S2 = f_M_centre_93 fu w (ocI (cnP D (pN P) (pN P - a) a r).1) (nI (cnP D (pN P) (pN P - a) a r).2) S2 := by
      intro m
      induction m with
      | zero => intro a r h1 h2; omega
      | succ m ih =>
        intro a r h1 h2 h3
        rw [f_M_centre_23, qb1 (m_many hm2)]
        by_cases e : a = pN P
        · rw [if_pos ((n_le (by omega) (by omega)).mpr (by omega)), e, Nat.sub_self]; rfl
        · have d2 := lsP_le (hDle a (by omega)) (pN P) 0 0 (by omega) (by omega)
          have l := n_lt (a := lsP D a (pN P) 0 0) (b := r.2) (by omega) (by omega)
          have q := hM38 (f_M_centre_23 fu m) a (by omega) (ocI r.1) (nI r.2) fu 0 0 (by omega) (by omega) (by omega)
          have q' : f_M_centre_38 fu (f_M_centre_23 fu m) fu w (ocI r.1) (nI r.2) (nI a) 0 0 S2 = f_M_centre_72 fu (f_M_centre_23 fu m) w (ocI r.1) (nI r.2) (nI a) (nI (lsP D a (pN P) 0 0)) S2 := q
          rw [if_neg (fun h => absurd ((n_le (by omega) (by omega)).mp h) (by omega)), q', show pN P - a = (pN P - (a + 1)) + 1 by omega]
          show _ = f_M_centre_93 fu w (ocI (cnP D (pN P) (pN P - (a + 1)) (a + 1) (if lsP D a (pN P) 0 0 < r.2 then (some a, lsP D a (pN P) 0 0) else r)).1) (nI (cnP D (pN P) (pN P - (a + 1)) (a + 1) (if lsP D a (pN P) 0 0 < r.2 then (some a, lsP D a (pN P) 0 0) else r)).2) S2
          unfold f_M_centre_72
          rw [n_1]
          by_cases hl : lsP D a (pN P) 0 0 < r.2
          · rw [if_pos (l.mpr hl), if_pos hl]; exact ih (a + 1) (some a, _) (by omega) (by omega) d2
          · rw [if_neg (fun h => hl (l.mp h)), if_neg hl]; exact ih (a + 1) r (by omega) (by omega) h3
    have hOK := cnP_ok (D := D) (n := pN P) (pN P) 0 (none, 1000000) (by omega) ⟨by show 1000000 ≤ 1000000; omega, fun c hc => by cases hc⟩
    generalize hR : cnP D (pN P) (pN P) 0 (none, 1000000) = R at *
    have eMid : f_Pa_middle fu S1 = some (ocI R.1) := by
      rw [← hR]; exact hMid fu 0 (none, 1000000) (by omega) (by omega) (by show 1000000 ≤ 1000000; omega)
    have eCen : f_M_centre_23 fu fu w (-1) 1000000 0 S2 = f_M_centre_93 fu w (ocI R.1) (nI R.2) S2 := by
      rw [← hR]; exact hM23 fu 0 (none, 1000000) (by omega) (by omega) (by show 1000000 ≤ 1000000; omega)
    have eL : f_M_lies w 0 1 = some 1 := by
      rcases hw with rfl | rfl <;> rfl
    have eM : f_M_centre fu w S1 = f_M_centre_93 fu w (ocI R.1) (nI R.2) S2 := by
      unfold f_M_centre
      rw [qb1 eL, if_neg (by decide), qb1 y1]
      exact eCen
    have eE : f_E_centre fu w S = f_E_centre_11 fu w S := by
      unfold f_E_centre
      rcases hw with rfl | rfl
      · rw [if_pos rfl]
      · rw [if_neg (by decide), if_pos rfl]
    have eE2 : f_E_centre fu w S = (if w = 0 then some (ocI R.1, S1) else if ocI R.1 = -1 then some (ocI R.1, S1) else zb1 (f_Pa_lastDay fu (ocI R.1) S1) (fun r8 => some (r8, S1))) := by
      rw [eE]
      unfold f_E_centre_11
      rw [qb1 x1, qb1 eMid]
    have eM2 : f_M_centre fu w S1 = (if ocI R.1 = -1 then some (ocI R.1, S2) else if w = 0 then some (ocI R.1, S2) else some (nI R.2, S2)) := by
      rw [eM]; rfl
    by_cases h0 : w = 0
    · refine cOk_q h (v := ocI R.1) (S1 := S1) (S2 := S2) (by rw [eE2, if_pos h0]) x2 ?_ y2
      rw [eM2]
      split
      · rfl
      · first | rfl | rw [if_pos h0]
    · cases hR1 : R.1 with
      | none =>
        refine cOk_q h (v := -1) (S1 := S1) (S2 := S2) ?_ x2 ?_ y2
        · rw [eE2, if_neg h0, hR1]; rfl
        · rw [eM2, hR1]; rfl
      | some c =>
        obtain ⟨c1, c2⟩ := hOK.2 c hR1
        have ne : ¬ ocI (some c) = -1 := fun h => m1_ne hP c c1 h.symm
        refine cOk_q h (v := nI R.2) (S1 := S1) (S2 := S2) ?_ x2 ?_ y2
        · rw [eE2, if_neg h0, hR1, if_neg ne]
          show zb1 (f_Pa_lastDay fu (nI c) S1) _ = _
          rw [qb1 (hLast0 c c1), c2]
        · rw [eM2, hR1, if_neg ne, if_neg h0]
  · refine cOk_0 h (v := -1) ?_ ?_
    · unfold f_E_centre
      rw [if_neg (fun h => hw (Or.inl h)), if_neg (fun h => hw (Or.inr h))]
    · have eL : f_M_lies w 0 1 = some 0 := lies_no (lo := 0) (hi := 1) (by omega) (by omega) (fun v _ h2 e => by
        rcases (by omega : v = 0 ∨ v = 1) with rfl | rfl
        · exact hw (Or.inl e)
        · exact hw (Or.inr e))
      unfold f_M_centre
      rw [qb1 eL, if_pos rfl]

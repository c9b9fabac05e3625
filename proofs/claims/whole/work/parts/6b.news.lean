/-! granted calls that change the parish: forget, heard, spring -/
/-- what the class writes -/
def cX (S X : zSt) : Prop := zUp S X ∧ ∀ j, j = 0 ∨ 71 ≤ j → zI X j = zI S j
theorem cX_r (S : zSt) : cX S S := ⟨zUp_r S, fun _ _ => rfl⟩
theorem cX_t {S X Y : zSt} (h : cX S X) (h2 : cX X Y) : cX S Y := ⟨zUp_t h.1 h2.1, fun j a => (h2.2 j a).trans (h.2 j a)⟩
theorem cX_w (S : zSt) {j k : Nat} (v : Int32) (h : (1 ≤ j ∧ j ≤ 5) ∨ (32 ≤ j ∧ j ≤ 43)) : cX S (zwI S j k v) := ⟨zUp_w S v (by omega), fun j' a => by funext l; exact qIIo _ _ (by omega)⟩
theorem cX_wL (S : zSt) {j k : Nat} (v : Int64) (h : j < 2 ∨ 32 ≤ j) : cX S (zwL S j k v) := ⟨zUp_wL S v h, fun _ _ => rfl⟩
/-- what the reference writes -/
def rY (S Y : zSt) : Prop := zUp S Y ∧ (∀ j, j ≤ 71 → zI Y j = zI S j) ∧ zL Y = zL S ∧ zI Y 73 = zI S 73 ∧ ∀ k, k ≠ 32 → zI Y 72 k = zI S 72 k
theorem rY_r (S : zSt) : rY S S := ⟨zUp_r S, fun _ _ => rfl, rfl, rfl, fun _ _ => rfl⟩
theorem rY_t {S X Y : zSt} (h : rY S X) (h2 : rY X Y) : rY S Y := ⟨zUp_t h.1 h2.1, fun j a => (h2.2.1 j a).trans (h.2.1 j a), h2.2.2.1.trans h.2.2.1, h2.2.2.2.1.trans h.2.2.2.1, fun k a => (h2.2.2.2.2 k a).trans (h.2.2.2.2 k a)⟩
theorem rY_w (S : zSt) {j k : Nat} (v : Int32) (h : j = 74 ∨ j = 86 ∨ (j = 72 ∧ k = 32)) : rY S (zwI S j k v) := by
  refine ⟨zUp_w S v (by omega), fun j' a => ?_, rfl, ?_, fun k' a => qIIo _ _ (by omega)⟩
  · funext l; exact qIIo _ _ (by omega)
  · funext l; exact qIIo _ _ (by omega)
theorem cRep_y {S Y : zSt} {P : zP} (h : cRep S 1 P) (hY : rY S Y) : cRep Y 1 P := cRep_up h hY.1 (fun j _ b => hY.2.1 j (by omega)) (by rw [hY.2.2.1])
theorem mRep_x {S X : zSt} {P : zP} (h : mRep S 74 0 P) (hX : cX S X) (hP : pOK P) : mRep X 74 0 P := mRep_f h (fun k _ => by rw [hX.2 74 (by omega)]) hP
/-- calls that write no status -/
theorem cOk_mv {α : Type} {S X Y : zSt} {P' : zP} {es' : List (Nat × zMv)} (h : Inv S) {v : α} {fE fM : zSt → Option (α × zSt)} (hE : fE S = some (v, X)) (hX : cX S X) (hM : fM X = some (v, Y)) (hY : rY X Y) (hP' : pOK P') (hc : cRep X 1 P') (hm : mRep Y 74 0 P') (hj : jRel Y P' es') : cOk fE fM S := by
  obtain ⟨P, es, hP, -, -, -, hi, ht, hms, hd, hs⟩ := h
  have up : zUp S Y := zUp_t hX.1 hY.1
  refine ⟨v, X, Y, hE, hM, Inv_up hi ht hd hs up hP' (cRep_y hc hY) hm hj ?_, by rw [zUp_N up]; exact Nat.le_refl _, by rw [zUp_N up]; omega⟩
  unfold iMs
  rw [hY.2.1 0 (by omega), hY.2.1 71 (by omega), hY.2.2.2.1, hY.2.2.2.2 0 (by omega), hY.2.2.2.2 6 (by omega), hY.2.2.2.2 14 (by omega), hY.2.2.2.2 41 (by omega), hX.2 0 (by omega), hX.2 71 (by omega), hX.2 72 (by omega), hX.2 73 (by omega)]
  exact hms
/-- granted calls -/
theorem cOk_gr {S X Y : zSt} {P' : zP} {es' : List (Nat × zMv)} (h : Inv S) {v : Int32} {fE fM : zSt → Option (Int32 × zSt)} (hE : fE S = some (v, zwI X 0 19 0)) (hX : cX S X) (hM : fM (zwI X 0 19 0) = some (v, zwI Y 72 0 0)) (hY : rY (zwI X 0 19 0) Y) (hP' : pOK P') (hc : cRep X 1 P') (hm : mRep Y 74 0 P') (hj : jRel Y P' es') : cOk fE fM S := by
  obtain ⟨P, es, hP, -, -, -, hi, ht, hms, hd, hs⟩ := h
  have u1 : zUp X (zwI X 0 19 0) := zUp_w _ _ (by omega)
  have u2 : zUp Y (zwI Y 72 0 0) := zUp_w _ _ (by omega)
  have up : zUp S (zwI Y 72 0 0) := zUp_t hX.1 (zUp_t u1 (zUp_t hY.1 u2))
  have I : ∀ j, j ≠ 72 → zI (zwI Y 72 0 0) j = zI Y j := fun j hj => by funext k; exact qIIo _ _ (by omega)
  have J : ∀ j, j ≠ 0 → zI (zwI X 0 19 0) j = zI X j := fun j hj => by funext k; exact qIIo _ _ (by omega)
  refine ⟨v, _, _, hE, hM, Inv_up (es := es') hi ht hd hs up hP' ?_ ?_ ?_ ?_, by rw [zUp_N up]; exact Nat.le_refl _, by rw [zUp_N up]; omega⟩
  · have c1 : cRep (zwI X 0 19 0) 1 P' := cRep_up hc u1 (fun j _ b => J j (by omega)) rfl
    exact cRep_up (cRep_y c1 hY) u2 (fun j _ b => I j (by omega)) rfl
  · exact mRep_f hm (fun k _ => by rw [I 74 (by omega)]) hP'
  · exact jRel_f hj (fun j a => I j (by omega)) (qIIo _ _ (by omega)) (fun _ _ => rfl)
  · refine gr_ms hms (fun k a b => ?_) ?_ ?_ (qIIs _ _ _ _) (fun k a => ?_) ?_
    · rw [I 0 (by omega), hY.2.1 0 (by omega), qIIo _ _ (by omega), hX.2 0 (by omega)]
    · rw [I 0 (by omega), hY.2.1 0 (by omega), qIIs]
    · rw [I 71 (by omega), hY.2.1 71 (by omega), J 71 (by omega), hX.2 71 (by omega)]
    · rw [qIIo _ _ (by omega), hY.2.2.2.2 k (by omega), qIIo _ _ (by omega), hX.2 72 (by omega)]
    · rw [I 73 (by omega), hY.2.2.2.1, J 73 (by omega), hX.2 73 (by omega)]
/-- what was moved can be undone as before where the parish's other things have changed -/
theorem jRel_P {S : zSt} {P P' : zP} {es : List (Nat × zMv)} (h : jRel S P es) (hN : pN P' = pN P) (hp : ∀ m, pOK (pSet P m) → pOK (pSet P' m)) : jRel S P' es := by
  obtain ⟨j1, j2, j3, nx, j4, j5, j6⟩ := h
  refine ⟨j1, j2, j3, nx, j4, j5, fun i e hie => ?_⟩
  obtain ⟨g1, g2, g3, g4⟩ := j6 i e hie
  refine ⟨g1, hp _ g2, ?_, ?_⟩
  · rw [hN]; exact g3
  · rw [hN]; exact g4
theorem jRel_xy {S X Y : zSt} {P : zP} {es : List (Nat × zMv)} (h : jRel S P es) (hX : ∀ j, (32 ≤ j ∧ j ≤ 35) → zI X j = zI S j) (hc : cX S X) (hL : ∀ j, j = 36 ∨ j = 37 → zL X j = zL S j) (hY : rY X Y) (h32 : zI Y 72 32 = zI X 72 32) (h86 : zI Y 86 = zI X 86) : jRel Y P es := by
  refine jRel_f h (fun j a => ?_) (h32.trans (by rw [hc.2 72 (by omega)])) (fun j a => by rw [hY.2.2.1]; exact hL j a)
  rcases a with a | rfl
  · rw [hY.2.1 j (by omega)]; exact hX j a
  · rw [h86]; exact hc.2 86 (by omega)
theorem jRel_gr {S X Y : zSt} {P : zP} {es : List (Nat × zMv)} (h : jRel S P es) (hX : ∀ j, (32 ≤ j ∧ j ≤ 35) → zI X j = zI S j) (hc : cX S X) (hL : ∀ j, j = 36 ∨ j = 37 → zL X j = zL S j) (hY : rY (zwI X 0 19 0) Y) (h32 : zI Y 72 32 = zI (zwI X 0 19 0) 72 32) (h86 : zI Y 86 = zI (zwI X 0 19 0) 86) : jRel Y P es := by
  have J : ∀ j, j ≠ 0 → zI (zwI X 0 19 0) j = zI X j := fun j hj => by funext k; exact qIIo _ _ (by omega)
  refine jRel_f h (fun j a => ?_) (h32.trans (by rw [J 72 (by omega), hc.2 72 (by omega)])) (fun j a => by rw [hY.2.2.1]; exact hL j a)
  rcases a with a | rfl
  · rw [hY.2.1 j (by omega), J j (by omega)]; exact hX j a
  · rw [h86, J 86 (by omega)]; exact hc.2 86 (by omega)
/-- the laws stay -/
theorem cRep_14 {S S' : zSt} {o : Nat} {P : zP} (h : cRep S o P) (hu : zUp S S') : ∀ (t : Nat) cls, (pLw P)[t]? = some cls → ∃ q, zR S' (o + 5) t = some q ∧ zK q = 10 ∧ 98 ≤ q ∧ q + 4 < zN S' ∧ zTx S' q 7 (cls.map xcO) := by
  intro t cls ht
  obtain ⟨q, g1, g2, g3, g4, g5⟩ := h.2.2.2.2.2.2.2.2.2.2.2.2.2.1 t cls ht
  exact ⟨q, by rw [zUp_R hu]; exact g1, g2, g3, by rw [zUp_N hu]; exact g4, zTx_f g5 (fun j a b => hu.2.1 j (by omega)) (by rw [zUp_A hu])⟩
theorem mRep_13 {S S' : zSt} {P : zP} (h : mRep S 74 0 P) (hP : pOK P) (hI : ∀ k, 200 ≤ k → zI S' 74 k = zI S 74 k) : ∀ (t : Nat) cls, (pLw P)[t]? = some cls → ∃ (C V : Nat → Int32) (N n : Nat), N ≤ 400 ∧ 401 ≤ n ∧ zI S' 74 (0 + (200 + t)) = nI N ∧ (∀ k, k < N → zI S' 74 (0 + (207 + (400 * t + k))) = C k ∧ vR (zI S' 74 (0 + (3007 + (400 * t + k)))) (V k)) ∧ (∀ k, N ≤ k → C k = 0) ∧ (∀ k, 0 ≤ (V k).toInt) ∧ ltx false C V n N 12 0 0 [] = .inr cls := by
  intro t cls ht
  obtain ⟨C, V, N, n, g1, g2, g3, g4, g5, g6, g7⟩ := h.2.2.2.2.2.2.2.2.2.2.2.2.1 t cls ht
  refine ⟨C, V, N, n, g1, g2, ?_, fun k hk => ?_, g5, g6, g7⟩
  · rw [hI _ (by omega)]; exact g3
  · rw [hI _ (by omega), hI _ (by omega)]; exact g4 k hk
/-! forget -/
def pHdS (P : zP) (l : List (Nat × Nat)) : zP := (P.1, P.2.1, P.2.2.1, P.2.2.2.1, P.2.2.2.2.1, P.2.2.2.2.2.1, l, P.2.2.2.2.2.2.2.1, P.2.2.2.2.2.2.2.2)
theorem pOK_hd {P : zP} (hP : pOK P) {l : List (Nat × Nat)} (h6 : l.length ≤ 6) (hl : ∀ (i : Nat) x, l[i]? = some x → x.1 < pN P ∧ x.2 ≤ 999) : pOK (pHdS P l) := by
  obtain ⟨p1, p2, p3, p4, p5, p6, p7, p8, p9, p10, p11, p12, p13, p14, p15, p16⟩ := hP
  exact ⟨p1, p2, p3, p4, p5, p6, p7, p8, p9, p10, p11, p12, h6, hl, p15, p16⟩
theorem cRep_hd {S X : zSt} {P : zP} (h : cRep S 1 P) (hX : cX S X) (l : List (Nat × Nat)) (hI : ∀ k, k ≠ 9 → zI X 1 k = zI S 1 k) (h2 : zI X 2 = zI S 2) (h3 : zI X 3 = zI S 3) (hL : zL X 1 = zL S 1) (h9 : zI X 1 9 = nI l.length) (hl : ∀ (i : Nat) x, l[i]? = some x → zI X 4 i = nI x.1 ∧ zI X 5 i = nI x.2) : cRep X 1 (pHdS P l) := by
  have h14' := cRep_14 h hX.1
  obtain ⟨h1, h2', h3', h4, h5, h6, h7, h8, h9', h10, h11, h12, h13, h14, h15⟩ := h
  refine ⟨?_, ?_, ?_, ?_, ?_, ?_, ?_, ?_, ?_, ?_, h9, hl, ?_, h14', ?_⟩
  · rw [hI 0 (by omega)]; exact h1
  · rw [h2]; exact h2'
  · rw [h3]; exact h3'
  · rw [hL]; exact h4
  · rw [hL]; exact h5
  · rw [hL]; exact h6
  · rw [hI 5 (by omega)]; exact h7
  · rw [hI 6 (by omega)]; exact h8
  · rw [hI 7 (by omega)]; exact h9'
  · rw [hI 8 (by omega)]; exact h10
  · rw [hI 12 (by omega)]; exact h13
  · rw [hI 14 (by omega)]; exact h15
theorem mRep_hd {S Y : zSt} {P : zP} (h : mRep S 74 0 P) (hP : pOK P) (l : List (Nat × Nat)) (hI : ∀ k, k < 182 ∨ (194 ≤ k ∧ k ≠ 197) → zI Y 74 k = zI S 74 k) (h9 : zI Y 74 197 = nI l.length) (hl : ∀ (i : Nat) x, l[i]? = some x → zI Y 74 (182 + 2 * i) = nI x.1 ∧ zI Y 74 (182 + 2 * i + 1) = nI x.2) : mRep Y 74 0 (pHdS P l) := by
  have h13' := mRep_13 h hP (fun k hk => hI k (by omega))
  have p9 := hP.1
  obtain ⟨h1, h2, h3, h4, h5, h6, h7, h8, h9', h10, h11, h12, h13, h14⟩ := h
  refine ⟨?_, fun s hs => ?_, fun a c ha hc hac => ?_, fun s hs => ?_, fun a c ha hc hac => ?_, ?_, ?_, ?_, ?_, ?_, fun i x hx => ?_, ?_, h13', ?_⟩
  · rw [hI _ (by omega)]; exact h1
  · have hs' : s < pN P := hs
    rw [hI _ (by omega)]; exact h2 s hs
  · rw [hI _ (by omega)]; exact h3 a c ha hc hac
  · have hs' : s < pN P := hs
    rw [hI _ (by omega)]; exact h4 s hs
  · rw [hI _ (by omega)]; exact h5 a c ha hc hac
  · rw [hI _ (by omega)]; exact h6
  · rw [hI _ (by omega)]; exact h7
  · rw [hI _ (by omega)]; exact h8
  · rw [hI _ (by omega)]; exact h9'
  · rw [Nat.zero_add]; exact h9
  · rw [Nat.zero_add, Nat.zero_add]; exact hl i x hx
  · rw [hI _ (by omega)]; exact h12
  · rw [hI _ (by omega)]; exact h14
theorem call_forget {S : zSt} (h : Inv S) : cOk f_E_forget f_M_forget S := by
  obtain ⟨P, es, hP, hc, hm, hj, hi, ht, hms, hd, hs⟩ := id h
  have hX : cX S (zwI S 1 9 0) := cX_w S _ (by omega)
  have hY : rY (zwI S 1 9 0) (zwI (zwI S 1 9 0) 74 197 0) := rY_w _ _ (by omega)
  have hl : ∀ (i : Nat) (x : Nat × Nat), ([] : List (Nat × Nat))[i]? = some x → False := fun i x h => by simp at h
  have e1 : zI S 1 9 = nI (pHd P).length := hc.2.2.2.2.2.2.2.2.2.2.1
  have e2 : zI S 74 197 = nI (pHd P).length := by
    have := hm.2.2.2.2.2.2.2.2.2.1
    rw [Nat.zero_add] at this
    exact this
  refine cOk_mv (v := nI (pHd P).length) (P' := pHdS P []) (es' := es) h (show f_E_forget S = some (nI (pHd P).length, zwI S 1 9 0) by rw [← e1]; rfl) hX (show f_M_forget (zwI S 1 9 0) = some (nI (pHd P).length, zwI (zwI S 1 9 0) 74 197 0) by rw [← e2]; rfl) hY (pOK_hd hP (Nat.zero_le _) (fun i x h => (hl i x h).elim)) ?_ ?_ ?_
  · exact cRep_hd hc hX [] (fun k hk => qIIo _ _ (by omega)) (by funext k; exact qIIo _ _ (by omega)) (by funext k; exact qIIo _ _ (by omega)) rfl (qIIs _ _ _ _) (fun i x h => (hl i x h).elim)
  · exact mRep_hd (mRep_x hm hX hP) hP [] (fun k hk => qIIo _ _ (by omega)) (qIIs _ _ _ _) (fun i x h => (hl i x h).elim)
  · exact jRel_P (jRel_xy hj (fun j a => by funext k; exact qIIo _ _ (by omega)) hX (fun _ _ => rfl) hY (qIIo _ _ (by omega)) (by funext k; exact qIIo _ _ (by omega))) rfl (fun m hm => pOK_hd hm (Nat.zero_le _) (fun i x h => (hl i x h).elim))
/-! heard -/
theorem rng_or (a : Int32) (lo hi : Nat) : (∃ v, lo ≤ v ∧ v ≤ hi ∧ a = nI v) ∨ ∀ v, lo ≤ v → v ≤ hi → a ≠ nI v := by
  by_cases h : ∃ v, lo ≤ v ∧ v ≤ hi ∧ a = nI v
  · exact Or.inl h
  · exact Or.inr fun v h1 h2 he => h ⟨v, h1, h2, he⟩
/-- neither below 0 nor above: it is there -/
theorem rng_no {a : Int32} {hi : Nat} (hhi : hi < 2 ^ 31) (h : ∀ v, 0 ≤ v → v ≤ hi → a ≠ nI v) : a < 0 ∨ ¬ a ≤ nI hi := by
  by_cases h0 : a < 0
  · exact Or.inl h0
  · refine Or.inr fun h1 => ?_
    rw [q_lt, q_0] at h0
    obtain ⟨m, rfl, hm, hb⟩ := q_ex (a := a) (by omega)
    exact h m (by omega) ((n_le hb hhi).mp h1) rfl
theorem hd_get {l : List (Nat × Nat)} {x : Nat × Nat} {i : Nat} {y : Nat × Nat} (h : (l ++ [x])[i]? = some y) : (i < l.length ∧ l[i]? = some y) ∨ (i = l.length ∧ y = x) := by
  rcases Nat.lt_trichotomy i l.length with h1 | h1 | h1
  · rw [List.getElem?_append_left h1] at h
    exact Or.inl ⟨h1, h⟩
  · rw [h1, List.getElem?_concat_length] at h
    injection h with h
    exact Or.inr ⟨h1, h.symm⟩
  · rw [List.getElem?_eq_none (by rw [List.length_append]; exact h1)] at h
    cases h
theorem call_heard {S : zSt} (h : Inv S) (a d : Int32) : cOk (f_E_heard a d) (f_M_heard a d) S := by
  obtain ⟨P, es, hP, hc, hm, hj, hi, ht, hms, hd, hs⟩ := id h
  have h9 := hP.1
  have h6 := hP.2.2.2.2.2.2.2.2.2.2.2.2.1
  rcases rng_or d 0 999 with ⟨v, -, hv, rfl⟩ | hdn
  · rcases spr_or P a with ⟨s, hss, rfl⟩ | ha
    · have e1 : zI S 1 9 = nI (pHd P).length := hc.2.2.2.2.2.2.2.2.2.2.1
      have e2 : zI S 74 197 = nI (pHd P).length := by
        have := hm.2.2.2.2.2.2.2.2.2.1
        rw [Nat.zero_add] at this
        exact this
      by_cases hl : (pHd P).length < 6
      · have hX : cX S (zwI (zwI (zwI S 4 (pHd P).length (nI s)) 5 (pHd P).length (nI v)) 1 9 (nI ((pHd P).length + 1))) := cX_t (cX_w _ _ (by omega)) (cX_t (cX_w _ _ (by omega)) (cX_w _ _ (by omega)))
        have hlen : (pHd P ++ [(s, v)]).length = (pHd P).length + 1 := by rw [List.length_append]; rfl
        have hok : ∀ Q : zP, pOK Q → pN Q = pN P → pHd Q = pHd P → pOK (pHdS Q (pHd P ++ [(s, v)])) := fun Q hQ hN hH => by
          have hq := hQ.2.2.2.2.2.2.2.2.2.2.2.2.2.1
          refine pOK_hd hQ (by omega) (fun i x hx => ?_)
          rcases hd_get hx with ⟨-, h2⟩ | ⟨-, h2⟩
          · rw [← hH] at h2; exact hq i x h2
          · rw [h2, hN]; exact ⟨hss, hv⟩
        obtain ⟨X, eX⟩ : ∃ X, X = zwI (zwI (zwI S 4 (pHd P).length (nI s)) 5 (pHd P).length (nI v)) 1 9 (nI ((pHd P).length + 1)) := ⟨_, rfl⟩
        have Y0 : rY (zwI X 0 19 0) (zwI (zwI (zwI (zwI X 0 19 0) 74 (182 + 2 * (pHd P).length) (nI s)) 74 (182 + 2 * (pHd P).length + 1) (nI v)) 74 197 (nI ((pHd P).length + 1))) := rY_t (rY_w _ _ (by omega)) (rY_t (rY_w _ _ (by omega)) (rY_w _ _ (by omega)))
        have hX' : cX S X := by rw [eX]; exact hX
        have e74 : zI (zwI X 0 19 0) 74 = zI S 74 := by
          funext k
          rw [qIIo _ _ (by omega), hX'.2 74 (by omega)]
        refine cOk_gr (v := nI ((pHd P).length + 1)) (X := X) (P' := pHdS P (pHd P ++ [(s, v)])) (es' := es) h ?_ hX' ?_ Y0 (hok P hP rfl rfl) ?_ ?_ ?_
        · unfold f_E_heard
          rw [if_neg (n_neg (by omega)), if_pos (show nI v ≤ 999 from (n_le (b := 999) (by omega) (by omega)).mpr hv), qb1 (has_yes hc hP hss), if_neg (by decide), e1, if_pos (show nI (pHd P).length < 6 from (n_lt (b := 6) (by omega) (by omega)).mpr hl)]
          have e3 : f_Ps_hear 1 (nI s) (nI v) S = some (nI ((pHd P).length + 1), X) := by
            unfold f_Ps_hear
            rw [e1, if_neg (n_neg (by omega)), if_neg (show ¬ (6 : Int32) ≤ nI (pHd P).length from fun h => absurd ((n_le (a := 6) (by omega) (by omega)).mp h) (by omega)), n_gd (by omega) (by omega), q_cl (by omega)]
            have e4 : zI (zwI S (1 + 3) (pHd P).length (nI s)) 1 9 = nI (pHd P).length := by rw [qIIo _ _ (by omega), e1]
            rw [e4, n_gd (by omega) (by omega), q_cl (by omega)]
            have e5 : zI (zwI (zwI S (1 + 3) (pHd P).length (nI s)) (1 + 4) (pHd P).length (nI v)) 1 9 = nI (pHd P).length := by rw [qIIo _ _ (by omega), e4]
            rw [e5, n_1, qIIs, eX]
          rw [qb2 e3]
          rfl
        · unfold f_M_heard
          have e5 : f_M_lies (nI v) 0 999 = some 1 := lies_yes (lo := 0) (hi := 999) (by omega) hv (by omega)
          have hm1 : mRep (zwI X 0 19 0) 74 0 P := mRep_f hm (fun k _ => by rw [e74]) hP
          rw [qb1 e5, if_neg (by decide), qb1 (m_spr_yes hm1 hP hss), if_neg (by decide)]
          have e6 : zI (zwI X 0 19 0) 74 (197 : Int32).toNatClampNeg = nI (pHd P).length := by rw [e74]; exact e2
          rw [e6, if_neg (show ¬ nI (pHd P).length = 6 from fun h => absurd ((n_eq (b := 6) (by omega) (by omega)).mp h) (by omega)), show (182 : Int32) + (2 : Int32) * nI (pHd P).length = nI (182 + 2 * (pHd P).length) by rw [show (2 : Int32) = nI 2 from rfl, n_mul]; exact n_add 182 _, n_1, n_gd (by omega) (by omega), n_gd (by omega) (by omega), q_cl (by omega), q_cl (by omega)]
          have e7 : zI (zwI (zwI (zwI X 0 19 0) 74 (182 + 2 * (pHd P).length) (nI s)) 74 (182 + 2 * (pHd P).length + 1) (nI v)) 74 (197 : Int32).toNatClampNeg = nI (pHd P).length := by
            rw [show (197 : Int32).toNatClampNeg = 197 from rfl, qIIo _ _ (by omega), qIIo _ _ (by omega)]
            exact e6
          rw [e7, n_1, qIIs]
          rfl
        · refine cRep_hd hc hX' _ (fun k hk => ?_) ?_ ?_ ?_ ?_ (fun i x hx => ?_)
          · rw [eX, qIIo _ _ (by omega), qIIo _ _ (by omega), qIIo _ _ (by omega)]
          · funext k; rw [eX, qIIo _ _ (by omega), qIIo _ _ (by omega), qIIo _ _ (by omega)]
          · funext k; rw [eX, qIIo _ _ (by omega), qIIo _ _ (by omega), qIIo _ _ (by omega)]
          · rw [eX]; rfl
          · rw [eX, qIIs, hlen]
          · rcases hd_get hx with ⟨g1, g2⟩ | ⟨g1, g2⟩
            · rw [eX, qIIo _ _ (by omega), qIIo _ _ (by omega), qIIo _ _ (by omega), qIIo _ _ (by omega), qIIo _ _ (by omega), qIIo _ _ (by omega)]
              exact hc.2.2.2.2.2.2.2.2.2.2.2.1 i x g2
            · rw [eX, g1, g2, qIIo _ _ (by omega), qIIo _ _ (by omega), qIIs, qIIo _ _ (by omega), qIIs]
              exact ⟨rfl, rfl⟩
        · refine mRep_hd hm hP _ (fun k hk => ?_) ?_ (fun i x hx => ?_)
          · rw [qIIo _ _ (by omega), qIIo _ _ (by omega), qIIo _ _ (by omega), e74]
          · rw [qIIs, hlen]
          · rcases hd_get hx with ⟨g1, g2⟩ | ⟨g1, g2⟩
            · have e8 : ∀ k, k < 182 + 2 * (pHd P).length → zI (zwI (zwI (zwI (zwI X 0 19 0) 74 (182 + 2 * (pHd P).length) (nI s)) 74 (182 + 2 * (pHd P).length + 1) (nI v)) 74 197 (nI ((pHd P).length + 1))) 74 k = zI S 74 k := fun k hk => by
                rw [qIIo _ _ (by omega), qIIo _ _ (by omega), qIIo _ _ (by omega), e74]
              rw [e8 _ (by omega), e8 _ (by omega)]
              have := hm.2.2.2.2.2.2.2.2.2.2.1 i x g2
              rw [Nat.zero_add, Nat.zero_add] at this
              exact this
            · rw [g1, g2, qIIo _ _ (by omega), qIIo _ _ (by omega), qIIs, qIIo _ _ (by omega), qIIs]
              exact ⟨rfl, rfl⟩
        · refine jRel_P (P' := pHdS P (pHd P ++ [(s, v)])) (jRel_gr hj (fun j a => ?_) hX' (fun j a => ?_) Y0 ?_ ?_) rfl (fun m hmm => hok (pSet P m) hmm rfl rfl)
          · funext k; rw [eX, qIIo _ _ (by omega), qIIo _ _ (by omega), qIIo _ _ (by omega)]
          · rw [eX]; rfl
          · rw [qIIo _ _ (by omega), qIIo _ _ (by omega), qIIo _ _ (by omega)]
          · funext k; rw [qIIo _ _ (by omega), qIIo _ _ (by omega), qIIo _ _ (by omega)]
      · refine cOk_ref h rf5 ?_ ?_
        · unfold f_E_heard
          rw [if_neg (n_neg (by omega)), if_pos (show nI v ≤ 999 from (n_le (b := 999) (by omega) (by omega)).mpr hv), qb1 (has_yes hc hP hss), if_neg (by decide), e1, if_neg (show ¬ nI (pHd P).length < 6 from fun h => hl ((n_lt (b := 6) (by omega) (by omega)).mp h)), zb2_eta]
        · have hm1 := rS1_m hm hP (-5) 4
          unfold f_M_heard
          have e5 : f_M_lies (nI v) 0 999 = some 1 := lies_yes (lo := 0) (hi := 999) (by omega) hv (by omega)
          rw [qb1 e5, if_neg (by decide), qb1 (m_spr_yes hm1 hP hss), if_neg (by decide), if_pos, zb2_eta]
          rw [rS1_I _ _ _ (by omega)]
          exact e2.trans ((n_eq (b := 6) (by omega) (by omega)).mpr (by omega))
    · refine cOk_ref h rf2 ?_ ?_
      · unfold f_E_heard
        rw [if_neg (n_neg (by omega)), if_pos (show nI v ≤ 999 from (n_le (b := 999) (by omega) (by omega)).mpr hv), qb1 (has_no hc hP ha), if_pos rfl, zb2_eta]
      · unfold f_M_heard
        have e5 : f_M_lies (nI v) 0 999 = some 1 := lies_yes (lo := 0) (hi := 999) (by omega) hv (by omega)
        rw [qb1 e5, if_neg (by decide), qb1 (m_spr_no (rS1_m hm hP _ _) hP ha), if_pos rfl, zb2_eta]
  · refine cOk_ref h rf1 ?_ ?_
    · unfold f_E_heard
      rcases rng_no (hi := 999) (by omega) hdn with h1 | h1
      · rw [if_pos h1, zb2_eta]
      · by_cases h2 : d < 0
        · rw [if_pos h2, zb2_eta]
        · rw [if_neg h2, if_neg (show ¬ d ≤ 999 from h1), zb2_eta]
    · unfold f_M_heard
      have e5 : f_M_lies d 0 999 = some 0 := lies_no (lo := 0) (hi := 999) (by omega) (by omega) hdn
      rw [qb1 e5, if_pos rfl, zb2_eta]

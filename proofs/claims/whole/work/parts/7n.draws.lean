/-! years: what is drawn, one year on paper, both -/
def sdN (s : Nat) : Nat := (s * 1103 + 12345) % 1000003
theorem sdN_lt (s : Nat) : sdN s < 1000003 := Nat.mod_lt _ (by omega)
theorem dr_is (s : Nat) (hs : s ≤ 1000003) : (((nI s).toInt64 * 1103 + 12345) - ((nI s).toInt64 * 1103 + 12345) / 1000003 * 1000003).toInt32 = nI (sdN s) := by
  have e0 : (nI s).toInt64 * 1103 + 12345 = Int64.ofInt ((s : Int) * 1103 + 12345) := by
    rw [i2l, q_nI (by omega), show (1103 : Int64) = Int64.ofInt 1103 from rfl, show (12345 : Int64) = Int64.ofInt 12345 from rfl, ← Int64.ofInt_mul, ← Int64.ofInt_add]
  have e1 : Int64.ofInt ((s : Int) * 1103 + 12345) / 1000003 = Int64.ofInt (((s : Int) * 1103 + 12345).tdiv 1000003) := w_div (y := (s : Int) * 1103 + 12345) (z := 1000003) (by omega) (by omega)
  have e2 : ((s : Int) * 1103 + 12345).tdiv 1000003 = ((s : Int) * 1103 + 12345) / 1000003 := Int.tdiv_eq_ediv_of_nonneg (by omega)
  rw [e0, e1, e2, show (1000003 : Int64) = Int64.ofInt 1000003 from rfl, ← Int64.ofInt_mul, ← Int64.ofInt_sub]
  have hv : (sdN s : Int) = (s : Int) * 1103 + 12345 - ((s : Int) * 1103 + 12345) / 1000003 * 1000003 := by
    unfold sdN
    omega
  have hlt := sdN_lt s
  rw [← hv, q_eq, l2i_in _ (by omega), q_nI (by omega), if_neg (by omega), if_pos (by omega)]
theorem draw_c {s : Nat} (hs : s ≤ 1000003) : f_E_nextDraw (nI s) = some (nI (sdN s)) := by
  unfold f_E_nextDraw
  rw [dr_is s hs]
theorem n_div {r n : Nat} (hr : r < 2 ^ 31) (hn : n < 2 ^ 31) : nI r / nI n = nI (r / n) := by
  have e := Int32.ofInt_tdiv (a := (r : Int)) (b := (n : Int)) (by have : Int32.minValue.toInt = -2147483648 := rfl; omega) (by have : Int32.maxValue.toInt = 2147483647 := rfl; omega) (by have : Int32.minValue.toInt = -2147483648 := rfl; omega) (by have : Int32.maxValue.toInt = 2147483647 := rfl; omega)
  have e2 : ((r : Int)).tdiv (n : Int) = ((r / n : Nat) : Int) := by
    rw [Int.tdiv_eq_ediv_of_nonneg (by omega)]
    rfl
  rw [e2] at e
  exact e.symm
theorem n_mod {r n : Nat} (hr : r < 2 ^ 31) (hn : n < 2 ^ 31) : nI r - nI r / nI n * nI n = nI (r % n) := by
  have h := Nat.div_add_mod r n
  rw [n_div hr hn, n_mul, n_sub (Nat.div_mul_le_self r n)]
  congr 1
  rw [Nat.mul_comm] at h
  omega
theorem draw_m {S : zSt} {s n : Nat} (hs : s ≤ 1000003) (h50 : zI S 72 50 = nI s) (hn : 0 < n) (hn2 : n < 2 ^ 31) : f_M_draws (nI n) S = some (nI (sdN s % n), zwI S 72 50 (nI (sdN s))) := by
  have hlt := sdN_lt s
  unfold f_M_draws
  rw [qgd (show ¬ nI n = 0 from fun h => absurd ((n_eq (b := 0) hn2 (by omega)).mp h) (by omega)), qIIs, h50, Int64.mul_comm 1103 (nI s).toInt64, dr_is s hs, n_mod (by omega) hn2]
def yMv (P : zP) (a b v w : Nat) : zMv := if w = 0 then (if a = b ∨ pFar P a b = 0 then pMv P else mvGate P a b) else if w = 1 then mvStir P a (nI v) else if w = 2 then (if pPs P (pLaw P) (pAt P) a = true then mvSwim P a else pMv P) else pMv P
def yGn (P : zP) (a w : Nat) : Nat := if w = 2 ∧ pPs P (pLaw P) (pAt P) a = true then (pTl P (pLaw P) 0 (pAt P) a).toInt.toNat else 0
theorem yOK {P : zP} (hP : pOK P) {a b v w : Nat} (ha : a < pN P) (hb : b < pN P) (hv : v ≤ 9) : pOK (pSet P (yMv P a b v w)) := by
  unfold yMv
  split
  · split
    · exact hP
    · rename_i h
      exact ok_gate hP ha hb (fun e => h (Or.inr e))
  · split
    · exact ok_stir hP hv
    · split
      · split
        · exact ok_swim hP ha
        · exact hP
      · exact hP
theorem yGn_le {P : zP} (hP : pOK P) {a w : Nat} (ha : a < pN P) : yGn P a w ≤ 99 := by
  have h9 := hP.1
  have hat := hP.2.2.2.2.2.2.2.2.1
  unfold yGn
  split
  · rename_i h
    have hp := of_decide_eq_true h.2
    obtain ⟨r, r1, r2, r3⟩ := takes_rg hP (pLaw P) (a := pAt P) (b := a) (by omega) (by omega) hp.2.1
    rw [r3, q_nI (by omega)]
    omega
  · omega
theorem zT7_pw {o : Nat} {S X : zSt} (h : zT7 S) (hW : pW o S X) (ho : o < 39) : zT7 X := ⟨by unfold zA; rw [hW.1]; exact h.1, fun k hk => by rw [hW.2.1 54 k (by unfold scI; omega) (by omega)]; exact h.2 k hk⟩
theorem stir_self (P : zP) (a : Nat) : mvStir P a (pMud P a) = pMv P := by
  unfold mvStir pMv
  congr 2
  congr 1
  funext t
  by_cases e : t = a
  · rw [if_pos e, e]
  · rw [if_neg e]
theorem c_yact (fu : Nat) (hfu : 1000 ≤ fu) {X : zSt} {P : zP} (hP : pOK P) (hG : lawG (pLaw P)) (hn : 0 < pN P) (hc : cRep X 13 P) (hT : zT7 X) {r1 r2 r3 w : Nat} (h1 : r1 < 1000003) (h2 : r2 < 1000003) (h3 : r3 < 1000003) (hw : w < 4) : ∃ X', f_E_actOnPaper fu (nI r1) (nI r2) (nI r3) (nI w) X = some (nI (yGn P (r1 % pN P) w), X') ∧ pW 13 X X' ∧ cRep X' 13 (pSet P (yMv P (r1 % pN P) (r2 % pN P) (r3 % 10) w)) := by
  have h9 := hP.1
  have ha : r1 % pN P < pN P := Nat.mod_lt _ hn
  have hb : r2 % pN P < pN P := Nat.mod_lt _ hn
  have hv : r3 % 10 ≤ 9 := by have := Nat.mod_lt r3 (show 10 > 0 by omega); omega
  have e0 : zI X 13 0 = nI (pN P) := hc.1
  have ea : nI r1 - nI r1 / nI (pN P) * nI (pN P) = nI (r1 % pN P) := n_mod (by omega) (by omega)
  have eb : nI r2 - nI r2 / nI (pN P) * nI (pN P) = nI (r2 % pN P) := n_mod (by omega) (by omega)
  have ev : nI r3 - nI r3 / 10 * 10 = nI (r3 % 10) := n_mod (n := 10) (by omega) (by omega)
  obtain ⟨a, ea'⟩ : ∃ a, a = r1 % pN P := ⟨_, rfl⟩
  obtain ⟨b, eb'⟩ : ∃ b, b = r2 % pN P := ⟨_, rfl⟩
  obtain ⟨v, ev'⟩ : ∃ v, v = r3 % 10 := ⟨_, rfl⟩
  rw [← ea'] at ha ea ⊢
  rw [← eb'] at hb eb ⊢
  rw [← ev'] at hv ev ⊢
  have hn0 : ¬ nI (pN P) = 0 := fun h => absurd ((n_eq (b := 0) (by omega) (by omega)).mp h) (by omega)
  unfold f_E_actOnPaper
  rw [e0, if_pos (show 0 < nI (pN P) from (n_lt (a := 0) (by omega) (by omega)).mpr hn), qgd hn0, ea]
  rcases (by omega : w = 0 ∨ w = 1 ∨ w = 2 ∨ w = 3) with rfl | rfl | rfl | rfl
  · rw [if_pos (show nI 0 = 0 from rfl), qgd hn0, eb]
    have g0 : yGn P a 0 = 0 := by unfold yGn; rw [if_neg (fun h => absurd h.1 (by omega))]
    have mv0 : yMv P a b v 0 = if a = b ∨ pFar P a b = 0 then pMv P else mvGate P a b := by unfold yMv; rw [if_pos rfl]
    rw [g0, mv0]
    by_cases hab : a = b
    · have e : f_Ps_turnGate 13 (nI a) (nI b) X = some (-1, X) := by rw [hab]; exact gate_eq _
      rw [qb2 e, if_pos (Or.inl hab)]
      exact ⟨X, rfl, pW_co (zCo_r X), hc⟩
    · have e := gate_ok hc hP ha hb hab
      by_cases hf : pFar P a b = 0
      · rw [if_pos hf] at e
        rw [qb2 e, if_pos (Or.inr hf)]
        exact ⟨X, rfl, pW_co (zCo_r X), hc⟩
      · rw [if_neg hf] at e
        rw [qb2 e, if_neg (fun h => h.elim hab hf)]
        exact ⟨_, rfl, pW_wL _ _ (by omega), cRep_gate hc (by omega) (by omega) (by omega) hab⟩
  · rw [if_neg (show ¬ nI 1 = 0 by decide), if_pos (show nI 1 = 1 from rfl), ev]
    have g0 : yGn P a 1 = 0 := by unfold yGn; rw [if_neg (fun h => absurd h.1 (by omega))]
    have mv0 : yMv P a b v 1 = mvStir P a (nI v) := by unfold yMv; rw [if_neg (by omega), if_pos rfl]
    have e := muddy_ok hc hP hv ha
    rw [g0, mv0]
    by_cases hm : pMud P a = nI v
    · rw [if_pos hm] at e
      rw [qb2 e, ← hm, stir_self]
      exact ⟨X, rfl, pW_co (zCo_r X), hc⟩
    · rw [if_neg hm] at e
      rw [qb2 e]
      exact ⟨_, rfl, pW_wL _ _ (by omega), cRep_stir hc hP (by omega) hv ha⟩
  · rw [if_neg (show ¬ nI 2 = 0 by decide), if_neg (show ¬ nI 2 = 1 by decide), if_pos (show nI 2 = 2 from rfl)]
    have mv0 : yMv P a b v 2 = if pPs P (pLaw P) (pAt P) a = true then mvSwim P a else pMv P := by unfold yMv; rw [if_neg (by omega), if_neg (by omega), if_pos rfl]
    obtain ⟨S1, c1, e⟩ := goTo_ok fu hfu hc hP hG (by omega) hT ha
    rw [mv0]
    by_cases hp : pPs P (pLaw P) (pAt P) a = true
    · have g0 : yGn P a 2 = (pTl P (pLaw P) 0 (pAt P) a).toInt.toNat := by unfold yGn; rw [if_pos ⟨rfl, hp⟩]
      have hat := hP.2.2.2.2.2.2.2.2.1
      have hpp := of_decide_eq_true hp
      obtain ⟨r, r1', r2', r3'⟩ := takes_rg hP (pLaw P) (a := pAt P) (b := a) (by omega) (by omega) hpp.2.1
      rw [if_pos hp, r3'] at e
      rw [qb2 e, if_neg (show ¬ nI r ≤ 0 from fun h => absurd ((n_le (b := 0) (by omega) (by omega)).mp h) (by omega)), if_pos hp, g0, r3', q_nI (by omega)]
      exact ⟨_, rfl, pW_t (pW_co c1) (pW_w _ _ (by omega)), cRep_swim hc (by omega) c1 a⟩
    · have g0 : yGn P a 2 = 0 := by unfold yGn; rw [if_neg (fun h => hp h.2)]
      rw [if_neg hp] at e
      rw [qb2 e, if_pos (by decide), if_neg hp, g0]
      exact ⟨S1, rfl, pW_co c1, cRep_co hc c1 (by omega)⟩
  · rw [if_neg (show ¬ nI 3 = 0 by decide), if_neg (show ¬ nI 3 = 1 by decide), if_neg (show ¬ nI 3 = 2 by decide)]
    have g0 : yGn P a 3 = 0 := by unfold yGn; rw [if_neg (fun h => absurd h.1 (by omega))]
    have mv0 : yMv P a b v 3 = pMv P := by unfold yMv; rw [if_neg (by omega), if_neg (by omega), if_neg (by omega)]
    rw [g0, mv0]
    exact ⟨X, rfl, pW_co (zCo_r X), hc⟩
def yW (S Y : zSt) : Prop := Y.2.2 = S.2.2 ∧ (∀ j k, ¬ scI j k → ¬ (j = 74 ∧ k < 92) → ¬ (j = 72 ∧ k = 50) → zI Y j k = zI S j k) ∧ ∀ j k, ¬ scL j → zL Y j k = zL S j k
theorem yW_r (S : zSt) : yW S S := ⟨rfl, fun _ _ _ _ _ => rfl, fun _ _ _ => rfl⟩
theorem yW_t {S X Y : zSt} (h : yW S X) (h2 : yW X Y) : yW S Y := ⟨h2.1.trans h.1, fun j k a b c => (h2.2.1 j k a b c).trans (h.2.1 j k a b c), fun j k a => (h2.2.2 j k a).trans (h.2.2 j k a)⟩
theorem yW_m {S Y : zSt} (h : mW S Y) : yW S Y := ⟨h.1, fun j k a b _ => h.2.1 j k a b, h.2.2⟩
theorem yW_50 (S : zSt) (v : Int32) : yW S (zwI S 72 50 v) := ⟨rfl, fun j k _ _ c => qIIo _ _ c, fun _ _ _ => rfl⟩
theorem mW_50 {S Y : zSt} (h : mW S Y) : zI Y 72 50 = zI S 72 50 := h.2.1 72 50 (by unfold scI; omega) (by omega)
theorem mRep_50 {S : zSt} {P : zP} (hP : pOK P) (h : mRep S 74 0 P) (v : Int32) : mRep (zwI S 72 50 v) 74 0 P := mRep_f h (fun k _ => by rw [qIIo _ _ (by omega)]) hP
theorem m_yact (fu : Nat) (hfu : 1000 ≤ fu) {Y : zSt} {P : zP} (hP : pOK P) (hn : 0 < pN P) (hm : mRep Y 74 0 P) {s r1 r2 r3 r4 : Nat} (hs : s ≤ 1000003) (h50 : zI Y 72 50 = nI s) (e1 : r1 = sdN s) (e2 : r2 = sdN r1) (e3 : r3 = sdN r2) (e4 : r4 = sdN r3) : ∃ Y', f_M_drawnAct fu Y = some (nI (yGn P (r1 % pN P) (r4 % 4)), Y') ∧ yW Y Y' ∧ zI Y' 72 50 = nI r4 ∧ mRep Y' 74 0 (pSet P (yMv P (r1 % pN P) (r2 % pN P) (r3 % 10) (r4 % 4))) := by
  have h9 := hP.1
  have l1 := sdN_lt s
  have l2 := sdN_lt r1
  have l3 := sdN_lt r2
  have l4 := sdN_lt r3
  have hat : pAt P < pN P := by have := hP.2.2.2.2.2.2.2.2.1; omega
  obtain ⟨Y1, eY1⟩ : ∃ Y1, Y1 = zwI Y 72 50 (nI r1) := ⟨_, rfl⟩
  obtain ⟨Y2, eY2⟩ : ∃ Y2, Y2 = zwI Y1 72 50 (nI r2) := ⟨_, rfl⟩
  obtain ⟨Y3, eY3⟩ : ∃ Y3, Y3 = zwI Y2 72 50 (nI r3) := ⟨_, rfl⟩
  obtain ⟨Y4, eY4⟩ : ∃ Y4, Y4 = zwI Y3 72 50 (nI r4) := ⟨_, rfl⟩
  have c4 : yW Y Y4 := by
    rw [eY4, eY3, eY2, eY1]
    exact yW_t (yW_50 _ _) (yW_t (yW_50 _ _) (yW_t (yW_50 _ _) (yW_50 _ _)))
  have hm1 : mRep Y1 74 0 P := by rw [eY1]; exact mRep_50 hP hm _
  have hm4 : mRep Y4 74 0 P := by
    rw [eY4, eY3, eY2]
    exact mRep_50 hP (mRep_50 hP (mRep_50 hP hm1 _) _) _
  have d1 : f_M_draws (nI (pN P)) Y = some (nI (r1 % pN P), Y1) := by rw [eY1, e1]; exact draw_m hs h50 hn (by omega)
  have d2 : f_M_draws (nI (pN P)) Y1 = some (nI (r2 % pN P), Y2) := by rw [eY2, e2]; exact draw_m (by omega) (by rw [eY1, qIIs]) hn (by omega)
  have d3 : f_M_draws 10 Y2 = some (nI (r3 % 10), Y3) := by rw [eY3, e3]; exact draw_m (n := 10) (by omega) (by rw [eY2, qIIs]) (by omega) (by omega)
  have d4 : f_M_draws 4 Y3 = some (nI (r4 % 4), Y4) := by rw [eY4, e4]; exact draw_m (n := 4) (by omega) (by rw [eY3, qIIs]) (by omega) (by omega)
  have y50 : zI Y4 72 50 = nI r4 := by rw [eY4, qIIs]
  have ha : r1 % pN P < pN P := Nat.mod_lt _ hn
  have hb : r2 % pN P < pN P := Nat.mod_lt _ hn
  have hv : r3 % 10 ≤ 9 := by have := Nat.mod_lt r3 (show 10 > 0 by omega); omega
  have hw4 : r4 % 4 < 4 := Nat.mod_lt _ (by omega)
  obtain ⟨a, ea'⟩ : ∃ a, a = r1 % pN P := ⟨_, rfl⟩
  obtain ⟨b, eb'⟩ : ∃ b, b = r2 % pN P := ⟨_, rfl⟩
  obtain ⟨v, ev'⟩ : ∃ v, v = r3 % 10 := ⟨_, rfl⟩
  obtain ⟨w, ew'⟩ : ∃ w, w = r4 % 4 := ⟨_, rfl⟩
  rw [← ea'] at ha d1 ⊢
  rw [← eb'] at hb d2 ⊢
  rw [← ev'] at hv d3 ⊢
  rw [← ew'] at hw4 d4 ⊢
  unfold f_M_drawnAct
  rw [qb1 (m_many hm), qb2 d1, qb1 (m_many hm1), qb2 d2, qb2 d3, qb2 d4]
  rcases (by omega : w = 0 ∨ w = 1 ∨ w = 2 ∨ w = 3) with rfl | rfl | rfl | rfl
  · have g0 : yGn P a 0 = 0 := by unfold yGn; rw [if_neg (fun h => absurd h.1 (by omega))]
    have mv0 : yMv P a b v 0 = if a = b ∨ pFar P a b = 0 then pMv P else mvGate P a b := by unfold yMv; rw [if_pos rfl]
    have t73 : ∀ Z, f_M_drawnAct_73 fu (nI a) (nI 0) Z = some (0, Z) := fun Z => by unfold f_M_drawnAct_73; rw [if_neg (by decide)]
    rw [if_pos (show nI 0 = 0 from rfl), g0, mv0]
    by_cases hab : a = b
    · rw [if_pos (by rw [hab]), if_neg (show ¬ nI 0 = 1 by decide), t73, if_pos (Or.inl hab)]
      exact ⟨Y4, rfl, c4, y50, hm4⟩
    · rw [if_neg (fun h => hab ((n_eq (by omega) (by omega)).mp h)), qb1 (m_far hm4 (by omega) (by omega) hab)]
      by_cases hf : pFar P a b = 0
      · rw [if_pos ((far_le hP (by omega) (by omega)).mpr hf), if_neg (show ¬ nI 0 = 1 by decide), t73, if_pos (Or.inr hf)]
        exact ⟨Y4, rfl, c4, y50, hm4⟩
      · obtain ⟨Z, z1, z2, z3⟩ := m_gate_w hm4 hP ha hb hab
        rw [if_neg (fun h => hf ((far_le hP (by omega) (by omega)).mp h)), qb2 z1, if_neg (show ¬ nI 0 = 1 by decide), t73, if_neg (fun h => h.elim hab hf)]
        exact ⟨Z, rfl, yW_t c4 (yW_m z3), by rw [mW_50 z3]; exact y50, z2⟩
  · have g0 : yGn P a 1 = 0 := by unfold yGn; rw [if_neg (fun h => absurd h.1 (by omega))]
    have mv0 : yMv P a b v 1 = mvStir P a (nI v) := by unfold yMv; rw [if_neg (by omega), if_pos rfl]
    have t73 : ∀ Z, f_M_drawnAct_73 fu (nI a) (nI 1) Z = some (0, Z) := fun Z => by unfold f_M_drawnAct_73; rw [if_neg (by decide)]
    rw [if_neg (show ¬ nI 1 = 0 by decide), if_pos (show nI 1 = 1 from rfl), show 1 + nI a = nI (1 + a) from n_add 1 a, n_gd (by omega) (by omega), q_cl (by omega), t73, g0, mv0]
    exact ⟨_, rfl, yW_t c4 (yW_m (mW_w _ _ (by omega))), by rw [qIIo _ _ (by omega)]; exact y50, m_stir_w hm4 hP ha (nI v)⟩
  · have mv0 : yMv P a b v 2 = if pPs P (pLaw P) (pAt P) a = true then mvSwim P a else pMv P := by unfold yMv; rw [if_neg (by omega), if_neg (by omega), if_pos rfl]
    have e74 : zI Y4 74 0 = nI (pAt P) := hm4.2.2.2.2.2.1
    obtain ⟨S1, p1, f1⟩ := m_passed fu (by omega) hm4 hP hat ha
    rw [if_neg (show ¬ nI 2 = 0 by decide), if_neg (show ¬ nI 2 = 1 by decide)]
    unfold f_M_drawnAct_73
    rw [if_pos (show nI 2 = 2 from rfl), show (0 : Int32).toNatClampNeg = 0 from rfl, e74, qb2 p1, mv0]
    have hmS := mRep_co hm4 f1.1 (Or.inl rfl) hP
    have e741 : zI S1 74 0 = nI (pAt P) := hmS.2.2.2.2.2.1
    by_cases hp : pPs P (pLaw P) (pAt P) a = true
    · have g0 : yGn P a 2 = (pTl P (pLaw P) 0 (pAt P) a).toInt.toNat := by unfold yGn; rw [if_pos ⟨rfl, hp⟩]
      have hpp := of_decide_eq_true hp
      obtain ⟨r, r1', r2', r3'⟩ := takes_rg hP (pLaw P) (a := pAt P) (b := a) (by omega) (by omega) hpp.2.1
      obtain ⟨S2, q1, q2, q3⟩ := m_takes_for fu (by omega) hmS hP hat ha hpp.1
      have hmS2 := mRep_co hmS q2 (Or.inl rfl) hP
      rw [hp, if_neg (show ¬ b2 true = 0 by decide), e741, qb2 q1, if_pos rfl, g0, r3', q_nI (by omega)]
      exact ⟨_, rfl, yW_t c4 (yW_m (mW_t (mW_co (zCo_t f1.1 q2)) (mW_w _ _ (by omega)))), by rw [qIIo _ _ (by omega), mW_50 (mW_co (zCo_t f1.1 q2))]; exact y50, m_swim_w hmS2 hP a⟩
    · have g0 : yGn P a 2 = 0 := by unfold yGn; rw [if_neg (fun h => hp h.2)]
      have hp' : pPs P (pLaw P) (pAt P) a = false := by
        cases h : pPs P (pLaw P) (pAt P) a with
        | false => rfl
        | true => exact absurd h hp
      rw [hp', if_pos (show b2 false = 0 from rfl), if_neg (by decide), g0]
      exact ⟨S1, rfl, yW_t c4 (yW_m (mW_co f1.1)), by rw [mW_50 (mW_co f1.1)]; exact y50, hmS⟩
  · have g0 : yGn P a 3 = 0 := by unfold yGn; rw [if_neg (fun h => absurd h.1 (by omega))]
    have mv0 : yMv P a b v 3 = pMv P := by unfold yMv; rw [if_neg (by omega), if_neg (by omega), if_neg (by omega)]
    have t73 : ∀ Z, f_M_drawnAct_73 fu (nI a) (nI 3) Z = some (0, Z) := fun Z => by unfold f_M_drawnAct_73; rw [if_neg (by decide)]
    rw [if_neg (show ¬ nI 3 = 0 by decide), if_neg (show ¬ nI 3 = 1 by decide), t73, g0, mv0]
    exact ⟨Y4, rfl, c4, y50, hm4⟩

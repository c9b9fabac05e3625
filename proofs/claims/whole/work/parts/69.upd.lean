/-! updates: what stays; refused calls -/
theorem zb2_eta {α : Type} (x : Option (α × zSt)) : zb2 x (fun r S => some (r, S)) = x := by
  rcases x with _ | ⟨a, S⟩ <;> rfl
/-- the parts of what holds that most updates leave alone -/
def zUp (S S' : zSt) : Prop := S'.2.2 = S.2.2 ∧ (∀ j, (6 ≤ j ∧ j ≤ 31) ∨ j = 45 ∨ j = 75 ∨ j = 76 ∨ j = 78 ∨ j = 79 ∨ 97 ≤ j → zI S' j = zI S j) ∧ zI S' 44 1 = zI S 44 1 ∧ zI S' 72 13 = zI S 72 13 ∧ zI S' 72 49 = zI S 72 49 ∧ (∀ k, 7 ≤ k → zI S' 54 k = zI S 54 k) ∧ (∀ k, 23 ≤ k → zI S' 69 k = zI S 69 k) ∧ (∀ j, 2 ≤ j ∧ j ≤ 31 → zL S' j = zL S j)
theorem zUp_r (S : zSt) : zUp S S := ⟨rfl, fun _ _ => rfl, rfl, rfl, rfl, fun _ _ => rfl, fun _ _ => rfl, fun _ _ => rfl⟩
theorem zUp_t {S S' S'' : zSt} (h : zUp S S') (h2 : zUp S' S'') : zUp S S'' := by
  obtain ⟨a1, a2, a3, a4, a5, a6, a7, a8⟩ := h
  obtain ⟨b1, b2', b3, b4, b5, b6, b7, b8⟩ := h2
  exact ⟨b1.trans a1, fun j hj => (b2' j hj).trans (a2 j hj), b3.trans a3, b4.trans a4, b5.trans a5, fun k hk => (b6 k hk).trans (a6 k hk), fun k hk => (b7 k hk).trans (a7 k hk), fun j hj => (b8 j hj).trans (a8 j hj)⟩
theorem zUp_co {S S' : zSt} (h : zCo S S') : zUp S S' := ⟨h.1, fun j hj => zCo_I h (by omega), h.2.1 44 1 (by unfold scI; omega), zCo_72 h (by omega), zCo_72 h (by omega), fun k hk => h.2.1 54 k (by unfold scI; omega), fun k hk => h.2.1 69 k (by unfold scI; omega), fun j hj => zCo_L h (by omega)⟩
theorem zUp_w (S : zSt) {j k : Nat} (v : Int32) (h : j < 6 ∨ (32 ≤ j ∧ j ≤ 43) ∨ (70 ≤ j ∧ j ≤ 74 ∧ ¬ (j = 72 ∧ (k = 13 ∨ k = 49))) ∨ j = 77 ∨ (80 ≤ j ∧ j ≤ 96)) : zUp S (zwI S j k v) := by
  refine ⟨rfl, fun j' hj => ?_, qIIo _ _ (by omega), qIIo _ _ (by omega), qIIo _ _ (by omega), fun k' hk => qIIo _ _ (by omega), fun k' hk => qIIo _ _ (by omega), fun _ _ => rfl⟩
  funext l
  exact qIIo _ _ (by omega)
theorem zUp_wL (S : zSt) {j k : Nat} (v : Int64) (h : j < 2 ∨ 32 ≤ j) : zUp S (zwL S j k v) := by
  refine ⟨rfl, fun _ _ => rfl, rfl, rfl, rfl, fun _ _ => rfl, fun _ _ => rfl, fun j' hj => ?_⟩
  funext l
  rw [qLL, if_neg (by omega)]
theorem zUp_N {S S' : zSt} (h : zUp S S') : zN S' = zN S := by unfold zN; rw [h.1]
theorem zUp_A {S S' : zSt} (h : zUp S S') : zA S' = zA S := by unfold zA; rw [h.1]
theorem zUp_R {S S' : zSt} (h : zUp S S') : zR S' = zR S := by unfold zR; rw [h.1]
theorem iIm_up {S S' : zSt} (h : iIm S) (hu : zUp S S') : iIm S' := by
  intro k hk
  rw [hu.2.1 (20 + 6 * k) (by omega), hu.2.1 76 (by omega)]
  rcases h k hk with h | ⟨h1, h2, P, h3, h4, h5⟩
  · exact Or.inl h
  · refine Or.inr ⟨h1, h2, P, h3, cRep_f h4 (fun j a b => hu.2.1 j (by omega)) (hu.2.2.2.2.2.2.2 _ (by omega)) (by rw [zUp_R hu]) (by rw [zUp_N hu]; exact Nat.le_refl _) (fun j a b => ⟨hu.2.1 j (by omega), by rw [zUp_A hu]⟩), mRep_f h5 (fun k _ => by rw [hu.2.1 75 (by omega)]) h3⟩
theorem iTp_up {S S' : zSt} (h : iTp S) (hu : zUp S S') : iTp S' := by
  obtain ⟨T, h1, h2, h3, h4⟩ := h
  refine ⟨T, h1, by rw [hu.2.2.1]; exact h2, by rw [hu.2.2.2.1]; exact h3, fun k hk => ?_⟩
  rw [hu.2.1 45 (by omega), hu.2.1 79 (by omega)]; exact h4 k hk
theorem iDr_up {S S' : zSt} (h : iDr S) (hu : zUp S S') : iDr S' := by
  unfold iDr
  rw [hu.2.1 13 (by omega), hu.2.2.2.2.1, hu.2.2.2.2.2.2.2 13 (by omega), hu.2.1 97 (by omega)]
  exact h
theorem iSt_up {S S' : zSt} (h : iSt S) (hu : zUp S S') : iSt S' := by
  obtain ⟨h1, h2, h3, h4, h5, h6, h7, h8⟩ := h
  refine ⟨⟨by rw [zUp_A hu]; exact h1.1, fun k hk => by rw [hu.2.2.2.2.2.1 k hk]; exact h1.2 k hk⟩, ?_, zSR_e h3 hu.1, by rw [zUp_A hu]; exact h4, fun k hk => by rw [hu.2.2.2.2.2.2.1 k hk]; exact h5 k hk, by rw [zUp_R hu]; exact h6, by rw [zUp_R hu]; exact h7, iNm_e h8 hu.1⟩
  unfold zW8
  rw [hu.2.1 78 (by omega)]
  exact h2
/-- the laws' texts are where they were: for the parish of the class -/
theorem cRep_up {S S' : zSt} {o : Nat} {P : zP} (h : cRep S o P) (hu : zUp S S') (hI : ∀ j, o ≤ j → j ≤ o + 4 → zI S' j = zI S j) (hL : zL S' o = zL S o) : cRep S' o P := cRep_f h hI hL (by rw [zUp_R hu]) (by rw [zUp_N hu]; exact Nat.le_refl _) (fun j a b => ⟨hu.2.1 j (by omega), by rw [zUp_A hu]⟩)
theorem Inv_up {S S' : zSt} {P : zP} {es : List (Nat × zMv)} (hi : iIm S) (ht : iTp S) (hd : iDr S) (hs : iSt S) (hu : zUp S S') (hP : pOK P) (hc : cRep S' 1 P) (hm : mRep S' 74 0 P) (hj : jRel S' P es) (hms : iMs S') : Inv S' := ⟨P, es, hP, hc, hm, hj, iIm_up hi hu, iTp_up ht hu, hms, iDr_up hd hu, iSt_up hs hu⟩
theorem jRel_f {S S' : zSt} {P : zP} {es : List (Nat × zMv)} (h : jRel S P es) (hI : ∀ j, (32 ≤ j ∧ j ≤ 35) ∨ j = 86 → zI S' j = zI S j) (h72 : zI S' 72 32 = zI S 72 32) (hL : ∀ j, j = 36 ∨ j = 37 → zL S' j = zL S j) : jRel S' P es := by
  unfold jRel
  rw [hI 32 (by omega), h72, hI 33 (by omega), hI 34 (by omega), hI 35 (by omega), hL 36 (by omega), hL 37 (by omega), hI 86 (by omega)]
  exact h
/-- by what a call is refused: the class's place, the reference's -/
def rfP (v : Int32) (p q : Nat) : Prop := (v = -1 ∧ p = 0 ∧ q = 1) ∨ (v = -2 ∧ p = 1 ∧ q = 2) ∨ (v = -3 ∧ p = 2 ∧ q = 3) ∨ (v = -5 ∧ p = 4 ∧ q = 5) ∨ (v = -6 ∧ p = 5 ∧ q = 6)
def rS1 (S : zSt) (v : Int32) (p : Nat) : zSt := zwI (zwI S 71 p (zI S 71 p + 1)) 0 19 v
def rS2 (S : zSt) (v : Int32) (q : Nat) : zSt := zwI (zwI S 72 0 v) 73 q (zI S 73 q + 1)
theorem refE {v : Int32} {p q : Nat} (h : rfP v p q) (S : zSt) : f_E_refused v S = some (v, rS1 S v p) := by
  rcases h with ⟨rfl, rfl, rfl⟩ | ⟨rfl, rfl, rfl⟩ | ⟨rfl, rfl, rfl⟩ | ⟨rfl, rfl, rfl⟩ | ⟨rfl, rfl, rfl⟩ <;> rfl
theorem refM {v : Int32} {p q : Nat} (h : rfP v p q) (S : zSt) : f_M_refuses v S = some (v, rS2 S v q) := by
  rcases h with ⟨rfl, rfl, rfl⟩ | ⟨rfl, rfl, rfl⟩ | ⟨rfl, rfl, rfl⟩ | ⟨rfl, rfl, rfl⟩ | ⟨rfl, rfl, rfl⟩ <;> rfl
/-- the counts behind a refused call -/
theorem ref_ms {S S' : zSt} {v : Int32} {p q : Nat} (hv : rfP v p q) (h : iMs S) (h0 : ∀ k, 16 ≤ k → k ≤ 18 → zI S' 0 k = zI S 0 k) (h19 : zI S' 0 19 = v) (h71 : ∀ k, zI S' 71 k = if k = p then zI S 71 p + 1 else zI S 71 k) (h72 : zI S' 72 0 = v) (h72b : ∀ k, k = 6 ∨ k = 14 ∨ k = 41 → zI S' 72 k = zI S 72 k) (h73 : ∀ k, zI S' 73 k = if k = q then zI S 73 q + 1 else zI S 73 k) : iMs S' := by
  obtain ⟨m1, m2, m3, m4, m5, m6, m7, m8, m9⟩ := h
  refine ⟨by rw [h19, h72], by rw [h0 16 (by omega) (by omega), h72b 6 (by omega)]; exact m2, by rw [h0 17 (by omega) (by omega), h72b 14 (by omega)]; exact m3, by rw [h0 18 (by omega) (by omega), h72b 41 (by omega)]; exact m4, ?_, ?_, ?_, ?_, ?_⟩
  all_goals rw [h71, h73]
  all_goals rcases hv with ⟨-, rfl, rfl⟩ | ⟨-, rfl, rfl⟩ | ⟨-, rfl, rfl⟩ | ⟨-, rfl, rfl⟩ | ⟨-, rfl, rfl⟩
  all_goals simp [m5, m6, m7, m8, m9]
theorem ref_up (S : zSt) (v : Int32) (p q : Nat) : zUp S (rS2 (rS1 S v p) v q) := zUp_t (zUp_t (zUp_w S _ (by omega)) (zUp_w _ _ (by omega))) (zUp_t (zUp_w _ _ (by omega)) (zUp_w _ _ (by omega)))
theorem rS1_I (S : zSt) (v : Int32) (p : Nat) {j : Nat} (h : j ≠ 71 ∧ j ≠ 0) : zI (rS1 S v p) j = zI S j := by
  funext k
  unfold rS1
  rw [qIIo _ _ (by omega), qIIo _ _ (by omega)]
theorem rS2_I (S : zSt) (v : Int32) (q : Nat) {j : Nat} (h : j ≠ 72 ∧ j ≠ 73) : zI (rS2 S v q) j = zI S j := by
  funext k
  unfold rS2
  rw [qIIo _ _ (by omega), qIIo _ _ (by omega)]
theorem ref_inv {S : zSt} {v : Int32} {p q : Nat} (hv : rfP v p q) (h : Inv S) : Inv (rS2 (rS1 S v p) v q) := by
  obtain ⟨P, es, hP, hc, hm, hj, hi, ht, hms, hd, hs⟩ := h
  have I : ∀ j, j ≠ 0 → j ≠ 71 → j ≠ 72 → j ≠ 73 → zI (rS2 (rS1 S v p) v q) j = zI S j := fun j a b c d => by rw [rS2_I _ _ _ ⟨c, d⟩, rS1_I _ _ _ ⟨b, a⟩]
  have up := ref_up S v p q
  have I72 : ∀ k, k ≠ 0 → zI (rS2 (rS1 S v p) v q) 72 k = zI S 72 k := fun k hk => by
    unfold rS2 rS1
    rw [qIIo _ _ (by omega), qIIo _ _ (by omega), qIIo _ _ (by omega), qIIo _ _ (by omega)]
  refine Inv_up hi ht hd hs up hP (cRep_up hc up (fun j a b => I j (by omega) (by omega) (by omega) (by omega)) rfl) (mRep_f hm (fun k _ => by rw [I 74 (by omega) (by omega) (by omega) (by omega)]) hP) (jRel_f hj (fun j a => I j (by omega) (by omega) (by omega) (by omega)) (I72 32 (by omega)) (fun _ _ => rfl)) (ref_ms hv hms (fun k a b => ?_) ?_ (fun k => ?_) ?_ (fun k a => I72 k (by omega)) (fun k => ?_))
  · unfold rS2 rS1
    rw [qIIo _ _ (by omega), qIIo _ _ (by omega), qIIo _ _ (by omega), qIIo _ _ (by omega)]
  · unfold rS2 rS1
    rw [qIIo _ _ (by omega), qIIo _ _ (by omega), qIIs]
  · unfold rS2 rS1
    rw [qIIo _ _ (by omega), qIIo _ _ (by omega), qIIo _ _ (by omega), qII]
    simp
  · unfold rS2 rS1
    rw [qIIo _ _ (by omega), qIIs]
  · unfold rS2
    rw [qII, rS1_I _ _ _ ⟨by omega, by omega⟩]
    have e : zI (zwI (rS1 S v p) 72 0 v) 73 = zI S 73 := by
      funext l
      rw [qIIo _ _ (by omega), rS1_I _ _ _ ⟨by omega, by omega⟩]
    rw [e]
    simp
theorem cOk_ref {S : zSt} (h : Inv S) {v : Int32} {p q : Nat} (hv : rfP v p q) {fE fM : zSt → Option (Int32 × zSt)} (hE : fE S = f_E_refused v S) (hM : fM (rS1 S v p) = f_M_refuses v (rS1 S v p)) : cOk fE fM S := by
  have hN := zUp_N (ref_up S v p q)
  exact ⟨v, rS1 S v p, rS2 (rS1 S v p) v q, hE.trans (refE hv S), hM.trans (refM hv _), ref_inv hv h, by rw [hN]; exact Nat.le_refl _, by rw [hN]; omega⟩
theorem rf1 : rfP (-1) 0 1 := Or.inl ⟨rfl, rfl, rfl⟩
theorem rf2 : rfP (-2) 1 2 := Or.inr (Or.inl ⟨rfl, rfl, rfl⟩)
theorem rf3 : rfP (-3) 2 3 := Or.inr (Or.inr (Or.inl ⟨rfl, rfl, rfl⟩))
theorem rf5 : rfP (-5) 4 5 := Or.inr (Or.inr (Or.inr (Or.inl ⟨rfl, rfl, rfl⟩)))
theorem rf6 : rfP (-6) 5 6 := Or.inr (Or.inr (Or.inr (Or.inr ⟨rfl, rfl, rfl⟩)))
theorem rS1_m {S : zSt} {P : zP} (hm : mRep S 74 0 P) (hP : pOK P) (v : Int32) (p : Nat) : mRep (rS1 S v p) 74 0 P := mRep_f hm (fun k _ => by rw [rS1_I _ _ _ (by omega)]) hP
/-- the counts behind a granted call -/
theorem gr_ms {S S' : zSt} (h : iMs S) (h0 : ∀ k, 16 ≤ k → k ≤ 18 → zI S' 0 k = zI S 0 k) (h19 : zI S' 0 19 = 0) (h71 : zI S' 71 = zI S 71) (h72 : zI S' 72 0 = 0) (h72b : ∀ k, k = 6 ∨ k = 14 ∨ k = 41 → zI S' 72 k = zI S 72 k) (h73 : zI S' 73 = zI S 73) : iMs S' := by
  obtain ⟨m1, m2, m3, m4, m5, m6, m7, m8, m9⟩ := h
  unfold iMs
  rw [h19, h72, h0 16 (by omega) (by omega), h72b 6 (by omega), h0 17 (by omega) (by omega), h72b 14 (by omega), h0 18 (by omega) (by omega), h72b 41 (by omega), h71, h73]
  exact ⟨rfl, m2, m3, m4, m5, m6, m7, m8, m9⟩
/-- nothing can be undone -/
theorem jRel_nil {S : zSt} (P : zP) (h1 : zI S 32 0 = 0) (h2 : zI S 72 32 = 0) (h3 : ∃ nx : Nat, nx ≤ 16 ∧ zI S 32 1 = nI nx) : jRel S P [] := by
  obtain ⟨nx, g1, g2⟩ := h3
  exact ⟨by simp, h1, h2, nx, g1, g2, fun i e h => by simp at h⟩
theorem jRel_nx {S : zSt} {P : zP} {es : List (Nat × zMv)} (h : jRel S P es) : ∃ nx : Nat, nx ≤ 16 ∧ zI S 32 1 = nI nx := by
  obtain ⟨h1, h2, h3, nx, h4, h5, h6⟩ := h
  exact ⟨nx, h4, h5⟩

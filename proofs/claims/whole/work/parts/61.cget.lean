/-! the class's parish is asked -/
section CGT
variable {S : zSt} {o : Nat} {P : zP}
theorem has_yes (h : cRep S o P) (hP : pOK P) {s : Nat} (hs : s < pN P) : f_Ps_has o (nI s) S = some 1 := by
  have h9 := hP.1
  unfold f_Ps_has
  rw [if_neg (n_neg (by omega)), h.1, if_neg (fun h => absurd ((n_le (by omega) (by omega)).mp h) (by omega))]
theorem has_no (h : cRep S o P) (hP : pOK P) {a : Int32} (ha : ∀ s, s < pN P → a ≠ nI s) : f_Ps_has o a S = some 0 := by
  have h9 := hP.1
  unfold f_Ps_has
  by_cases h0 : a < 0
  · rw [if_pos h0]
  · rw [if_neg h0, h.1]
    rw [q_lt, q_0] at h0
    obtain ⟨m, rfl, hm, hb⟩ := q_ex (a := a) (by omega)
    by_cases hl : nI (pN P) ≤ nI m
    · rw [if_pos hl]
    · exact absurd rfl (ha m (by
        refine Nat.lt_of_not_le (fun h2 => hl ((n_le (by omega) (by omega)).mpr h2))))
/-- a number is a spring's, or none's -/
theorem spr_or (P : zP) (a : Int32) : (∃ s, s < pN P ∧ a = nI s) ∨ ∀ s, s < pN P → a ≠ nI s := by
  by_cases h : ∃ s, s < pN P ∧ a = nI s
  · exact Or.inl h
  · exact Or.inr fun s hs he => h ⟨s, hs, he⟩
theorem pq_ar : ∀ a, a < 9 → ∀ b, b < 9 → ((nI a * (nI a - (1 : Int32))) / (2 : Int32)) + nI b = nI (a * (a - 1) / 2 + b) := by decide +kernel
theorem pair_yes (h : cRep S o P) (hP : pOK P) {a b : Nat} (ha : a < pN P) (hb : b < pN P) (hab : a ≠ b) : f_Ps_pairOf o (nI a) (nI b) S = some (nI (pq a b)) := by
  have h9 := hP.1
  unfold f_Ps_pairOf
  rw [if_neg (fun h => hab ((n_eq (by omega) (by omega)).mp h)), if_neg (n_neg (by omega)), if_neg (n_neg (by omega)), h.1, if_neg (fun h => absurd ((n_le (by omega) (by omega)).mp h) (by omega)), if_pos ((n_lt (by omega) (by omega)).mpr hb)]
  unfold f_Ps_pairOf_41 pq
  have l := n_le (a := a) (b := b) (by omega) (by omega)
  by_cases hl : b ≤ a
  · rw [if_neg (fun h => absurd (l.mp h) (by omega)), if_neg (fun h => absurd (l.mp h) (by omega)), if_pos hl, pq_ar a (by omega) b (by omega)]
  · rw [if_pos (l.mpr (by omega)), if_pos (l.mpr (by omega)), if_neg hl, pq_ar b (by omega) a (by omega)]
theorem pair_eq (a : Int32) : f_Ps_pairOf o a a S = some (-1) := by unfold f_Ps_pairOf; rw [if_pos rfl]
theorem pair_no1 (h : cRep S o P) (hP : pOK P) {a b : Int32} (ha : ∀ s, s < pN P → a ≠ nI s) : f_Ps_pairOf o a b S = some (-1) := by
  have h9 := hP.1
  unfold f_Ps_pairOf
  by_cases h1 : a = b
  · rw [if_pos h1]
  rw [if_neg h1]
  by_cases h2 : a < 0
  · rw [if_pos h2]
  rw [if_neg h2]
  by_cases h3 : b < 0
  · rw [if_pos h3]
  rw [if_neg h3, h.1]
  rw [q_lt, q_0] at h2
  obtain ⟨m, rfl, hm, hb⟩ := q_ex (a := a) (by omega)
  have : pN P ≤ m := Nat.le_of_not_lt (fun h => ha m h rfl)
  rw [if_pos ((n_le (by omega) (by omega)).mpr this)]
theorem pair_no2 (h : cRep S o P) (hP : pOK P) {a b : Int32} (hb : ∀ s, s < pN P → b ≠ nI s) : f_Ps_pairOf o a b S = some (-1) := by
  have h9 := hP.1
  unfold f_Ps_pairOf
  by_cases h1 : a = b
  · rw [if_pos h1]
  rw [if_neg h1]
  by_cases h2 : a < 0
  · rw [if_pos h2]
  rw [if_neg h2]
  by_cases h3 : b < 0
  · rw [if_pos h3]
  rw [if_neg h3, h.1]
  by_cases h4 : nI (pN P) ≤ a
  · rw [if_pos h4]
  rw [if_neg h4]
  rw [q_lt, q_0] at h3
  obtain ⟨m, rfl, hm, hb2⟩ := q_ex (a := b) (by omega)
  have : pN P ≤ m := Nat.le_of_not_lt (fun h => hb m h rfl)
  rw [if_neg (fun h => absurd ((n_lt (by omega) (by omega)).mp h) (by omega))]
theorem far_p (S : zSt) (o : Nat) {p : Nat} (hp : p < 36) : f_Ps_farOf o (nI p) S = some (zI S (o + 2) p) := by
  unfold f_Ps_farOf
  have l : ¬ (36 : Int32) ≤ nI p := fun h => absurd ((n_le (a := 36) (by omega) (by omega)).mp h) (by omega)
  rw [if_neg (n_neg (by omega)), if_neg l, n_gd (by omega) hp, q_cl (by omega)]
theorem far_yes (h : cRep S o P) {a b : Nat} (ha : a < 9) (hb : b < 9) (hab : a ≠ b) : f_Ps_farOf o (nI (pq a b)) S = some (pFar P a b) := by
  rw [far_p S o (pq_c a ha b hb hab), h.2.2.1 a b ha hb hab]
theorem far_no (S : zSt) (o : Nat) : f_Ps_farOf o (-1) S = some 0 := rfl
theorem bit1 (x : Int64) {p : Nat} (hp : p < 64) : (((x.toUInt64 >>> ((nI p).toInt64.toUInt64 &&& Int64.toUInt64 63)).toInt64) &&& (1 : Int64)) = 1 ↔ bL x p = true := by
  constructor
  · intro h
    have h2 : bL ((((x.toUInt64 >>> ((nI p).toInt64.toUInt64 &&& Int64.toUInt64 63)).toInt64) &&& (1 : Int64))) 0 = true := by rw [h]; rfl
    rw [bL_and, bL_ushr x hp, bL_1] at h2
    simpa using h2
  · intro h
    apply bL_ext
    intro i hi
    rw [bL_and, bL_ushr x hp, bL_1]
    by_cases h0 : i = 0
    · rw [h0]; simp [h]
    · simp [h0]
theorem shut_p (S : zSt) (o : Nat) {p : Nat} (hp : p < 64) : f_Ps_isShut o (nI p) S = some (b2 (bL (zL S o 4) p)) := by
  unfold f_Ps_isShut
  rw [if_neg (n_neg (by omega))]
  by_cases h : bL (zL S o 4) p = true
  · rw [if_pos ((q_lcmp0 _ _).mpr ((bit1 _ hp).mpr h)), h]; rfl
  · rw [if_neg (fun h2 => h ((bit1 _ hp).mp ((q_lcmp0 _ _).mp h2)))]
    have : bL (zL S o 4) p = false := by simpa using h
    rw [this]; rfl
theorem shut_yes (h : cRep S o P) {a b : Nat} (ha : a < 9) (hb : b < 9) (hab : a ≠ b) : f_Ps_isShut o (nI (pq a b)) S = some (b2 (pSh P a b)) := by
  have := pq_c a ha b hb hab
  rw [shut_p S o (by omega), h.2.2.2.2.1 a b ha hb hab]
theorem shut_no (S : zSt) (o : Nat) : f_Ps_isShut o (-1) S = some 0 := rfl
theorem level_yes (h : cRep S o P) (hP : pOK P) {s : Nat} (hs : s < pN P) : f_Ps_levelOf o (nI s) S = some (pLv P s) := by
  have h9 := hP.1
  have l : ¬ (9 : Int32) ≤ nI s := fun h => absurd ((n_le (a := 9) (by omega) (by omega)).mp h) (by omega)
  unfold f_Ps_levelOf
  rw [if_neg (n_neg (by omega)), if_neg l, n_gd (by omega) (by omega), q_cl (by omega), h.2.1 s hs]
theorem mud_yes (h : cRep S o P) (hP : pOK P) {s : Nat} (hs : s < pN P) : f_Ps_mudOf o (nI s) S = some (pMud P s) := by
  have h9 := hP.1
  unfold f_Ps_mudOf
  rw [if_neg (n_neg (by omega)), h.1, if_neg (fun h => absurd ((n_le (by omega) (by omega)).mp h) (by omega))]
  rw [← h.2.2.2.1 s hs]
  rfl
theorem mud_no (h : cRep S o P) (hP : pOK P) {a : Int32} (ha : ∀ s, s < pN P → a ≠ nI s) : f_Ps_mudOf o a S = some (-1) := by
  have h9 := hP.1
  unfold f_Ps_mudOf
  by_cases h0 : a < 0
  · rw [if_pos h0]
  · rw [if_neg h0, h.1]
    rw [q_lt, q_0] at h0
    obtain ⟨m, rfl, hm, hb⟩ := q_ex (a := a) (by omega)
    have : pN P ≤ m := Nat.le_of_not_lt (fun h => ha m h rfl)
    rw [if_pos ((n_le (by omega) (by omega)).mpr this)]
theorem cRep_w54 (h : cRep S o P) (ho : o < 39) (k : Nat) (v : Int32) (hk : k < 7) : cRep (zwI S 54 k v) o P := cRep_co h (zCo_w S v (by unfold scI; omega)) ho
/-- the words' row behind its seven -/
def zT7 (S : zSt) : Prop := zA S 54 = 7 ∧ ∀ k, 7 ≤ k → zI S 54 k = 0
theorem zT7_co {S S' : zSt} (h : zT7 S) (hc : zCo S S') : zT7 S' := ⟨by rw [zCo_A hc]; exact h.1, fun k hk => by rw [hc.2.1 54 k (by unfold scI; omega)]; exact h.2 k hk⟩
theorem row54 (S : zSt) (v0 v1 v2 v3 v4 v5 v6 : Int32) (k : Nat) : zI (zwI (zwI (zwI (zwI (zwI (zwI (zwI S 54 0 v0) 54 1 v1) 54 2 v2) 54 3 v3) 54 4 v4) 54 5 v5) 54 6 v6) 54 k = if k = 0 then v0 else if k = 1 then v1 else if k = 2 then v2 else if k = 3 then v3 else if k = 4 then v4 else if k = 5 then v5 else if k = 6 then v6 else zI S 54 k := by
  simp only [qII, true_and]
  by_cases h0 : k = 0
  · subst h0; rfl
  by_cases h1 : k = 1
  · subst h1; rfl
  by_cases h2 : k = 2
  · subst h2; rfl
  by_cases h3 : k = 3
  · subst h3; rfl
  by_cases h4 : k = 4
  · subst h4; rfl
  by_cases h5 : k = 5
  · subst h5; rfl
  by_cases h6 : k = 6
  · subst h6; rfl
  rw [if_neg h6, if_neg h5, if_neg h4, if_neg h3, if_neg h2, if_neg h1, if_neg h0, if_neg h0, if_neg h1, if_neg h2, if_neg h3, if_neg h4, if_neg h5, if_neg h6]
theorem row54_co (S : zSt) (v0 v1 v2 v3 v4 v5 v6 : Int32) : zCo S (zwI (zwI (zwI (zwI (zwI (zwI (zwI S 54 0 v0) 54 1 v1) 54 2 v2) 54 3 v3) 54 4 v4) 54 5 v5) 54 6 v6) := by
  have W : ∀ (S : zSt) (k : Nat) (v : Int32), k < 7 → zCo S (zwI S 54 k v) := fun S k v hk => zCo_w S v (by unfold scI; omega)
  exact zCo_t (zCo_t (zCo_t (zCo_t (zCo_t (zCo_t (W _ 0 _ (by omega)) (W _ 1 _ (by omega))) (W _ 2 _ (by omega))) (W _ 3 _ (by omega))) (W _ 4 _ (by omega))) (W _ 5 _ (by omega))) (W _ 6 _ (by omega))
theorem tell_ch (h : cRep S o P) (hP : pOK P) (ho : o < 39) (hT : zT7 S) {a b : Nat} (ha : a < pN P) (hb : b < pN P) (hab : a ≠ b) : ∃ S', f_Ps_tellChannel o 54 (nI a) (nI b) S = some S' ∧ zCo S S' ∧ xe (zI S' 54) = eC P a b ∧ (∀ k, k < 4 → k ≠ 2 → kWo k S' = (if k = 0 then pFar P a b else if k = 1 then 1 else 0)) ∧ ∀ j, j ≠ 54 → zI S' j = zI S j := by
  have h9 := hP.1
  have e7 : (zA S 54).toInt32 = nI 7 := by rw [hT.1]; rfl
  have ea : ∀ (S : zSt) (k : Nat) (v : Int32), zA (zwI S 54 k v) = zA S := fun _ _ _ => rfl
  have H : ∀ (S' : zSt), zCo S S' → cRep S' o P := fun S' hc => cRep_co h hc ho
  have W : ∀ (S : zSt) (k : Nat) (v : Int32), k < 7 → zCo S (zwI S 54 k v) := fun S k v hk => zCo_w S v (by unfold scI; omega)
  have c1 := zCo_t (W S 0 (nI a) (by omega)) (W _ 1 (nI b) (by omega))
  have c2 := zCo_t c1 (W _ 2 (pFar P a b) (by omega))
  have c3 := zCo_t c2 (W _ 3 (pLv P a - pLv P b) (by omega))
  have c4 := zCo_t c3 (W _ 4 (pMud P b) (by omega))
  have c5 := zCo_t c4 (W _ 5 (nI (pDay P)) (by omega))
  have r5 := pair_yes (H _ c1) hP ha hb hab
  have r7 := far_yes (H _ c1) (by omega : a < 9) (by omega : b < 9) hab
  have r10 := level_yes (H _ c2) hP ha
  have r12 := level_yes (H _ c2) hP hb
  have r15 := mud_yes (H _ c3) hP hb
  have r6 := (H _ c4).2.2.2.2.2.2.2.1
  have r8 := (H _ c5).2.2.2.2.2.2.2.2.2.1
  refine ⟨_, ?_, row54_co S (nI a) (nI b) (pFar P a b) (pLv P a - pLv P b) (pMud P b) (nI (pDay P)) (nI (pMood P)), ?_, ?_, fun j hj => by funext k; rw [qIIo _ _ (by omega), qIIo _ _ (by omega), qIIo _ _ (by omega), qIIo _ _ (by omega), qIIo _ _ (by omega), qIIo _ _ (by omega), qIIo _ _ (by omega)]⟩
  · unfold f_Ps_tellChannel
    have t0 : (0 : Int32).toNatClampNeg = 0 := rfl
    have t1 : (1 : Int32).toNatClampNeg = 1 := rfl
    have t2 : (2 : Int32).toNatClampNeg = 2 := rfl
    have t3 : (3 : Int32).toNatClampNeg = 3 := rfl
    have t4 : (4 : Int32).toNatClampNeg = 4 := rfl
    have t5 : (5 : Int32).toNatClampNeg = 5 := rfl
    have t6 : (6 : Int32).toNatClampNeg = 6 := rfl
    simp only [t0, t1, t2, t3, t4, t5, t6, ea]
    rw [e7, if_pos (by decide), hT.1, qgd ⟨by decide, by omega⟩, qgd ⟨by decide, by omega⟩, qb1 r5, qb1 r7, qgd ⟨by decide, by omega⟩, qb1 r10, qb1 r12, qgd ⟨by decide, by omega⟩, qb1 r15, qgd ⟨by decide, by omega⟩, r6, qgd ⟨by decide, by omega⟩, r8, qgd ⟨by decide, by omega⟩]
  · obtain ⟨va, hva, hla⟩ := hP.2.1 a ha
    obtain ⟨vb, hvb, hlb⟩ := hP.2.1 b hb
    have hday := hP.2.2.2.2.2.2.2.2.2.1
    have hmood := hP.2.2.2.2.2.2.2.2.2.2.2.1
    funext k
    show (zI _ 54 k).toInt = eC P a b k
    rw [row54]
    unfold eC
    by_cases h0 : k = 0
    · rw [if_pos h0, if_pos h0, q_nI (by omega)]
    rw [if_neg h0, if_neg h0]
    by_cases h1 : k = 1
    · rw [if_pos h1, if_pos h1, q_nI (by omega)]
    rw [if_neg h1, if_neg h1]
    by_cases h2 : k = 2
    · rw [if_pos h2, if_pos h2]
    rw [if_neg h2, if_neg h2]
    by_cases h3 : k = 3
    · rw [if_pos h3, if_pos h3, q_sub]
      rw [hla, hlb, q_nI (by omega), q_nI (by omega)]; omega
    rw [if_neg h3, if_neg h3]
    by_cases h4 : k = 4
    · rw [if_pos h4, if_pos h4]
    rw [if_neg h4, if_neg h4]
    by_cases h5 : k = 5
    · rw [if_pos h5, if_pos h5, q_nI (by omega)]
    rw [if_neg h5, if_neg h5]
    by_cases h6 : k = 6
    · rw [if_pos h6, if_pos h6, q_nI (by omega)]
    rw [if_neg h6, if_neg h6, hT.2 k (by omega)]
    rfl
  · intro k hk hk2
    unfold kWo
    rcases (by omega : k = 0 ∨ k = 1 ∨ k = 3) with rfl | rfl | rfl
    · rw [if_pos rfl, if_pos rfl, row54]; rfl
    · rfl
    · rfl
theorem tell_sp (h : cRep S o P) (hP : pOK P) (ho : o < 39) (hT : zT7 S) {s : Nat} (hs : s < pN P) : ∃ S', f_Ps_tellSpring o 54 (nI s) S = some S' ∧ zCo S S' ∧ xe (zI S' 54) = eS P s ∧ kWo 2 S' = pMud P s ∧ ∀ j, j ≠ 54 → zI S' j = zI S j := by
  have h9 := hP.1
  have e7 : (zA S 54).toInt32 = nI 7 := by rw [hT.1]; rfl
  have ea : ∀ (S : zSt) (k : Nat) (v : Int32), zA (zwI S 54 k v) = zA S := fun _ _ _ => rfl
  have H : ∀ (S' : zSt), zCo S S' → cRep S' o P := fun S' hc => cRep_co h hc ho
  have W : ∀ (S : zSt) (k : Nat) (v : Int32), k < 7 → zCo S (zwI S 54 k v) := fun S k v hk => zCo_w S v (by unfold scI; omega)
  have c1 := zCo_t (W S 0 (nI s) (by omega)) (W _ 1 (-1) (by omega))
  have c2 := zCo_t c1 (W _ 2 (-1) (by omega))
  have c3 := zCo_t c2 (W _ 3 0 (by omega))
  have c4 := zCo_t c3 (W _ 4 (pMud P s) (by omega))
  have c5 := zCo_t c4 (W _ 5 (nI (pDay P)) (by omega))
  have r15 := mud_yes (H _ c3) hP hs
  have r6 := (H _ c4).2.2.2.2.2.2.2.1
  have r8 := (H _ c5).2.2.2.2.2.2.2.2.2.1
  refine ⟨_, ?_, row54_co S (nI s) (-1) (-1) 0 (pMud P s) (nI (pDay P)) (nI (pMood P)), ?_, ?_, fun j hj => by funext k; rw [qIIo _ _ (by omega), qIIo _ _ (by omega), qIIo _ _ (by omega), qIIo _ _ (by omega), qIIo _ _ (by omega), qIIo _ _ (by omega), qIIo _ _ (by omega)]⟩
  · unfold f_Ps_tellSpring
    have t0 : (0 : Int32).toNatClampNeg = 0 := rfl
    have t1 : (1 : Int32).toNatClampNeg = 1 := rfl
    have t2 : (2 : Int32).toNatClampNeg = 2 := rfl
    have t3 : (3 : Int32).toNatClampNeg = 3 := rfl
    have t4 : (4 : Int32).toNatClampNeg = 4 := rfl
    have t5 : (5 : Int32).toNatClampNeg = 5 := rfl
    have t6 : (6 : Int32).toNatClampNeg = 6 := rfl
    simp only [t0, t1, t2, t3, t4, t5, t6, ea]
    rw [e7, if_pos (by decide), hT.1, qgd ⟨by decide, by omega⟩, qgd ⟨by decide, by omega⟩, qgd ⟨by decide, by omega⟩, qgd ⟨by decide, by omega⟩, qb1 r15, qgd ⟨by decide, by omega⟩, r6, qgd ⟨by decide, by omega⟩, r8, qgd ⟨by decide, by omega⟩]
  · have hday := hP.2.2.2.2.2.2.2.2.2.1
    have hmood := hP.2.2.2.2.2.2.2.2.2.2.2.1
    funext k
    show (zI _ 54 k).toInt = eS P s k
    rw [row54]
    unfold eS
    by_cases h0 : k = 0
    · rw [if_pos h0, if_pos h0, q_nI (by omega)]
    rw [if_neg h0, if_neg h0]
    by_cases h1 : k = 1
    · rw [if_pos h1, if_pos h1]; rfl
    rw [if_neg h1, if_neg h1]
    by_cases h2 : k = 2
    · rw [if_pos h2, if_pos h2]; rfl
    rw [if_neg h2, if_neg h2]
    by_cases h3 : k = 3
    · rw [if_pos h3, if_pos h3]; rfl
    rw [if_neg h3, if_neg h3]
    by_cases h4 : k = 4
    · rw [if_pos h4, if_pos h4]
    rw [if_neg h4, if_neg h4]
    by_cases h5 : k = 5
    · rw [if_pos h5, if_pos h5, q_nI (by omega)]
    rw [if_neg h5, if_neg h5]
    by_cases h6 : k = 6
    · rw [if_pos h6, if_pos h6, q_nI (by omega)]
    rw [if_neg h6, if_neg h6, hT.2 k (by omega)]
    rfl
  · unfold kWo
    rw [if_neg (by omega), if_neg (by omega), if_pos rfl, row54]; rfl
theorem zLw_co {S S' : zSt} {x : Option Nat} {law : List lC} (h : zLw S x law) (h98 : ∀ t, x = some t → 98 ≤ t) (hc : zCo S S') : zLw S' x law := by
  cases x with
  | none => exact h
  | some t =>
    obtain ⟨h1, h2, h3, h4⟩ := h
    have := h98 t rfl
    exact ⟨h1, h2, by rw [zCo_N hc]; exact h3, zTx_f h4 (fun j a b => zCo_I hc (by omega)) (by rw [zCo_A hc])⟩
theorem told_ch (fu : Nat) (hfu : 1000 ≤ fu) (h : cRep S o P) (hP : pOK P) (ho : o < 39) (hT : zT7 S) {x : Option Nat} {law : List lC} (hx : zLw S x law) (h98 : ∀ t, x = some t → 98 ≤ t) {k a b : Nat} (hk : k < 4) (hk2 : k ≠ 2) (ha : a < pN P) (hb : b < pN P) (hab : a ≠ b) :
    ∃ S', f_As_told fu o x (nI k) (nI a) (nI b) S = some (pTl P law k a b, S') ∧ zCo S S' ∧ ∀ j, j ≠ 54 → zI S' j = zI S j := by
  obtain ⟨S1, e1, c1, eE, eW, eF⟩ := tell_ch h hP ho hT ha hb hab
  have hA : zA S1 54 = 7 := by rw [zCo_A c1]; exact hT.1
  obtain ⟨g, e2, s2⟩ := told_30 fu o hfu hk (zLw_co hx h98 c1) hA
  refine ⟨_, ?_, zCo_t c1 (zCo_53 S1 s2), eF⟩
  unfold f_As_told
  have ne : ¬ nI k = (2 : Int32) := fun h => hk2 ((n_eq (b := 2) (by omega) (by omega)).mp h)
  rw [if_neg ne, qb1 e1, e2, eE, eW k hk hk2]
  rfl
theorem told_sp (fu : Nat) (hfu : 1000 ≤ fu) (h : cRep S o P) (hP : pOK P) (ho : o < 39) (hT : zT7 S) {x : Option Nat} {law : List lC} (hx : zLw S x law) (h98 : ∀ t, x = some t → 98 ≤ t) {s : Nat} (hs : s < pN P) (z : Int32) :
    ∃ S', f_As_told fu o x 2 (nI s) z S = some (pSt P law s, S') ∧ zCo S S' ∧ ∀ j, j ≠ 54 → zI S' j = zI S j := by
  obtain ⟨S1, e1, c1, eE, eW, eF⟩ := tell_sp h hP ho hT hs
  have hA : zA S1 54 = 7 := by rw [zCo_A c1]; exact hT.1
  obtain ⟨g, e2, s2⟩ := told_30 fu o hfu (kind := 2) (by omega) (zLw_co hx h98 c1) hA
  refine ⟨_, ?_, zCo_t c1 (zCo_53 S1 s2), eF⟩
  unfold f_As_told
  have e2' : f_As_told_30 fu o x 2 S1 = _ := e2
  rw [if_pos rfl, qb1 e1, e2', eE, eW]
  rfl
/-- the law of this number, of none -/
theorem law_of (h : cRep S o P) (hP : pOK P) (f : Option Nat) (hf : ∀ t, f = some t → t < (pLw P).length) : ∃ x, f_Ps_lawOf o (fcI f) S = some x ∧ zLw S x (pLawO P f) ∧ ∀ t, x = some t → 98 ≤ t := by
  have h6 := hP.2.2.2.2.2.2.2.2.2.2.2.2.2.2.1
  cases f with
  | none => exact ⟨none, rfl, rfl, fun t ht => by cases ht⟩
  | some t =>
    have ht := hf t rfl
    obtain ⟨q, g1, g2, g3, g4, g5⟩ := h.2.2.2.2.2.2.2.2.2.2.2.2.2.1 t _ (List.getElem?_eq_getElem ht)
    refine ⟨some q, ?_, ⟨g2, by omega, by omega, ?_⟩, fun t ht => by injection ht with ht; omega⟩
    · have l6 : ¬ (6 : Int32) ≤ nI t := fun h => absurd ((n_le (a := 6) (by omega) (by omega)).mp h) (by omega)
      show f_Ps_lawOf o (nI t) S = _
      unfold f_Ps_lawOf
      rw [if_neg (n_neg (by omega)), h.2.2.2.2.2.2.2.2.2.2.2.2.1, if_neg (fun h => absurd ((n_le (by omega) (by omega)).mp h) (by omega)), if_neg l6, n_gd (by omega) (by omega), q_cl (by omega), g1]
    · show zTx S q 7 (((pLw P).getD t []).map xcO)
      have e : (pLw P).getD t [] = (pLw P)[t] := by rw [List.getD_eq_getElem?_getD, List.getElem?_eq_getElem ht]; rfl
      rw [e]; exact g5
theorem law_force (h : cRep S o P) (hP : pOK P) : ∃ x, f_Ps_lawInForce o S = some x ∧ zLw S x (pLaw P) ∧ ∀ t, x = some t → 98 ≤ t := by
  obtain ⟨x, h1, h2, h3⟩ := law_of h hP (pFc P) hP.2.2.2.2.2.2.2.2.2.2.2.2.2.2.2
  refine ⟨x, ?_, h2, h3⟩
  unfold f_Ps_lawInForce
  rw [h.2.2.2.2.2.2.2.2.2.2.2.2.2.2]
  exact qb1 h1
end CGT

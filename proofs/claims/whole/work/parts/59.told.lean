/-! what a law tells: the class's side -/
theorem xrun_rg (c : Nat → Int32) (len W : Nat) (E : Nat → Int32) : ∀ (n a : Nat) (st : List Int) (K : Nat) (v : Int), (∀ u ∈ st, -2147483648 - (K : Int) ≤ u ∧ u ≤ 2147483648 + (K : Int)) → xrun c len W E n a st = some v → -2147483648 - (K : Int) - (n : Int) ≤ v ∧ v ≤ 2147483648 + (K : Int) + (n : Int) := by
  intro n
  induction n with
  | zero => intro a st K v _ h; cases h
  | succ n ih =>
    intro a st K v hst h
    rw [xrun_s] at h
    have I : ∀ a' st', (∀ u ∈ st', -2147483648 - ((K + 1 : Nat) : Int) ≤ u ∧ u ≤ 2147483648 + ((K + 1 : Nat) : Int)) → xrun c len W E n a' st' = some v → -2147483648 - (K : Int) - ((n + 1 : Nat) : Int) ≤ v ∧ v ≤ 2147483648 + (K : Int) + ((n + 1 : Nat) : Int) := by
      intro a' st' h1 h2
      have := ih a' st' (K + 1) v h1 h2
      omega
    have up : ∀ u ∈ st, -2147483648 - ((K + 1 : Nat) : Int) ≤ u ∧ u ≤ 2147483648 + ((K + 1 : Nat) : Int) := fun u hu => by have := hst u hu; omega
    split at h
    · cases h
    · split at h
      · cases st with
        | nil => cases h
        | cons x r =>
          have hx := hst x (by simp)
          have hr : ∀ u ∈ r, -2147483648 - ((K + 1 : Nat) : Int) ≤ u ∧ u ≤ 2147483648 + ((K + 1 : Nat) : Int) := fun u hu => up u (by simp [hu])
          dsimp only at h
          split at h
          · injection h with h; omega
          · split at h
            · refine I _ _ (fun u hu => ?_) h
              rcases List.mem_cons.mp hu with rfl | hu
              · omega
              · exact hr u hu
            · split at h
              · cases r with
                | nil => cases h
                | cons y r' =>
                  dsimp only at h
                  split at h
                  · cases h
                  · rename_i z hz
                    refine I _ _ (fun u hu => ?_) h
                    rcases List.mem_cons.mp hu with rfl | hu
                    · have := xop_rg hz; omega
                    · exact hr u (by simp [hu])
              · split at h
                · split at h
                  · exact I _ _ up h
                  · exact I _ _ hr h
                · split at h
                  · exact I _ _ up h
                  · exact I _ _ hr h
      · split at h
        · cases h
        · split at h
          · split at h
            · refine I _ _ (fun u hu => ?_) h
              rcases List.mem_cons.mp hu with rfl | hu
              · have := q_rg (E (c a >>> ((4 : Int32) &&& 31)).toNatClampNeg); omega
              · exact up u hu
            · cases h
          · refine I _ _ (fun u hu => ?_) h
            rcases List.mem_cons.mp hu with rfl | hu
            · have := q_rg (c a >>> ((4 : Int32) &&& 31)); omega
            · exact up u hu
theorem value_rg {S : zSt} {t W : Nat} {cls : List xC} (h : zTx S t W cls) {j w : Nat} {x : xC} (hx : cls[j]? = some x) (hw : w < 3) (E : Nat → Int32) {v : Int} (hv : x.2.2 w (xe E) = some v) : -2147490000 ≤ v ∧ v ≤ 2147490000 := by
  obtain ⟨h1, h2, l, h3, h4, h5, h6, h7, h8, h9⟩ := h
  obtain ⟨b1, b2, b3, b4, b5⟩ := h8 j x hx
  rcases b5 w hw with ⟨s1, s2⟩ | ⟨a, b, k, s1, s2, s3, s4, s5, s6⟩
  · rw [s2] at hv
    injection hv with hv
    omega
  · have y : xr (zI S (t + 4)) l W E a [] = x.2.2 w (xe E) := xseg_end s5 s4 s6 s3 E
    rw [hv] at y
    have := xrun_rg (zI S (t + 4)) l W E (l + 1) a [] 0 v (fun u hu => by simp at hu) y
    omega
def kLo (kind : Nat) : Nat := if kind = 0 then 1 else 0
def kHi (kind : Nat) : Nat := if kind = 2 then 9 else 99
theorem near_is {kind : Nat} (hk : kind < 4) {v : Int} (hv : -2147490000 ≤ v ∧ v ≤ 2147490000) : f_As_nearest (nI kind) (Int64.ofInt v) = some (nI (clN (kLo kind) (kHi kind) v)) := by
  have K : ∀ lo hi : Nat, lo ≤ hi → hi < 100 → f_As_nearest_22 (Int64.ofInt v) (nI lo) (nI hi) = some (nI (clN lo hi v)) := by
    intro lo hi h hh
    have c1 := w_ge (y := v) (z := lo) (by omega) (by omega)
    have c2 := w_le (y := v) (z := hi) (by omega) (by omega)
    unfold f_As_nearest_22 clN
    rw [nI_64 lo (by omega), nI_64 hi (by omega)]
    by_cases a : v < (lo : Int)
    · rw [if_neg (fun h => absurd (c1.mp h) (by omega)), if_pos a]
    · rw [if_pos (c1.mpr (by omega)), if_neg a]
      by_cases b : (hi : Int) < v
      · rw [if_neg (fun h => absurd (c2.mp h) (by omega)), if_pos b]
      · have e := l2i_small v.toNat (by omega)
        rw [show ((v.toNat : Nat) : Int) = v by omega] at e
        rw [if_pos (c2.mpr (by omega)), if_neg b, e]
  rcases (by omega : kind = 0 ∨ kind = 1 ∨ kind = 2 ∨ kind = 3) with rfl | rfl | rfl | rfl
  · exact K 1 99 (by omega) (by omega)
  · exact K 0 99 (by omega) (by omega)
  · exact K 0 9 (by omega) (by omega)
  · exact K 0 99 (by omega) (by omega)
/-- told without any clause, by the words -/
def kWo (kind : Nat) (S : zSt) : Int32 := if kind = 0 then zI S 54 2 else if kind = 1 then 1 else if kind = 2 then zI S 54 4 else 0
theorem without_is {kind : Nat} (hk : kind < 4) (S : zSt) : f_As_without (nI kind) S = some (kWo kind S) := by
  rcases (by omega : kind = 0 ∨ kind = 1 ∨ kind = 2 ∨ kind = 3) with rfl | rfl | rfl | rfl <;> rfl
theorem zTx_53 {S : zSt} {t W : Nat} {cls : List xC} (h : zTx S t W cls) (g : Nat → Nat → Int64) : zTx (S.1, g, S.2.2) t W cls := h
theorem test_val {c : lC} (E : lE) : (xcO c).2.2 2 E = (match c.2.2.2.2 with
    | none => some 1
    | some t => (t E).map fun b => if b = true then (1 : Int) else 0) := by
  show (match c.2.2.2.2 with
    | none => lone
    | some t => xT t) E = _
  cases c.2.2.2.2 <;> rfl
theorem xE_cmp1 (o : Option Int) (h : ∀ v, o = some v → -2147490000 ≤ v ∧ v ≤ 2147490000) : lg_cmp (xE o) (1 : Int64) = 0 ↔ o = some 1 := by
  have e1 : (1 : Int64) = Int64.ofInt 1 := by decide +kernel
  cases o with
  | none => exact ⟨fun h => absurd h (by decide +kernel), fun h => by cases h⟩
  | some v =>
    have hv := h v rfl
    rw [e1]
    show lg_cmp (Int64.ofInt v) (Int64.ofInt 1) = 0 ↔ _
    rw [w_cmp0 (y := v) (z := 1) (by omega) (by omega)]
    exact ⟨fun h => by rw [h], fun h => by injection h⟩
theorem xE_cmpB (o : Option Int) (h : ∀ v, o = some v → -2147490000 ≤ v ∧ v ≤ 2147490000) : lg_cmp (xE o) (-9000000000000000000 : Int64) = 0 ↔ o = none := by
  have e1 : (-9000000000000000000 : Int64) = Int64.ofInt (-9000000000000000000) := by decide +kernel
  cases o with
  | none => exact ⟨fun _ => rfl, fun _ => by decide +kernel⟩
  | some v =>
    have hv := h v rfl
    rw [e1]
    show lg_cmp (Int64.ofInt v) (Int64.ofInt (-9000000000000000000)) = 0 ↔ _
    rw [w_cmp0 (y := v) (z := -9000000000000000000) (by omega) (by omega)]
    exact ⟨fun h => by omega, fun h => by cases h⟩
theorem test_ok1 (c : lC) (E : lE) : (xcO c).2.2 2 E = some 1 ↔ tOk E c.2.2.2.2 = true := by
  rw [test_val]
  cases c.2.2.2.2 with
  | none => exact ⟨fun _ => rfl, fun _ => rfl⟩
  | some t =>
    show (t E).map (fun b => if b = true then (1 : Int) else 0) = some 1 ↔ (t E == some true) = true
    cases t E with
    | none => exact ⟨fun h => (by cases h), fun h => absurd h (by decide)⟩
    | some b => cases b <;> decide
theorem told_loop (fu a1 : Nat) (hfu : 1000 ≤ fu) {t kind : Nat} (hk : kind < 4) (ht : zK t = 10) (ht53 : t ≠ 53) {cls : List lC} : ∀ (m n : Nat) (S : zSt), m ≤ cls.length → m + 1 ≤ n → zTx S t 7 (cls.map xcO) → zA S 54 = 7 → t < zN S →
    ∃ g, f_As_told_50 fu a1 n (some t) (nI kind) (nI m - 1) S = some (t32 (kLo kind) (kHi kind) (kWo kind S) (lTell kind (xe (zI S 54)) (cls.take m)), (S.1, g, S.2.2)) ∧ zS53 S g := by
  intro m
  induction m with
  | zero =>
    intro n S hm hn hT hA htN
    obtain ⟨n, rfl⟩ : ∃ n', n = n' + 1 := ⟨n - 1, by omega⟩
    rw [f_As_told_50, if_pos (by decide), qb1 (without_is hk S)]
    exact ⟨S.2.1, rfl, fun _ _ => rfl⟩
  | succ m ih =>
    intro n S hm hn hT hA htN
    obtain ⟨n, rfl⟩ : ∃ n', n = n' + 1 := ⟨n - 1, by omega⟩
    have hc12 : cls.length ≤ 12 := by have := hT.2.1; rw [List.length_map] at this; exact this
    have e1 : nI (m + 1) - 1 = nI m := n_sub (a := m + 1) (b := 1) (by omega)
    obtain ⟨c, hc⟩ : ∃ c, cls[m]? = some c := ⟨cls[m]'(by omega), List.getElem?_eq_getElem (by omega)⟩
    have hx : (cls.map xcO)[m]? = some (xcO c) := by rw [List.getElem?_map, hc]; rfl
    have l12 : ¬ (12 : Int32) ≤ nI m := fun h => absurd ((n_le (a := 12) (by omega) (by omega)).mp h) (by omega)
    have eK : f_Tx_kindOf t (nI m) S = some (nI c.1) := by
      obtain ⟨h1, h2, l, h3, h4, h5, h6, h7, h8, h9⟩ := hT
      obtain ⟨b1, b2, b3, b4, b5⟩ := h8 m (xcO c) hx
      unfold f_Tx_kindOf
      rw [if_neg (n_neg (by omega)), if_neg l12, n_gd (by omega) (by omega), q_cl (by omega), b1]
      rfl
    have hc3 : c.1 ≤ 3 := by
      obtain ⟨h1, h2, l, h3, h4, h5, h6, h7, h8, h9⟩ := hT
      exact (h8 m (xcO c) hx).2.2.1
    have em : nI m + (-1) = nI m - 1 := (Int32.sub_eq_add_neg _ _).symm
    have eT : lTell kind (xe (zI S 54)) (cls.take (m + 1)) = oor (lhold kind (xe (zI S 54)) c) (lTell kind (xe (zI S 54)) (cls.take m)) := by
      have : cls.take (m + 1) = cls.take m ++ [c] := by
        rw [List.take_add_one, hc]; rfl
      unfold lTell
      rw [this, List.foldl_append]
      rfl
    rw [f_As_told_50, e1, if_neg (n_neg (by omega))]
    show ∃ g, zgd (zK t = 10 ∧ t < zN S) _ = _ ∧ _
    rw [qgd ⟨ht, htN⟩, qb1 eK, em, eT]
    by_cases hkind : nI c.1 = nI kind
    · have hkk : c.1 = kind := (n_eq (by omega) (by omega)).mp hkind
      rw [if_pos hkind, qgd ⟨ht, htN⟩]
      obtain ⟨g1, v1, v2⟩ := value_is fu t 54 7 hfu hT ht53 (by omega) hA hx (w := 2) (by omega)
      have v1' : f_Tx_value fu t 54 (nI m) 2 S = _ := v1
      have r2 := fun v hv => value_rg hT hx (w := 2) (by omega) (zI S 54) (v := v) hv
      rw [qb2 v1']
      have c1 := xE_cmp1 ((xcO c).2.2 2 (xe (zI S 54))) r2
      have hT1 := zTx_53 hT g1
      by_cases hok : tOk (xe (zI S 54)) c.2.2.2.2 = true
      · rw [if_pos (c1.mpr ((test_ok1 c _).mpr hok)), qgd ⟨ht, htN⟩]
        obtain ⟨g2, u1, u2⟩ := value_is fu t 54 7 hfu hT1 ht53 (by omega) hA hx (w := 0) (by omega)
        have u1' : f_Tx_value fu t 54 (nI m) 0 (S.1, g1, S.2.2) = _ := u1
        have r0 := fun v hv => value_rg hT1 hx (w := 0) (by omega) (zI (S.1, g1, S.2.2) 54) (v := v) hv
        rw [qb2 u1']
        have eV : (xcO c).2.2 0 (xe (zI (S.1, g1, S.2.2) 54)) = c.2.1 (xe (zI S 54)) := rfl
        rw [eV] at r0 ⊢
        have cB := xE_cmpB (c.2.1 (xe (zI S 54))) r0
        have eH : lhold kind (xe (zI S 54)) c = c.2.1 (xe (zI S 54)) := by
          unfold lhold
          rw [if_pos ⟨hkk, hok⟩]
        rw [eH]
        cases hv : c.2.1 (xe (zI S 54)) with
        | none =>
          rw [hv] at cB
          rw [if_pos (cB.mpr rfl)]
          obtain ⟨g3, w1, w2⟩ := ih n (S.1, g2, S.2.2) (by omega) (by omega) (zTx_53 hT g2) hA htN
          exact ⟨g3, w1, fun j hj => (w2 j hj).trans ((u2 j hj).trans (v2 j hj))⟩
        | some v =>
          rw [hv] at cB
          have rv := r0 v hv
          rw [if_neg (fun h => by have := cB.mp h; cases this)]
          have en := near_is hk rv
          have en' : f_As_nearest (nI kind) (xE (some v)) = _ := en
          rw [qb1 en']
          exact ⟨g2, rfl, fun j hj => (u2 j hj).trans (v2 j hj)⟩
      · rw [if_neg (fun h => hok ((test_ok1 c _).mp (c1.mp h)))]
        have eH : lhold kind (xe (zI S 54)) c = none := by
          unfold lhold
          rw [if_neg (fun h => hok h.2)]
        rw [eH]
        obtain ⟨g3, w1, w2⟩ := ih n (S.1, g1, S.2.2) (by omega) (by omega) hT1 hA htN
        exact ⟨g3, w1, fun j hj => (w2 j hj).trans (v2 j hj)⟩
    · rw [if_neg hkind]
      have eH : lhold kind (xe (zI S 54)) c = none := by
        unfold lhold
        rw [if_neg (fun h => hkind (by rw [h.1]))]
      rw [eH]
      obtain ⟨g3, w1, w2⟩ := ih n S (by omega) (by omega) hT hA htN
      exact ⟨g3, w1, w2⟩
/-- what a law tells, or no law -/
def zLw (S : zSt) (o : Option Nat) (cls : List lC) : Prop := match o with
  | none => cls = []
  | some t => zK t = 10 ∧ t ≠ 53 ∧ t < zN S ∧ zTx S t 7 (cls.map xcO)
theorem told_30 (fu a1 : Nat) (hfu : 1000 ≤ fu) {o : Option Nat} {kind : Nat} (hk : kind < 4) {cls : List lC} {S : zSt} (hL : zLw S o cls) (hA : zA S 54 = 7) :
    ∃ g, f_As_told_30 fu a1 o (nI kind) S = some (t32 (kLo kind) (kHi kind) (kWo kind S) (lTell kind (xe (zI S 54)) cls), (S.1, g, S.2.2)) ∧ zS53 S g := by
  obtain ⟨fu, rfl⟩ : ∃ f, fu = f + 1 := ⟨fu - 1, by omega⟩
  cases o with
  | none =>
    have h : cls = [] := hL
    unfold f_As_told_30
    show ∃ g, f_As_told_50 (fu + 1) a1 (fu + 1) none (nI kind) (0 - 1) S = _ ∧ _
    rw [f_As_told_50, if_pos (by decide), qb1 (without_is hk S), h]
    exact ⟨S.2.1, rfl, fun _ _ => rfl⟩
  | some t =>
    obtain ⟨h1, h2, h3, h4⟩ := hL
    have hlen := h4.1
    rw [List.length_map] at hlen
    have h12 := h4.2.1
    rw [List.length_map] at h12
    unfold f_As_told_30
    show ∃ g, zgd (zK t = 10 ∧ t < zN S) (f_As_told_50 (fu + 1) a1 (fu + 1) (some t) (nI kind) (zI S t 2 - 1) S) = _ ∧ _
    rw [qgd ⟨h1, h3⟩, hlen]
    obtain ⟨g, x1, x2⟩ := told_loop (fu + 1) a1 hfu hk h1 h2 (cls := cls) cls.length (fu + 1) S (Nat.le_refl _) (by omega) h4 hA h3
    rw [List.take_of_length_le (Nat.le_refl _)] at x1
    exact ⟨g, x1, x2⟩

/-! orders: the reference goes along a clause -/
def gE (Z : zSt) (A N : Nat) (C V : Nat → Int32) (P : zP) (dn lt : Int32) (so : Nat → Int32) : Prop := mWd Z P dn lt so ∧ zES Z A N C V ∧ zI Z 72 25 = 1
def gF (Z Z' : zSt) : Prop := Z'.2.2 = Z.2.2 ∧ (∀ j k, ¬ (j = 72 ∧ (k = 22 ∨ k = 24 ∨ (43 ≤ k ∧ k ≤ 46))) → zI Z' j k = zI Z j k) ∧ ∀ j, j ≠ 96 → zL Z' j = zL Z j
theorem gF_r (Z : zSt) : gF Z Z := ⟨rfl, fun _ _ _ => rfl, fun _ _ => rfl⟩
theorem gF_t {Z Z' Z'' : zSt} (h : gF Z Z') (h2 : gF Z' Z'') : gF Z Z'' := ⟨h2.1.trans h.1, fun j k a => (h2.2.1 j k a).trans (h.2.1 j k a), fun j a => (h2.2.2 j a).trans (h.2.2 j a)⟩
theorem gF_w (Z : zSt) {k : Nat} (v : Int32) (h : k = 22 ∨ k = 24 ∨ (43 ≤ k ∧ k ≤ 46)) : gF Z (zwI Z 72 k v) := ⟨rfl, fun j k' a => qIIo _ _ (fun e => a ⟨e.1, by rw [e.2]; exact h⟩), fun _ _ => rfl⟩
theorem gF_ev (Z : zSt) (g b : Int32) : gF Z (zEv Z g b) := gF_t (gF_w Z g (by omega)) (gF_w _ b (by omega))
theorem gF_L (Z : zSt) (k : Nat) (v : Int64) : gF Z (zwL Z 96 k v) := ⟨rfl, fun _ _ _ => rfl, fun j a => funext fun l => by rw [qLL, if_neg (fun e => a e.1)]⟩
theorem gE_f {Z Z' : zSt} {A N : Nat} {C V : Nat → Int32} {P : zP} {dn lt : Int32} {so : Nat → Int32} (hP : pOK P) (h : gE Z A N C V P dn lt so) (hf : gF Z Z') : gE Z' A N C V P dn lt so := by
  obtain ⟨h1, ⟨a1, a2, a3, a4, a5, a6⟩, h3⟩ := h
  have f : ∀ j k, j ≠ 72 ∨ k = 23 ∨ k = 25 ∨ k = 27 ∨ k = 28 → zI Z' j k = zI Z j k := fun j k hk => hf.2.1 j k (by omega)
  exact ⟨mWd_f hP h1 (funext fun k => f _ _ (by omega)) (funext fun k => f _ _ (by omega)) (f _ _ (by omega)) (f _ _ (by omega)), ⟨a1, a2, by rw [f _ _ (by omega)]; exact a3, fun k hk => by rw [f _ _ (by omega), f _ _ (by omega)]; exact a4 k hk, a5, a6⟩, by rw [f _ _ (by omega)]; exact h3⟩
theorem gE_W {Z : zSt} {A N : Nat} {C V : Nat → Int32} {P : zP} {dn lt : Int32} {so : Nat → Int32} (fu : Nat) (hfu : 100 ≤ fu) (hP : pOK P) (h : gE Z A N C V P dn lt so) : eW true fu Z (oEs P dn lt so) := eO_is fu hfu hP h.1 h.2.2
theorem zEv_at {Z : zSt} {g : Int32} (h : zI Z 72 22 = g) (b : Int32) : zwI Z 72 24 b = zEv Z g b := by
  have e := zEv_self Z
  rw [h] at e
  have e2 := zEv_w24 Z g (zI Z 72 24) b
  rw [e] at e2
  exact e2
theorem zEv_id {Z : zSt} {g : Int32} (h : zI Z 72 22 = g) : Z = zEv Z g (zI Z 72 24) := by
  have e := zEv_self Z
  rw [h] at e
  exact e.symm
def lvM (live : Bool) : eM := if live = true then .inl true else .inr false
theorem lvM_lv (live : Bool) : eLv (lvM live) = b2 live := by cases live <;> rfl
theorem lvM_b (live : Bool) : eB (lvM live) = 0 := by cases live <;> rfl
section ALONG
variable {Z : zSt} {A N : Nat} {C V : Nat → Int32} {P : zP} {dn lt : Int32} {so : Nat → Int32}
theorem ga_sum (fu : Nat) (hfu : 500 ≤ fu) (hP : pOK P) (hg : gE Z A N C V P dn lt so) {i q j q' n : Nat} {d : lD} (h22 : zI Z 72 22 = nI (A + i)) (hi : i ≤ N) (hn : 401 ≤ n) (hs : lsum (lpart true C V n 8) C n i q = .inr (j, q', d)) (live : Bool) {m : Nat} (hm : m < 2) (k84 : Int32 → Int32 → Int32 → zSt → Option zSt) (a3 : Int32) :
    i < j ∧ j ≤ N ∧ ∃ Z', f_M_goesAlong_105 fu k84 (b2 live) a3 (nI m) Z = k84 (b2 live) a3 (nI (m + 1)) Z' ∧ gF Z Z' ∧ zI Z' 72 22 = nI (A + j) ∧ zI Z' 72 43 = zI Z 72 43 ∧ zI Z' 72 44 = zI Z 72 44 ∧ (∀ m', m' ≠ m → zL Z' 96 m' = zL Z 96 m') ∧ (live = true → zL Z' 96 m = (rE (d (oEs P dn lt so))).1 ∧ zI Z' 72 45 = (if zI Z 72 45 = 0 then 0 else if (rE (d (oEs P dn lt so))).2 = 0 then 1 else 0)) := by
  have hW := gE_W fu (by omega) hP hg
  obtain ⟨g0, g1, g2, g3⟩ := esums_ok fu hfu hg.2.1 hW hn 8 64 (by omega) i q j q' d hi hs
  have e := g3 (lvM live)
  rw [lvM_lv, lvM_b, ← zEv_at h22] at e
  refine ⟨g0, g1, ?_⟩
  obtain ⟨r, er⟩ : ∃ r, r = eDen (oEs P dn lt so) (lvM live) d := ⟨_, rfl⟩
  rw [← er] at e
  obtain ⟨Y, eY⟩ : ∃ Y, Y = zwL (zEv Z (nI (A + j)) r.2) 96 m r.1 := ⟨_, rfl⟩
  have y45 : zI Y 72 45 = zI Z 72 45 := by rw [eY]; exact zEv_o Z (nI (A + j)) r.2 (j := 72) (k := 45) (Or.inr ⟨by omega, by omega⟩)
  have y24 : zI Y 72 24 = r.2 := by rw [eY]; exact zEv_24 Z (nI (A + j)) r.2
  have y22 : zI Y 72 22 = nI (A + j) := by rw [eY]; exact zEv_22 Z (nI (A + j)) r.2
  have y43 : zI Y 72 43 = zI Z 72 43 := by rw [eY]; exact zEv_o Z (nI (A + j)) r.2 (j := 72) (k := 43) (Or.inr ⟨by omega, by omega⟩)
  have y44 : zI Y 72 44 = zI Z 72 44 := by rw [eY]; exact zEv_o Z (nI (A + j)) r.2 (j := 72) (k := 44) (Or.inr ⟨by omega, by omega⟩)
  have fY : gF Z Y := by rw [eY]; exact gF_t (gF_ev _ _ _) (gF_L _ _ _)
  have yL : ∀ m', zL Y 96 m' = if m' = m then r.1 else zL Z 96 m' := fun m' => by
    rw [eY, qLL]
    by_cases e : m' = m
    · rw [if_pos ⟨rfl, e⟩, if_pos e]
    · rw [if_neg (fun h => e h.2), if_neg e]
      rfl
  obtain ⟨w, ew⟩ : ∃ w : Int32, w = if zI Z 72 45 = 0 then 0 else if r.2 = 0 then 1 else 0 := ⟨_, rfl⟩
  refine ⟨zwI Y 72 45 w, ?_, gF_t fY (gF_w _ _ (by omega)), by rw [qIIo _ _ (by omega)]; exact y22, by rw [qIIo _ _ (by omega)]; exact y43, by rw [qIIo _ _ (by omega)]; exact y44, fun m' hm' => ?_, fun hl => ?_⟩
  · unfold f_M_goesAlong_105
    rw [qb2 e, n_gd (by omega) hm, q_cl (by omega), ← eY, y45, y24, n_1, ew]
    by_cases h1 : zI Z 72 45 = 0
    · rw [if_pos h1, if_pos h1]
    · rw [if_neg h1, if_neg h1]
      by_cases h2 : r.2 = 0
      · rw [if_pos h2, if_pos h2]
      · rw [if_neg h2, if_neg h2]
  · show zL Y 96 m' = _
    rw [yL, if_neg hm']
  · rw [hl] at er
    have er' : r = rE (d (oEs P dn lt so)) := er
    refine ⟨?_, ?_⟩
    · show zL Y 96 m = _
      rw [yL, if_pos rfl, er']
    · rw [qIIs, ew, er']
theorem ga_219 (fu : Nat) (x : Bool) {g : Nat} (h22 : zI Z 72 22 = nI g) : ∃ Z', f_M_goesAlong_219 fu (b2 x) Z = some Z' ∧ gF Z Z' ∧ zI Z' 72 22 = nI (g + 1) ∧ zI Z' 72 43 = zI Z 72 43 ∧ zI Z' 72 44 = zI Z 72 44 ∧ zI Z' 72 45 = zI Z 72 45 ∧ zL Z' = zL Z ∧ zI Z' 72 46 = b2 (x && decide (zI Z 72 24 = 0)) := by
  have fin : ∀ a b : Int32, ∃ Z', zwI (zwI (zwI Z 72 46 a) 72 46 b) 72 22 (zI (zwI (zwI Z 72 46 a) 72 46 b) 72 22 + 1) = Z' ∧ gF Z Z' ∧ zI Z' 72 22 = nI (g + 1) ∧ zI Z' 72 43 = zI Z 72 43 ∧ zI Z' 72 44 = zI Z 72 44 ∧ zI Z' 72 45 = zI Z 72 45 ∧ zL Z' = zL Z ∧ zI Z' 72 46 = b := fun a b => by
    refine ⟨_, rfl, gF_t (gF_w _ _ (by omega)) (gF_t (gF_w _ _ (by omega)) (gF_w _ _ (by omega))), ?_, ?_, ?_, ?_, rfl, ?_⟩
    · rw [qIIs, qIIo _ _ (by omega), qIIo _ _ (by omega), h22, n_1]
    · rw [qIIo _ _ (by omega), qIIo _ _ (by omega), qIIo _ _ (by omega)]
    · rw [qIIo _ _ (by omega), qIIo _ _ (by omega), qIIo _ _ (by omega)]
    · rw [qIIo _ _ (by omega), qIIo _ _ (by omega), qIIo _ _ (by omega)]
    · rw [qIIo _ _ (by omega), qIIs]
  unfold f_M_goesAlong_219
  have e24 : zI (zwI Z 72 46 (b2 x)) 72 24 = zI Z 72 24 := qIIo _ _ (by omega)
  rw [qgd (b2_or x), qIIs, e24]
  cases x with
  | false =>
    obtain ⟨Z', e, r⟩ := fin (b2 false) 0
    rw [if_pos (show b2 false = 0 from rfl), e]
    exact ⟨Z', rfl, r⟩
  | true =>
    rw [if_neg (show ¬ b2 true = 0 by decide)]
    by_cases h24 : zI Z 72 24 = 0
    · obtain ⟨Z', e, r⟩ := fin (b2 true) 1
      rw [if_pos h24, e, decide_eq_true h24]
      exact ⟨Z', rfl, r⟩
    · obtain ⟨Z', e, r⟩ := fin (b2 true) 0
      rw [if_neg h24, e, decide_eq_false h24]
      exact ⟨Z', rfl, r⟩
theorem ga_192 (fu : Nat) (hfu : 500 ≤ fu) (hP : pOK P) (hg : gE Z A N C V P dn lt so) {i q j q' n : Nat} {cl : Nat × lD × lD × Nat} {c : lC} (h22 : zI Z 72 22 = nI (A + i)) (hi : i ≤ N) (hn : 401 ≤ n) (hc : lif true C V n i q cl = .inr (j, q', c)) (live : Bool) :
    i ≤ j ∧ j ≤ N ∧ c.1 = cl.1 ∧ c.2.1 = cl.2.1 ∧ c.2.2.1 = cl.2.2.1 ∧ c.2.2.2.1 = cl.2.2.2 ∧ ∃ Z', f_M_goesAlong_192 fu (b2 live) Z = some Z' ∧ gF Z Z' ∧ zI Z' 72 22 = nI (A + (j + 1)) ∧ zI Z' 72 43 = zI Z 72 43 ∧ zI Z' 72 44 = zI Z 72 44 ∧ zI Z' 72 45 = zI Z 72 45 ∧ zL Z' = zL Z ∧ (live = true → zI Z' 72 46 = b2 (tOk (oEs P dn lt so) c.2.2.2.2)) := by
  have hN := hg.2.1.2.1
  have hW := gE_W fu (by omega) hP hg
  have hp := e_pass hg.2.1 (i := i) (by omega) 0 5
  unfold f_M_goesAlong_192
  rw [zEv_at h22]
  unfold lif at hc
  by_cases c5 : C i = 5
  · rw [if_pos c5] at hc hp
    have hlt := e_in hg.2.1 (i := i) (by rw [c5]; decide)
    cases hpt : ltest (lplain true C V n 8) C n (i + 1) q with
    | inl k => rw [hpt] at hc; cases hc
    | inr x =>
      obtain ⟨k, q2, d⟩ := x
      rw [hpt] at hc
      injection hc with hc
      injection hc with h1 h2
      injection h2 with h2 h3
      subst h1
      subst h3
      obtain ⟨g0, g1, g2⟩ := etests_ok fu hfu hg.2.1 hW hn 8 (by omega) 64 (by omega) (i + 1) q k q2 d (by omega) hpt
      obtain ⟨x, x1, x2⟩ := g2 (lvM live)
      rw [lvM_lv, lvM_b] at x1
      obtain ⟨Z', z1, z2, z3, z4, z5, z6, z7, z8⟩ := ga_219 (Z := zEv Z (nI (A + k)) (eBT (oEs P dn lt so) (lvM live) d)) fu x (zEv_22 _ _ _)
      refine ⟨by omega, g1, rfl, rfl, rfl, rfl, Z', ?_, gF_t (gF_ev _ _ _) z2, z3, z4.trans (zEv_o _ _ _ (Or.inr (by omega))), z5.trans (zEv_o _ _ _ (Or.inr (by omega))), z6.trans (zEv_o _ _ _ (Or.inr (by omega))), z7, fun hl => ?_⟩
      · rw [qb2 hp, if_neg (by decide), qb2 x1, ← z1]
        cases x <;> rfl
      · rw [z8, zEv_24]
        rw [hl] at x2 ⊢
        have eb : eBT (oEs P dn lt so) (lvM true) d = (match d (oEs P dn lt so) with
          | some _ => (0 : Int32)
          | none => 1) := rfl
        have et : tOk (oEs P dn lt so) (some d) = (d (oEs P dn lt so) == some true) := rfl
        rw [eb, et]
        cases hd : d (oEs P dn lt so) with
        | none => rw [decide_eq_false (by decide), Bool.and_false]; rfl
        | some v =>
          rw [x2 rfl v hd]
          cases v <;> rfl
  · rw [if_neg c5] at hc hp
    injection hc with hc
    injection hc with h1 h2
    injection h2 with h2 h3
    subst h1
    subst h3
    obtain ⟨Z', z1, z2, z3, z4, z5, z6, z7, z8⟩ := ga_219 (Z := zEv Z (nI (A + i)) 0) fu true (zEv_22 _ _ _)
    refine ⟨Nat.le_refl _, hi, rfl, rfl, rfl, rfl, Z', ?_, gF_t (gF_ev _ _ _) z2, z3, z4.trans (zEv_o _ _ _ (Or.inr (by omega))), z5.trans (zEv_o _ _ _ (Or.inr (by omega))), z6.trans (zEv_o _ _ _ (Or.inr (by omega))), z7, fun hl => ?_⟩
    · rw [qb2 hp, if_pos rfl]
      exact z1
    · rw [z8, zEv_24]
      rfl
theorem ga_151 (fu : Nat) (hfu : 500 ≤ fu) (hP : pOK P) (hg : gE Z A N C V P dn lt so) {i q j q' n : Nat} {cl : Nat × lD × lD} {c : lC} (h22 : zI Z 72 22 = nI (A + i)) (hi : i ≤ N) (hn : 401 ≤ n) (hc : ltimes C V n i q cl = .inr (j, q', c)) (live : Bool) :
    i ≤ j ∧ j ≤ N ∧ c.1 = cl.1 ∧ c.2.1 = cl.2.1 ∧ c.2.2.1 = cl.2.2 ∧ c.2.2.2.1 ≤ 20 ∧ ∃ Z', f_M_goesAlong_151 fu (b2 live) Z = some Z' ∧ gF Z Z' ∧ zI Z' 72 22 = nI (A + (j + 1)) ∧ zI Z' 72 43 = nI c.2.2.2.1 ∧ zI Z' 72 44 = zI Z 72 44 ∧ zI Z' 72 45 = zI Z 72 45 ∧ zL Z' = zL Z ∧ (live = true → zI Z' 72 46 = b2 (tOk (oEs P dn lt so) c.2.2.2.2)) := by
  have hN := hg.2.1.2.1
  have hA := hg.2.1.1
  obtain ⟨Z1, eZ1⟩ : ∃ Z1, Z1 = zwI Z 72 43 1 := ⟨_, rfl⟩
  have f1 : gF Z Z1 := by rw [eZ1]; exact gF_w _ _ (by omega)
  have hg1 := gE_f hP hg f1
  have h122 : zI Z1 72 22 = nI (A + i) := by rw [eZ1, qIIo _ _ (by omega)]; exact h22
  have hp := e_pass hg1.2.1 (i := i) (by omega) (zI Z1 72 24) 25
  rw [← zEv_id h122] at hp
  unfold f_M_goesAlong_151
  rw [← eZ1]
  unfold ltimes at hc
  by_cases c25 : C i = 25
  · rw [if_pos c25] at hc hp
    by_cases hv : C (i + 1) = 50 ∧ 1 ≤ V (i + 1) ∧ V (i + 1) ≤ 20
    · rw [if_pos hv] at hc
      obtain ⟨Z2, eZ2⟩ : ∃ Z2, Z2 = zEv Z1 (nI (A + (i + 1))) (zI Z1 72 24) := ⟨_, rfl⟩
      rw [← eZ2] at hp
      have hlt1 := e_in hg1.2.1 (i := i + 1) (by rw [hv.1]; decide)
      have f2 : gF Z Z2 := by rw [eZ2]; exact gF_t f1 (gF_ev _ _ _)
      have hg2 := gE_f hP hg f2
      have h222 : zI Z2 72 22 = nI (A + (i + 1)) := by rw [eZ2]; exact zEv_22 _ _ _
      have hval : zI Z2 74 (3007 + (A + (i + 1))) = V (i + 1) := by
        refine (hg2.2.1.2.2.2.1 (i + 1) hlt1).2.1 ?_
        have := hv.2.2
        rw [q_le] at this ⊢
        have e20 : (20 : Int32).toInt = 20 := rfl
        have e1000 : (1000 : Int32).toInt = 1000 := rfl
        omega
      obtain ⟨t, et, ht20⟩ : ∃ t : Nat, V (i + 1) = nI t ∧ t ≤ 20 := by
        have h1 := hv.2.1
        have h2 := hv.2.2
        rw [q_le] at h1 h2
        have e20 : (20 : Int32).toInt = 20 := rfl
        have e1 : (1 : Int32).toInt = 1 := rfl
        obtain ⟨t, t1, t2, t3⟩ := q_ex (a := V (i + 1)) (by omega)
        exact ⟨t, t1, by omega⟩
      obtain ⟨Z3, eZ3⟩ : ∃ Z3, Z3 = zwI (zwI Z2 72 43 (nI t)) 72 22 (nI (A + (i + 2))) := ⟨_, rfl⟩
      have f3 : gF Z Z3 := by rw [eZ3]; exact gF_t f2 (gF_t (gF_w _ _ (by omega)) (gF_w _ _ (by omega)))
      obtain ⟨b1, b2', b3, b4, b5, b6, Z', z1, z2, z3, z4, z5, z6, z7, z8⟩ := ga_192 fu hfu hP (gE_f hP hg f3) (i := i + 2) (by rw [eZ3, qIIs]) (by omega) hn hc live
      have b6' : c.2.2.2.1 = t := by
        rw [b6]
        show (V (i + 1)).toInt.toNat = t
        rw [et, q_nI (by omega)]
        omega
      refine ⟨by omega, b2', b3, b4, b5, by omega, Z', ?_, gF_t f3 z2, z3, ?_, ?_, ?_, ?_, z8⟩
      · rw [qb2 hp, if_neg (by decide), h222, show 3007 + nI (A + (i + 1)) = nI (3007 + (A + (i + 1))) from n_add 3007 _, n_gd (by omega) (by omega), q_cl (by omega), hval, et, qIIo _ _ (by omega), h222, n_1, show A + (i + 1) + 1 = A + (i + 2) by omega, ← eZ3]
        exact z1
      · rw [z4, eZ3, qIIo _ _ (by omega), qIIs, b6']
      · rw [z5, eZ3, qIIo _ _ (by omega), qIIo _ _ (by omega), eZ2, zEv_o _ _ _ (Or.inr (by omega)), eZ1, qIIo _ _ (by omega)]
      · rw [z6, eZ3, qIIo _ _ (by omega), qIIo _ _ (by omega), eZ2, zEv_o _ _ _ (Or.inr (by omega)), eZ1, qIIo _ _ (by omega)]
      · rw [z7, eZ3, show zL (zwI (zwI Z2 72 43 (nI t)) 72 22 (nI (A + (i + 2)))) = zL Z2 from rfl, eZ2, show zL (zEv Z1 (nI (A + (i + 1))) (zI Z1 72 24)) = zL Z1 from rfl, eZ1]
        rfl
    · rw [if_neg hv] at hc
      cases hc
  · rw [if_neg c25] at hc hp
    obtain ⟨b1, b2', b3, b4, b5, b6, Z', z1, z2, z3, z4, z5, z6, z7, z8⟩ := ga_192 fu hfu hP hg1 h122 hi hn hc live
    refine ⟨b1, b2', b3, b4, b5, by rw [b6]; show 1 ≤ 20; omega, Z', ?_, gF_t f1 z2, z3, ?_, ?_, ?_, ?_, z8⟩
    · rw [qb2 hp, if_pos rfl]
      exact z1
    · rw [z4, eZ1, qIIs, b6]
      rfl
    · rw [z5, eZ1, qIIo _ _ (by omega)]
    · rw [z6, eZ1, qIIo _ _ (by omega)]
    · rw [z7, eZ1]
      rfl
end ALONG

/-! what a law tells: the last clause that holds; the class's told and the reference's tells -/
def tOk (E : lE) (T : Option lT) : Bool := match T with
  | none => true
  | some t => t E == some true
/-- what a clause tells, if it is of this kind and holds -/
def lhold (k : Nat) (E : lE) (c : lC) : Option Int := if c.1 = k ∧ tOk E c.2.2.2.2 = true then c.2.1 E else none
def oor (a b : Option Int) : Option Int := match a with
  | some v => some v
  | none => b
def lstep (k : Nat) (E : lE) (a : Option Int) (c : lC) : Option Int := oor (lhold k E c) a
def lTell (k : Nat) (E : lE) (cls : List lC) : Option Int := cls.foldl (lstep k E) none
def clN (lo hi : Nat) (v : Int) : Nat := if v < (lo : Int) then lo else if (hi : Int) < v then hi else v.toNat
theorem clN_rg {lo hi : Nat} (h : lo ≤ hi) (v : Int) : lo ≤ clN lo hi v ∧ clN lo hi v ≤ hi := by
  unfold clN
  split
  · omega
  · split <;> omega
theorem l2i_small : ∀ n : Nat, n < 100 → (Int64.ofInt ((n : Nat) : Int)).toInt32 = nI n := by decide +kernel
theorem nI_64 : ∀ n : Nat, n < 100 → (nI n).toInt64 = Int64.ofInt (n : Int) := by decide +kernel
/-- behind tells: told in 64 bits -/
def t64 (lo hi : Nat) (w : Int32) (o : Option Int) : Int64 := match o with
  | some v => Int64.ofInt (clN lo hi v)
  | none => w.toInt64
def t32 (lo hi : Nat) (w : Int32) (o : Option Int) : Int32 := match o with
  | some v => nI (clN lo hi v)
  | none => w
theorem t64_32 {lo hi : Nat} (h : lo ≤ hi) (hh : hi < 100) (w : Int32) (o : Option Int) : (t64 lo hi w o).toInt32 = t32 lo hi w o := by
  cases o with
  | none => exact Int32.toInt32_toInt64 w
  | some v => exact l2i_small (clN lo hi v) (by have := clN_rg h v; omega)
theorem clamp_is {α : Type} {lo hi : Nat} (h : lo ≤ hi) (hh : hi < 100) {v : Int} (hv : -2147483648 ≤ v ∧ v ≤ 2147483648) (k : Int64 → α) :
    (if 0 ≤ lg_cmp (Int64.ofInt v) (nI lo).toInt64 then if lg_cmp (Int64.ofInt v) (nI hi).toInt64 ≤ 0 then k (Int64.ofInt v) else k (nI hi).toInt64 else k (nI lo).toInt64) = k (Int64.ofInt (clN lo hi v)) := by
  rw [nI_64 lo (by omega), nI_64 hi (by omega)]
  have c1 := w_ge (y := v) (z := lo) (by omega) (by omega)
  have c2 := w_le (y := v) (z := hi) (by omega) (by omega)
  unfold clN
  by_cases a : v < (lo : Int)
  · rw [if_neg (fun h => absurd (c1.mp h) (by omega)), if_pos a]
  · rw [if_pos (c1.mpr (by omega)), if_neg a]
    by_cases b : (hi : Int) < v
    · rw [if_neg (fun h => absurd (c2.mp h) (by omega)), if_pos b]
    · rw [if_pos (c2.mpr (by omega)), if_neg b, show ((v.toNat : Nat) : Int) = v by omega]
section MTL
variable {S : zSt} {A N : Nat} {C V : Nat → Int32} {E : lE}
theorem tells_152 (fu : Nat) (k67 : Int32 → Int32 → Int32 → Int64 → zSt → Option (Int32 × zSt)) (a1 : Int32) {lo hi : Nat} (h : lo ≤ hi) (hh : hi < 100) (w : Int32) (o : Option Int) (a7 : Int32) (ds : Option Int) (hds : ∀ v, ds = some v → -2147483648 ≤ v ∧ v ≤ 2147483648) (x : Bool) (g b : Int32) :
    f_M_tells_152 fu k67 a1 (nI lo) (nI hi) (t64 lo hi w o) a7 (rE ds).1 (rE ds).2 (b2 x) (zEv S g b) = k67 a1 (nI lo) (nI hi) (t64 lo hi w (if a7 = a1 ∧ x = true ∧ b = 0 then (oor ds o) else o)) (zEv S (g + 1) b) := by
  unfold f_M_tells_152
  rw [zEv_22, zEv_24, zEv_w22]
  by_cases h1 : a7 = a1
  · rw [if_pos h1]
    cases x with
    | false =>
      rw [if_pos (show b2 false = 0 from rfl), if_neg (show ¬ (a7 = a1 ∧ false = true ∧ b = 0) from fun h => absurd h.2.1 (by decide))]
    | true =>
      rw [if_neg (show ¬ b2 true = 0 by decide)]
      by_cases hb : b = 0
      · rw [if_pos hb, if_pos (show a7 = a1 ∧ true = true ∧ b = 0 from ⟨h1, rfl, hb⟩)]
        cases hd : ds with
        | none => rfl
        | some v =>
          show (if (0 : Int32) = 0 then _ else _) = _
          rw [if_pos rfl]
          exact clamp_is h hh (hds v hd) (fun y => k67 a1 (nI lo) (nI hi) y (zEv S (g + 1) b))
      · rw [if_neg hb, if_neg (show ¬ (a7 = a1 ∧ true = true ∧ b = 0) from fun h => hb h.2.2)]
  · rw [if_neg h1, if_neg (fun h => h1 h.1)]
/-- the test of a clause, and what is told then -/
theorem tells_118 (fu : Nat) (hfu : 500 ≤ fu) (hS : zES S A N C V) {ord : Bool} (hW : eW ord fu S E) {n : Nat} (hn : 401 ≤ n) (k67 : Int32 → Int32 → Int32 → Int64 → zSt → Option (Int32 × zSt)) (a1 : Int32) {lo hi : Nat} (h : lo ≤ hi) (hh : hi < 100) (w : Int32) (o : Option Int) (a7 : Int32) (ds : Option Int) (hds : ∀ v, ds = some v → -2147483648 ≤ v ∧ v ≤ 2147483648) {i q j q' : Nat} {cl : Nat × lD × lD × Nat} {c : lC} (hi' : i ≤ N) (hc : lif ord C V n i q cl = .inr (j, q', c)) :
    i ≤ j ∧ j ≤ N ∧ c.1 = cl.1 ∧ c.2.1 = cl.2.1 ∧ c.2.2.1 = cl.2.2.1 ∧ c.2.2.2.1 = cl.2.2.2 ∧ ∃ b, f_M_tells_118 fu k67 a1 (nI lo) (nI hi) (t64 lo hi w o) a7 (rE ds).1 (zEv S (nI (A + i)) (rE ds).2) = k67 a1 (nI lo) (nI hi) (t64 lo hi w (if a7 = a1 ∧ tOk E c.2.2.2.2 = true then (oor ds o) else o)) (zEv S (nI (A + (j + 1))) b) := by
  have hN := hS.2.1
  have hp := e_pass hS (i := i) (by omega) 0 5
  unfold f_M_tells_118
  rw [zEv_w24, zEv_24]
  unfold lif at hc
  by_cases c5 : C i = 5
  · rw [if_pos c5] at hc hp
    have hlt := e_in hS (i := i) (by rw [c5]; decide)
    cases hpt : ltest (lplain ord C V n 8) C n (i + 1) q with
    | inl k => rw [hpt] at hc; cases hc
    | inr x =>
      obtain ⟨k, q2, d⟩ := x
      rw [hpt] at hc
      injection hc with hc
      injection hc with h1 h2
      injection h2 with h2 h3
      subst h1
      subst h3
      obtain ⟨g0, g1, g2⟩ := etests_ok fu hfu hS hW hn 8 (by omega) 64 (by omega) (i + 1) q k q2 d (by omega) hpt
      obtain ⟨x, x1, x2⟩ := g2 (.inl true)
      have x1' : f_M_testOf fu 64 1 (zEv S (nI (A + (i + 1))) 0) = some (b2 x, zEv S (nI (A + k)) (eBT E (.inl true) d)) := x1
      refine ⟨by omega, g1, rfl, rfl, rfl, rfl, eBT E (.inl true) d, ?_⟩
      rw [qb2 hp, if_neg (by decide), qb2 x1']
      have J : (if b2 x = 0 then f_M_tells_152 fu k67 a1 (nI lo) (nI hi) (t64 lo hi w o) a7 (rE ds).1 (rE ds).2 0 (zEv S (nI (A + k)) (eBT E (.inl true) d)) else f_M_tells_152 fu k67 a1 (nI lo) (nI hi) (t64 lo hi w o) a7 (rE ds).1 (rE ds).2 1 (zEv S (nI (A + k)) (eBT E (.inl true) d))) = f_M_tells_152 fu k67 a1 (nI lo) (nI hi) (t64 lo hi w o) a7 (rE ds).1 (rE ds).2 (b2 x) (zEv S (nI (A + k)) (eBT E (.inl true) d)) := by
        cases x <;> rfl
      refine (J.trans (tells_152 fu k67 a1 h hh w o a7 ds hds x _ _)).trans ?_
      have eq1 : (a7 = a1 ∧ x = true ∧ eBT E (.inl true) d = 0) ↔ (a7 = a1 ∧ tOk E (some d) = true) := by
        show _ ↔ (a7 = a1 ∧ (d E == some true) = true)
        have eb : eBT E (.inl true) d = (match d E with
          | some _ => (0 : Int32)
          | none => 1) := rfl
        rw [eb]
        cases hd : d E with
        | none => exact ⟨fun h => absurd h.2.2 (by decide), fun h => absurd h.2 (by decide)⟩
        | some v =>
          rw [x2 rfl v hd]
          cases v
          · exact ⟨fun h => absurd h.2.1 (by decide), fun h => absurd h.2 (by decide)⟩
          · exact ⟨fun h => ⟨h.1, rfl⟩, fun h => ⟨h.1, rfl, rfl⟩⟩
      rw [n_1]
      by_cases hh2 : a7 = a1 ∧ tOk E (some d) = true
      · rw [if_pos (eq1.mpr hh2), if_pos hh2]; rfl
      · rw [if_neg (fun h => hh2 (eq1.mp h)), if_neg hh2]; rfl
  · rw [if_neg c5] at hc hp
    injection hc with hc
    injection hc with h1 h2
    injection h2 with h2 h3
    subst h1
    subst h3
    refine ⟨Nat.le_refl _, hi', rfl, rfl, rfl, rfl, 0, ?_⟩
    rw [qb2 hp, if_pos rfl]
    refine (tells_152 fu k67 a1 h hh w o a7 ds hds true (nI (A + i)) 0).trans ?_
    rw [n_1]
    have eq1 : (a7 = a1 ∧ true = true ∧ (0 : Int32) = 0) ↔ (a7 = a1 ∧ tOk E none = true) := ⟨fun h => ⟨h.1, rfl⟩, fun h => ⟨h.1, rfl, rfl⟩⟩
    by_cases hh2 : a7 = a1 ∧ tOk E none = true
    · rw [if_pos (eq1.mpr hh2), if_pos hh2]; rfl
    · rw [if_neg (fun h => hh2 (eq1.mp h)), if_neg hh2]; rfl
theorem tells_cl (fu : Nat) (hfu : 500 ≤ fu) (hS : zES S A N C V) (hW : eW false fu S E) {n : Nat} (hn : 401 ≤ n) {kind : Nat} (hk : kind < 4) {lo hi : Nat} (h : lo ≤ hi) (hh : hi < 100) (w : Int32) (o : Option Int) {i q j q' : Nat} {c : lC} (hi' : i < N) (hc : lclauseL C V n i q = .inr (j, q', c)) (m : Nat) (b : Int32) :
    i < j ∧ j ≤ N ∧ ∃ b', f_M_tells_67 fu (m + 1) (nI (kind + 1)) (nI lo) (nI hi) (t64 lo hi w o) (zEv S (nI (A + i)) b) = f_M_tells_67 fu m (nI (kind + 1)) (nI lo) (nI hi) (t64 lo hi w (lstep kind E o c)) (zEv S (nI (A + (j + 1))) b') := by
  have hN := hS.2.1
  have hA := hS.1
  have h23 : zI (zEv S (nI (A + i)) b) 72 23 = nI (A + N) := by rw [zEv_o _ _ _ (Or.inr ⟨by omega, by omega⟩)]; exact hS.2.2.1
  have lc : ¬ nI (A + N) ≤ nI (A + i) := fun h => absurd ((n_le (by omega) (by omega)).mp h) (by omega)
  rw [f_M_tells_67, h23, zEv_22, if_neg lc, qb1 (e_code hS (by omega) _ _), zEv_w24, zEv_22, n_1, zEv_w22, Nat.add_assoc]
  unfold lclauseL at hc
  by_cases c123 : C i = 1 ∨ C i = 2 ∨ C i = 3
  · rw [if_pos c123] at hc
    obtain ⟨k0, hk3, hck⟩ : ∃ k0, k0 < 3 ∧ C i = nI (k0 + 1) := by
      rcases c123 with c | c | c
      · exact ⟨0, by omega, c⟩
      · exact ⟨1, by omega, c⟩
      · exact ⟨2, by omega, c⟩
    have hkk : (C i).toInt.toNat - 1 = k0 := by rw [hck, q_nI (by omega)]; omega
    rw [hkk] at hc
    cases hpt : lsum (lpart false C V n 8) C n (i + 1) q with
    | inl k => rw [hpt] at hc; cases hc
    | inr x =>
      obtain ⟨k, q2, d⟩ := x
      rw [hpt] at hc
      have hc' : lif false C V n k q2 (k0, d, lone, 1) = .inr (j, q', c) := hc
      obtain ⟨g0, g1, g2, g3⟩ := esums_ok fu hfu hS hW hn 8 64 (by omega) (i + 1) q k q2 d (by omega) hpt
      have g4 : f_M_sumOf fu 64 1 (zEv S (nI (A + (i + 1))) 0) = some ((rE (d E)).1, zEv S (nI (A + k)) (rE (d E)).2) := g3 (.inl true)
      obtain ⟨y0, y1, y2, y3, y4, y5, b', y6⟩ := tells_118 fu hfu hS hW hn (f_M_tells_67 fu m) (nI (kind + 1)) h hh w o (C i) (d E) g2 g1 hc'
      refine ⟨by omega, y1, b', ?_⟩
      rw [if_neg (show ¬ C i = 4 by rw [hck]; exact fun h => absurd ((n_eq (b := 4) (by omega) (by omega)).mp h) (by omega)), qb2 g4, y6]
      have e : (if C i = nI (kind + 1) ∧ tOk E c.2.2.2.2 = true then (oor (d E) o) else o) = lstep kind E o c := by
        unfold lstep lhold
        rw [y2, y3]
        have e1 : (C i = nI (kind + 1) ∧ tOk E c.2.2.2.2 = true) ↔ (k0 = kind ∧ tOk E c.2.2.2.2 = true) := by
          rw [hck, n_eq (by omega) (by omega)]
          exact ⟨fun h => ⟨by omega, h.2⟩, fun h => ⟨by omega, h.2⟩⟩
        by_cases hh2 : k0 = kind ∧ tOk E c.2.2.2.2 = true
        · rw [if_pos (e1.mpr hh2), if_pos hh2]
        · rw [if_neg (fun h => hh2 (e1.mp h)), if_neg hh2]; rfl
      rw [e]
  · rw [if_neg c123] at hc
    by_cases c4 : C i = 4
    · rw [if_pos c4] at hc
      obtain ⟨y0, y1, y2, y3, y4, y5, b', y6⟩ := tells_118 fu hfu hS hW hn (f_M_tells_67 fu m) (nI (kind + 1)) h hh w o (C i) (some 1) (fun v hv => by injection hv with hv; omega) (by omega) hc
      refine ⟨by omega, y1, b', ?_⟩
      have e1 : (rE (some 1)).1 = (1 : Int64) := by decide +kernel
      rw [e1] at y6
      have y6' : f_M_tells_118 fu (f_M_tells_67 fu m) (nI (kind + 1)) (nI lo) (nI hi) (t64 lo hi w o) (C i) (1 : Int64) (zEv S (nI (A + (i + 1))) 0) = f_M_tells_67 fu m (nI (kind + 1)) (nI lo) (nI hi) (t64 lo hi w (if C i = nI (kind + 1) ∧ tOk E c.2.2.2.2 = true then (oor (some 1) o) else o)) (zEv S (nI (A + (j + 1))) b') := y6
      rw [if_pos c4, y6']
      have e : (if C i = nI (kind + 1) ∧ tOk E c.2.2.2.2 = true then (oor (some 1) o) else o) = lstep kind E o c := by
        unfold lstep lhold
        rw [y2, y3]
        have e1 : (C i = nI (kind + 1) ∧ tOk E c.2.2.2.2 = true) ↔ (3 = kind ∧ tOk E c.2.2.2.2 = true) := by
          rw [c4]
          have := n_eq (a := 4) (b := kind + 1) (by omega) (by omega)
          exact ⟨fun h => ⟨by have := this.mp h.1; omega, h.2⟩, fun h => ⟨this.mpr (by omega), h.2⟩⟩
        by_cases hh2 : 3 = kind ∧ tOk E c.2.2.2.2 = true
        · rw [if_pos (e1.mpr hh2), if_pos hh2]; rfl
        · rw [if_neg (fun h => hh2 (e1.mp h)), if_neg hh2]; rfl
      rw [e]
    · rw [if_neg c4] at hc; cases hc
theorem lcl_pos {i q j q' : Nat} {c : lC} {n : Nat} (hc : lclauseL C V n i q = .inr (j, q', c)) : C i ≠ 0 := by
  intro h0
  unfold lclauseL at hc
  rw [h0, if_neg (by decide), if_neg (by decide)] at hc
  cases hc
theorem tells_text (fu : Nat) (hfu : 500 ≤ fu) (hS : zES S A N C V) (hW : eW false fu S E) {n : Nat} (hn : 401 ≤ n) {kind : Nat} (hk : kind < 4) {lo hi : Nat} (h : lo ≤ hi) (hh : hi < 100) (w : Int32) : ∀ (m k i q : Nat) (acc cls : List lC) (b : Int32), ltx false C V n N m i q acc = .inr cls → m + 1 ≤ k →
    ∃ g b', f_M_tells_67 fu k (nI (kind + 1)) (nI lo) (nI hi) (t64 lo hi w (acc.foldl (lstep kind E) none)) (zEv S (nI (A + i)) b) = some ((t64 lo hi w (cls.foldl (lstep kind E) none)).toInt32, zEv S g b') := by
  have hN := hS.2.1
  have hA := hS.1
  intro m
  induction m with
  | zero => intro k i q acc cls b h1; cases h1
  | succ m ih =>
    intro k i q acc cls b h1 h2
    obtain ⟨k, rfl⟩ : ∃ k', k = k' + 1 := ⟨k - 1, by omega⟩
    rw [ltx, if_neg (show ¬ false = true by decide)] at h1
    cases hc : lclauseL C V n i q with
    | inl j => rw [hc] at h1; cases h1
    | inr x =>
      obtain ⟨j, q', c⟩ := x
      rw [hc] at h1
      have hlt := e_in hS (lcl_pos hc)
      obtain ⟨y0, y1, b', y2⟩ := tells_cl fu hfu hS hW hn hk h hh w (acc.foldl (lstep kind E) none) hlt hc k b
      rw [y2]
      have e : lstep kind E (acc.foldl (lstep kind E) none) c = (acc ++ [c]).foldl (lstep kind E) none := by rw [List.foldl_append]; rfl
      rw [e]
      have h1' : (if C j = 159 then ltx false C V n N m (j + 1) q' (acc ++ [c]) else if N ≤ j then .inr (acc ++ [c]) else .inl j) = .inr cls := h1
      by_cases c159 : C j = 159
      · rw [if_pos c159] at h1'
        exact ih k (j + 1) q' (acc ++ [c]) cls b' h1' (by omega)
      · rw [if_neg c159] at h1'
        by_cases hj : N ≤ j
        · rw [if_pos hj] at h1'
          injection h1' with h1'
          obtain ⟨k, rfl⟩ : ∃ k', k = k' + 1 := ⟨k - 1, by omega⟩
          have h23 : zI (zEv S (nI (A + (j + 1))) b') 72 23 = nI (A + N) := by rw [zEv_o _ _ _ (Or.inr ⟨by omega, by omega⟩)]; exact hS.2.2.1
          rw [f_M_tells_67, h23, zEv_22, if_pos ((n_le (by omega) (by omega)).mpr (by omega)), h1']
          exact ⟨_, _, rfl⟩
        · rw [if_neg hj] at h1'; cases h1'
end MTL

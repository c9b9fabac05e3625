/-! a run's fuel does not matter; pieces of code that tell a value -/
theorem xrun_fu (c : Nat → Int32) (len W : Nat) (E : Nat → Int32) : ∀ (n m a : Nat) (st : List Int), 1 ≤ n → 1 ≤ m → len + 1 ≤ n + a → len + 1 ≤ m + a → xrun c len W E n a st = xrun c len W E m a st := by
  intro n
  induction n with
  | zero => intro m a st h; omega
  | succ n ih =>
    intro m a st _ hm1 h1 h2
    obtain ⟨m, rfl⟩ : ∃ m', m = m' + 1 := ⟨m - 1, by omega⟩
    rw [xrun_s, xrun_s]
    by_cases ha : len ≤ a
    · rw [if_pos ha, if_pos ha]
    · have I : ∀ a' st', a < a' → xrun c len W E n a' st' = xrun c len W E m a' st' := fun a' st' h => ih m a' st' (by omega) (by omega) (by omega) (by omega)
      have J : ∀ st', xrun c len W E n (if a + 1 < (c a >>> ((4 : Int32) &&& 31)).toNatClampNeg then (c a >>> ((4 : Int32) &&& 31)).toNatClampNeg else a + 1) st' = xrun c len W E m (if a + 1 < (c a >>> ((4 : Int32) &&& 31)).toNatClampNeg then (c a >>> ((4 : Int32) &&& 31)).toNatClampNeg else a + 1) st' := by
        intro st'
        apply I
        split <;> omega
      have I1 : ∀ st', xrun c len W E n (a + 1) st' = xrun c len W E m (a + 1) st' := fun st' => I (a + 1) st' (by omega)
      rw [if_neg ha, if_neg ha]
      simp only [I1, J]
def xr (c : Nat → Int32) (len W : Nat) (E : Nat → Int32) (a : Nat) (st : List Int) : Option Int := xrun c len W E (len + 1) a st
theorem xr_s (c : Nat → Int32) (len W : Nat) (E : Nat → Int32) {a : Nat} (ha : a < len) (st : List Int) : xr c len W E a st =
    if 1 < c a &&& 15 then (match st with
      | [] => none
      | v :: r => if c a &&& 15 = 13 then some v
        else if c a &&& 15 = 4 then xr c len W E (a + 1) ((1 - v) :: r)
        else if 3 < c a &&& 15 then (match r with
          | [] => none
          | x :: r' => match xop (c a &&& 15) x v with
            | none => none
            | some z => xr c len W E (a + 1) (z :: r'))
        else if v = (if c a &&& 15 = 3 then 1 else 0) then xr c len W E (if a + 1 < (c a >>> ((4 : Int32) &&& 31)).toNatClampNeg then (c a >>> ((4 : Int32) &&& 31)).toNatClampNeg else a + 1) (v :: r)
        else xr c len W E (a + 1) r)
    else if 50 ≤ st.length then none
    else if c a &&& 15 = 1 then (if 0 ≤ (c a >>> ((4 : Int32) &&& 31)).toInt ∧ (c a >>> ((4 : Int32) &&& 31)).toInt < (W : Int) then xr c len W E (a + 1) ((E (c a >>> ((4 : Int32) &&& 31)).toNatClampNeg).toInt :: st) else none)
    else xr c len W E (a + 1) ((c a >>> ((4 : Int32) &&& 31)).toInt :: st) := by
  have I : ∀ a' st', a < a' → xrun c len W E len a' st' = xrun c len W E (len + 1) a' st' := fun a' st' h => xrun_fu c len W E len (len + 1) a' st' (by omega) (by omega) (by omega) (by omega)
  have J : ∀ st', xrun c len W E len (if a + 1 < (c a >>> ((4 : Int32) &&& 31)).toNatClampNeg then (c a >>> ((4 : Int32) &&& 31)).toNatClampNeg else a + 1) st' = xrun c len W E (len + 1) (if a + 1 < (c a >>> ((4 : Int32) &&& 31)).toNatClampNeg then (c a >>> ((4 : Int32) &&& 31)).toNatClampNeg else a + 1) st' := by
    intro st'
    apply I
    split <;> omega
  have I1 : ∀ st', xrun c len W E len (a + 1) st' = xrun c len W E (len + 1) (a + 1) st' := fun st' => I (a + 1) st' (by omega)
  show xrun c len W E (len + 1) a st = _
  rw [xrun_s, if_neg (by omega)]
  simp only [I1, J, xr]
  rfl
/-- a word of code: what, with what -/
def xw (w v : Nat) : Int32 := (nI v <<< ((4 : Int32) &&& 31)) ||| nI w
theorem bt_nI (n : Nat) {i : Nat} (hi : i < 32) : bt (nI n) i = n.testBit i := by
  unfold bt
  show (BitVec.ofNat 32 n).getLsbD i = _
  rw [BitVec.getLsbD_ofNat]
  simp [hi]
theorem tb_small {w i : Nat} (hw : w < 16) (hi : 4 ≤ i) : w.testBit i = false := Nat.testBit_lt_two_pow (Nat.lt_of_lt_of_le hw (Nat.pow_le_pow_right (n := 2) (by omega) hi))
theorem tb_big {v i : Nat} (hv : v < 2 ^ 27) (hi : 27 ≤ i) : v.testBit i = false := Nat.testBit_lt_two_pow (Nat.lt_of_lt_of_le hv (Nat.pow_le_pow_right (n := 2) (by omega) hi))
theorem xw_what {w v : Nat} (hw : w < 16) : xw w v &&& 15 = nI w := by
  apply b_ext
  intro i hi
  unfold xw
  rw [b_and, b_or, bt_15, show ((4 : Int32) &&& 31) = (nI 4 &&& 31) from rfl, b_shl 4 (by omega) _ hi, bt_nI w hi]
  by_cases h : i < 4
  · simp [h, Nat.not_le.mpr h]
  · rw [tb_small hw (by omega)]
    simp [h]
theorem xw_with {w v : Nat} (hw : w < 16) (hv : v < 2 ^ 27) : xw w v >>> ((4 : Int32) &&& 31) = nI v := by
  apply b_ext
  intro i hi
  unfold xw
  rw [show ((4 : Int32) &&& 31) = (nI 4 &&& 31) from rfl, b_sshr 4 (by omega) _ hi, bt_nI v hi]
  by_cases h : 4 + i < 32
  · rw [if_pos h, b_or, b_shl 4 (by omega) _ h, bt_nI w h, tb_small hw (by omega), show 4 + i - 4 = i by omega, bt_nI v hi]
    simp
  · rw [if_neg h, b_or, b_shl 4 (by omega) _ (by omega), bt_nI w (by omega), tb_small hw (by omega), bt_nI v (by omega), tb_big hv (by omega), tb_big hv (by omega)]
    simp
def xe (E : Nat → Int32) : lE := fun i => (E i).toInt
/-- the code from a on, up to b, tells d and lays it on the stack; k places there will do -/
def xseg (c : Nat → Int32) (W a b k : Nat) (d : lD) : Prop := ∀ (c' : Nat → Int32) (len : Nat) (E : Nat → Int32) (st : List Int), (∀ j, a ≤ j → j < b → c' j = c j) → b ≤ len → st.length + k ≤ 50 →
  xr c' len W E a st = match d (xe E) with
    | none => none
    | some v => xr c' len W E b (v :: st)
def xT (d : lT) : lD := fun E => (d E).map fun b => if b = true then 1 else 0
theorem xseg_up {c : Nat → Int32} {W a b k k' : Nat} {d : lD} (h : xseg c W a b k d) (hk : k ≤ k') : xseg c W a b k' d := fun c' len E st h1 h2 h3 => h c' len E st h1 h2 (by omega)
theorem xseg_eq {c c' : Nat → Int32} {W a b k : Nat} {d : lD} (h : xseg c W a b k d) (hc : ∀ j, a ≤ j → j < b → c' j = c j) : xseg c' W a b k d := fun c2 len E st h1 h2 h3 => h c2 len E st (fun j h4 h5 => (h1 j h4 h5).trans (hc j h4 h5)) h2 h3
theorem xseg_num {c : Nat → Int32} {W a v : Nat} (hv : v < 2 ^ 27) (h : c a = xw 0 v) : xseg c W a (a + 1) 1 (fun _ => some (v : Int)) := by
  intro c' len E st h1 h2 h3
  have e : c' a = xw 0 v := (h1 a (by omega) (by omega)).trans h
  rw [xr_s _ _ _ _ (by omega), e, xw_what (by omega), xw_with (by omega) hv, if_neg (by decide), if_neg (by omega), if_neg (by decide), q_nI (by omega)]
theorem xseg_word {c : Nat → Int32} {W a v : Nat} (hv : v < W) (hW : W < 2 ^ 27) (h : c a = xw 1 v) : xseg c W a (a + 1) 1 (fun E => some (E v)) := by
  intro c' len E st h1 h2 h3
  have e : c' a = xw 1 v := (h1 a (by omega) (by omega)).trans h
  rw [xr_s _ _ _ _ (by omega), e, xw_what (by omega), xw_with (by omega) (by omega), if_neg (by decide), if_neg (by omega), if_pos (by decide), q_nI (by omega), if_pos (by omega), q_cl (by omega)]
  rfl
theorem xseg_op {c : Nat → Int32} {W a b e k w : Nat} {d1 d2 : lD} (h1 : xseg c W a b k d1) (h2 : xseg c W b e k d2) (hab : a ≤ b) (hbe : b ≤ e) (hw : 5 ≤ w ∧ w ≤ 12) (h : c e = xw w 0) : xseg c W a (e + 1) (k + 1) (fun E => (d1 E).bind fun x => (d2 E).bind fun y => xop (nI w) x y) := by
  intro c' len E st h3 h4 h5
  rw [h1 c' len E st (fun j _ _ => h3 j (by omega) (by omega)) (by omega) (by omega)]
  show _ = match ((d1 (xe E)).bind fun x => (d2 (xe E)).bind fun y => xop (nI w) x y) with
    | none => none
    | some v => xr c' len W E (e + 1) (v :: st)
  cases d1 (xe E) with
  | none => rfl
  | some x =>
    show xr c' len W E b (x :: st) = match ((d2 (xe E)).bind fun y => xop (nI w) x y) with
      | none => none
      | some v => xr c' len W E (e + 1) (v :: st)
    rw [h2 c' len E (x :: st) (fun j _ _ => h3 j (by omega) (by omega)) (by omega) (by simp; omega)]
    cases d2 (xe E) with
    | none => rfl
    | some y =>
      have ec : c' e = xw w 0 := (h3 e (by omega) (by omega)).trans h
      have h16 : (1 : Int32) < nI w ∧ ¬ nI w = 13 ∧ ¬ nI w = 4 ∧ (3 : Int32) < nI w := (by decide : ∀ w, w < 13 → 5 ≤ w → ((1 : Int32) < nI w ∧ ¬ nI w = 13 ∧ ¬ nI w = 4 ∧ (3 : Int32) < nI w)) w (by omega) hw.1
      show xr c' len W E e (y :: x :: st) = match xop (nI w) x y with
        | none => none
        | some v => xr c' len W E (e + 1) (v :: st)
      rw [xr_s _ _ _ _ (by omega), ec, xw_what (by omega), if_pos h16.1]
      show (if nI w = 13 then some y else if nI w = 4 then _ else if 3 < nI w then (match xop (nI w) x y with
        | none => none
        | some z => xr c' len W E (e + 1) (z :: st)) else _) = _
      rw [if_neg h16.2.1, if_neg h16.2.2.1, if_pos h16.2.2.2]
theorem xseg_and {c : Nat → Int32} {W a b e k : Nat} {d1 d2 : lT} (h1 : xseg c W a b k (xT d1)) (h2 : xseg c W (b + 1) e k (xT d2)) (hab : a ≤ b) (hbe : b + 1 ≤ e) (he : e < 1000) (h : c b = xw 2 e) : xseg c W a e k (xT (landD d1 d2)) := by
  intro c' len E st h3 h4 h5
  have ec : c' b = xw 2 e := (h3 b (by omega) (by omega)).trans h
  rw [h1 c' len E st (fun j _ _ => h3 j (by omega) (by omega)) (by omega) (by omega)]
  show _ = match xT (landD d1 d2) (xe E) with
    | none => none
    | some v => xr c' len W E e (v :: st)
  unfold xT landD
  cases d1 (xe E) with
  | none => rfl
  | some x =>
    cases x with
    | false =>
      show xr c' len W E b (0 :: st) = xr c' len W E e (0 :: st)
      rw [xr_s _ _ _ _ (by omega), ec, xw_what (by omega), xw_with (by omega) (by omega), q_cl (by omega), if_pos (by decide)]
      show (if nI 2 = 13 then some 0 else if nI 2 = 4 then _ else if 3 < nI 2 then _ else if (0 : Int) = (if nI 2 = 3 then 1 else 0) then xr c' len W E (if b + 1 < e then e else b + 1) (0 :: st) else _) = _
      rw [if_neg (by decide), if_neg (by decide), if_neg (by decide), if_pos (by decide), show (if b + 1 < e then e else b + 1) = e by split <;> omega]
    | true =>
      show xr c' len W E b (1 :: st) = match ((d2 (xe E)).map fun b => if b = true then (1 : Int) else 0) with
        | none => none
        | some v => xr c' len W E e (v :: st)
      rw [xr_s _ _ _ _ (by omega), ec, xw_what (by omega), xw_with (by omega) (by omega), q_cl (by omega), if_pos (by decide)]
      show (if nI 2 = 13 then some 1 else if nI 2 = 4 then _ else if 3 < nI 2 then _ else if (1 : Int) = (if nI 2 = 3 then 1 else 0) then _ else xr c' len W E (b + 1) st) = _
      rw [if_neg (by decide), if_neg (by decide), if_neg (by decide), if_neg (by decide)]
      exact h2 c' len E st (fun j _ _ => h3 j (by omega) (by omega)) (by omega) (by omega)
theorem xseg_or {c : Nat → Int32} {W a b e k : Nat} {d1 d2 : lT} (h1 : xseg c W a b k (xT d1)) (h2 : xseg c W (b + 1) e k (xT d2)) (hab : a ≤ b) (hbe : b + 1 ≤ e) (he : e < 1000) (h : c b = xw 3 e) : xseg c W a e k (xT (lorD d1 d2)) := by
  intro c' len E st h3 h4 h5
  have ec : c' b = xw 3 e := (h3 b (by omega) (by omega)).trans h
  rw [h1 c' len E st (fun j _ _ => h3 j (by omega) (by omega)) (by omega) (by omega)]
  show _ = match xT (lorD d1 d2) (xe E) with
    | none => none
    | some v => xr c' len W E e (v :: st)
  unfold xT lorD
  cases d1 (xe E) with
  | none => rfl
  | some x =>
    cases x with
    | true =>
      show xr c' len W E b (1 :: st) = xr c' len W E e (1 :: st)
      rw [xr_s _ _ _ _ (by omega), ec, xw_what (by omega), xw_with (by omega) (by omega), q_cl (by omega), if_pos (by decide)]
      show (if nI 3 = 13 then some 1 else if nI 3 = 4 then _ else if 3 < nI 3 then _ else if (1 : Int) = (if nI 3 = 3 then 1 else 0) then xr c' len W E (if b + 1 < e then e else b + 1) (1 :: st) else _) = _
      rw [if_neg (by decide), if_neg (by decide), if_neg (by decide), if_pos (by decide), show (if b + 1 < e then e else b + 1) = e by split <;> omega]
    | false =>
      show xr c' len W E b (0 :: st) = match ((d2 (xe E)).map fun b => if b = true then (1 : Int) else 0) with
        | none => none
        | some v => xr c' len W E e (v :: st)
      rw [xr_s _ _ _ _ (by omega), ec, xw_what (by omega), xw_with (by omega) (by omega), q_cl (by omega), if_pos (by decide)]
      show (if nI 3 = 13 then some 0 else if nI 3 = 4 then _ else if 3 < nI 3 then _ else if (0 : Int) = (if nI 3 = 3 then 1 else 0) then _ else xr c' len W E (b + 1) st) = _
      rw [if_neg (by decide), if_neg (by decide), if_neg (by decide), if_neg (by decide)]
      exact h2 c' len E st (fun j _ _ => h3 j (by omega) (by omega)) (by omega) (by omega)
theorem xseg_not {c : Nat → Int32} {W a b k : Nat} {d : lT} (h1 : xseg c W a b k (xT d)) (hab : a ≤ b) (h : c b = xw 4 0) : xseg c W a (b + 1) k (xT (lnotD true d)) := by
  intro c' len E st h3 h4 h5
  have ec : c' b = xw 4 0 := (h3 b (by omega) (by omega)).trans h
  rw [h1 c' len E st (fun j _ _ => h3 j (by omega) (by omega)) (by omega) (by omega)]
  unfold xT lnotD
  cases d (xe E) with
  | none => rfl
  | some x =>
    have : ∀ v : Int, xr c' len W E b (v :: st) = xr c' len W E (b + 1) ((1 - v) :: st) := by
      intro v
      rw [xr_s _ _ _ _ (by omega), ec, xw_what (by omega), if_pos (by decide)]
      show (if nI 4 = 13 then some v else if nI 4 = 4 then xr c' len W E (b + 1) ((1 - v) :: st) else _) = _
      rw [if_neg (by decide), if_pos (by decide)]
    cases x
    · exact this 0
    · exact this 1
/-- a whole piece with its end -/
theorem xseg_end {c : Nat → Int32} {len W a b k : Nat} {d : lD} (h1 : xseg c W a b k d) (hk : k ≤ 50) (h : c b = xw 13 0) (hl : b < len) (E : Nat → Int32) : xr c len W E a [] = d (xe E) := by
  rw [h1 c len E [] (fun _ _ _ => rfl) (by omega) (by simp; omega)]
  cases d (xe E) with
  | none => rfl
  | some v =>
    show xr c len W E b [v] = some v
    rw [xr_s _ _ _ _ hl, h, xw_what (by omega), if_pos (by decide)]
    show (if nI 13 = 13 then some v else _) = _
    rw [if_pos (by decide)]

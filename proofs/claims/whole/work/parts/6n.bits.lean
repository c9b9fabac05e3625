/-! how many bits a long has: the class adds them up side by side -/
def bv : List Nat → Nat
  | [] => 0
  | b :: t => 2 ^ 8 * bv t + b
def mk (m : Nat) : List Nat → Nat
  | [] => 0
  | _ :: t => 2 ^ 8 * mk m t + m
theorem land_256 {a b m n : Nat} (hb : b < 2 ^ 8) (hn : n < 2 ^ 8) : (2 ^ 8 * a + b) &&& (2 ^ 8 * m + n) = 2 ^ 8 * (a &&& m) + (b &&& n) := by
  apply Nat.eq_of_testBit_eq
  intro i
  rw [Nat.testBit_and, Nat.testBit_two_pow_mul_add _ hb, Nat.testBit_two_pow_mul_add _ hn, Nat.testBit_two_pow_mul_add _ (Nat.lt_of_le_of_lt Nat.and_le_left hb), Nat.testBit_and, Nat.testBit_and]
  by_cases h : i < 8
  · rw [if_pos h, if_pos h, if_pos h]
  · rw [if_neg h, if_neg h, if_neg h]
theorem by_s1 : ∀ t, t < 2 → ∀ u, u < 128 → (128 * t + u) &&& 85 = u &&& 85 := by decide +kernel
theorem by_s2 : ∀ t, t < 4 → ∀ u, u < 64 → (64 * t + u) &&& 51 = u &&& 51 := by decide +kernel
theorem s1_l : ∀ l : List Nat, (∀ c ∈ l, c < 256) → (bv l / 2) &&& mk 85 l = bv (l.map (fun c => (c / 2) &&& 85)) := by
  intro l
  induction l with
  | nil => intro _; rfl
  | cons b t ih =>
    intro h
    have hb := h b List.mem_cons_self
    show (2 ^ 8 * bv t + b) / 2 &&& (2 ^ 8 * mk 85 t + 85) = 2 ^ 8 * bv (t.map (fun c => (c / 2) &&& 85)) + ((b / 2) &&& 85)
    rw [show (2 ^ 8 * bv t + b) / 2 = 2 ^ 8 * (bv t / 2) + (128 * (bv t % 2) + b / 2) by omega, land_256 (by omega) (by omega), ih (fun c hc => h c (List.mem_cons_of_mem _ hc)), by_s1 _ (by omega) _ (by omega)]
theorem s2_l : ∀ l : List Nat, (∀ c ∈ l, c < 256) → (bv l / 4) &&& mk 51 l = bv (l.map (fun c => (c / 4) &&& 51)) := by
  intro l
  induction l with
  | nil => intro _; rfl
  | cons b t ih =>
    intro h
    have hb := h b List.mem_cons_self
    show (2 ^ 8 * bv t + b) / 4 &&& (2 ^ 8 * mk 51 t + 51) = 2 ^ 8 * bv (t.map (fun c => (c / 4) &&& 51)) + ((b / 4) &&& 51)
    rw [show (2 ^ 8 * bv t + b) / 4 = 2 ^ 8 * (bv t / 4) + (64 * (bv t % 4) + b / 4) by omega, land_256 (by omega) (by omega), ih (fun c hc => h c (List.mem_cons_of_mem _ hc)), by_s2 _ (by omega) _ (by omega)]
theorem s2_m : ∀ l : List Nat, (∀ c ∈ l, c < 256) → bv l &&& mk 51 l = bv (l.map (fun c => c &&& 51)) := by
  intro l
  induction l with
  | nil => intro _; rfl
  | cons b t ih =>
    intro h
    have hb := h b List.mem_cons_self
    show (2 ^ 8 * bv t + b) &&& (2 ^ 8 * mk 51 t + 51) = 2 ^ 8 * bv (t.map (fun c => c &&& 51)) + (b &&& 51)
    rw [land_256 (by omega) (by omega), ih (fun c hc => h c (List.mem_cons_of_mem _ hc))]
theorem bv_add (f g : Nat → Nat) : ∀ l : List Nat, bv (l.map f) + bv (l.map g) = bv (l.map (fun c => f c + g c)) := by
  intro l
  induction l with
  | nil => rfl
  | cons b t ih =>
    show (2 ^ 8 * bv (t.map f) + f b) + (2 ^ 8 * bv (t.map g) + g b) = 2 ^ 8 * bv (t.map (fun c => f c + g c)) + (f b + g b)
    rw [← ih]
    omega
theorem by_s4 : ∀ b, b < 69 → b % 16 ≤ 4 → ∀ t, t < 5 → (b + b / 16 + 16 * t) &&& 15 = (b + b / 16) &&& 15 := by decide +kernel
theorem s4_l : ∀ l : List Nat, (∀ c ∈ l, c < 69 ∧ c % 16 ≤ 4) → bv l % 16 ≤ 4 ∧ (bv l + bv l / 16) &&& mk 15 l = bv (l.map (fun c => (c + c / 16) &&& 15)) := by
  intro l
  induction l with
  | nil => intro _; exact ⟨by decide, rfl⟩
  | cons b t ih =>
    intro h
    have hb := h b List.mem_cons_self
    obtain ⟨h1, h2⟩ := ih (fun c hc => h c (List.mem_cons_of_mem _ hc))
    constructor
    · show (2 ^ 8 * bv t + b) % 16 ≤ 4
      omega
    · show ((2 ^ 8 * bv t + b) + (2 ^ 8 * bv t + b) / 16) &&& (2 ^ 8 * mk 15 t + 15) = 2 ^ 8 * bv (t.map (fun c => (c + c / 16) &&& 15)) + ((b + b / 16) &&& 15)
      rw [show (2 ^ 8 * bv t + b) + (2 ^ 8 * bv t + b) / 16 = 2 ^ 8 * (bv t + bv t / 16) + (b + b / 16 + 16 * (bv t % 16)) by omega, land_256 (by omega) (by omega), h2, by_s4 _ hb.1 hb.2 _ (by omega)]
theorem mk_len (m : Nat) : ∀ l l' : List Nat, l.length = l'.length → mk m l = mk m l' := by
  intro l
  induction l with
  | nil =>
    intro l' h
    cases l' with
    | nil => rfl
    | cons b t => cases h
  | cons b t ih =>
    intro l' h
    cases l' with
    | nil => cases h
    | cons b' t' =>
      show 2 ^ 8 * mk m t + m = 2 ^ 8 * mk m t' + m
      rw [ih t' (Nat.succ.inj h)]
theorem mk_85 (l : List Nat) (h : l.length = 8) : mk 85 l = 6148914691236517205 := (mk_len 85 l [0, 0, 0, 0, 0, 0, 0, 0] h).trans (by decide +kernel)
theorem mk_51 (l : List Nat) (h : l.length = 8) : mk 51 l = 3689348814741910323 := (mk_len 51 l [0, 0, 0, 0, 0, 0, 0, 0] h).trans (by decide +kernel)
theorem mk_15 (l : List Nat) (h : l.length = 8) : mk 15 l = 1085102592571150095 := (mk_len 15 l [0, 0, 0, 0, 0, 0, 0, 0] h).trans (by decide +kernel)
def bA (c : Nat) : Nat := c - ((c / 2) &&& 85)
def bB (c : Nat) : Nat := (bA c &&& 51) + ((bA c / 4) &&& 51)
def bC (c : Nat) : Nat := (bB c + bB c / 16) &&& 15
theorem bA_ok : ∀ c, c < 256 → ((c / 2) &&& 85) ≤ c ∧ bA c < 256 := by decide +kernel
theorem bB_ok : ∀ c, c < 256 → bB c < 69 ∧ bB c % 16 ≤ 4 ∧ bC c ≤ 8 := by decide +kernel
theorem bC_ok : ∀ c, c < 256 → bC c = sm (fun j => (c.testBit j).toNat) 8 := by decide +kernel
theorem bv_le : ∀ l : List Nat, (∀ c ∈ l, c < 256) → bv (l.map (fun c => (c / 2) &&& 85)) ≤ bv l ∧ bv l - bv (l.map (fun c => (c / 2) &&& 85)) = bv (l.map bA) := by
  intro l
  induction l with
  | nil => intro _; exact ⟨Nat.le_refl _, rfl⟩
  | cons b t ih =>
    intro h
    have hb := bA_ok b (h b List.mem_cons_self)
    obtain ⟨h1, h2⟩ := ih (fun c hc => h c (List.mem_cons_of_mem _ hc))
    have hA : bA b = b - ((b / 2) &&& 85) := rfl
    constructor
    · show 2 ^ 8 * bv (t.map (fun c => (c / 2) &&& 85)) + ((b / 2) &&& 85) ≤ 2 ^ 8 * bv t + b
      omega
    · show (2 ^ 8 * bv t + b) - (2 ^ 8 * bv (t.map (fun c => (c / 2) &&& 85)) + ((b / 2) &&& 85)) = 2 ^ 8 * bv (t.map bA) + bA b
      omega
def l8 (N : Nat) : List Nat := [N % 256, N / 2 ^ 8 % 256, N / 2 ^ 16 % 256, N / 2 ^ 24 % 256, N / 2 ^ 32 % 256, N / 2 ^ 40 % 256, N / 2 ^ 48 % 256, N / 2 ^ 56 % 256]
theorem l8_ok {N : Nat} (h : N < 2 ^ 64) : bv (l8 N) = N ∧ ∀ c ∈ l8 N, c < 256 := by
  constructor
  · unfold l8
    simp only [bv]
    omega
  · intro c hc
    unfold l8 at hc
    simp only [List.mem_cons, List.not_mem_nil, or_false] at hc
    rcases hc with h | h | h | h | h | h | h | h <;> omega
/-- the number of a long's bits, as a natural number -/
def cntN (N : Nat) : Nat :=
  let y1 := N - ((N / 2) &&& 6148914691236517205)
  let y2 := (y1 &&& 3689348814741910323) + ((y1 / 4) &&& 3689348814741910323)
  let y3 := (y2 + y2 / 16) &&& 1085102592571150095
  let y4 := y3 + y3 / 256
  let y5 := y4 + y4 / 65536
  let y6 := y5 + y5 / 4294967296
  y6 % 128
theorem cnt_bytes {N : Nat} (h : N < 2 ^ 64) : ∃ y2 y3 : Nat, (N - ((N / 2) &&& 6148914691236517205) < 2 ^ 64) ∧ y2 = ((N - ((N / 2) &&& 6148914691236517205)) &&& 3689348814741910323) + (((N - ((N / 2) &&& 6148914691236517205)) / 4) &&& 3689348814741910323) ∧ ((N / 2) &&& 6148914691236517205) ≤ N ∧ y2 ≤ 4919131752989213764 ∧ y3 = (y2 + y2 / 16) &&& 1085102592571150095 ∧ y3 = bv ((l8 N).map bC) := by
  obtain ⟨h1, h2⟩ := l8_ok h
  have e1 : mk 85 (l8 N) = 6148914691236517205 := mk_85 _ rfl
  have a1 := s1_l (l8 N) h2
  rw [h1, e1] at a1
  obtain ⟨a2, a3⟩ := bv_le (l8 N) h2
  rw [h1, ← a1] at a2 a3
  have hA : ∀ c ∈ (l8 N).map bA, c < 256 := fun c hc => by
    obtain ⟨x, hx, rfl⟩ := List.mem_map.mp hc
    exact (bA_ok x (h2 x hx)).2
  have b1 := s2_m _ hA
  have b2 := s2_l _ hA
  have e2' : mk 51 ((l8 N).map bA) = 3689348814741910323 := mk_51 _ rfl
  rw [e2', ← a3, List.map_map] at b1 b2
  have b3 := bv_add (fun c => bA c &&& 51) (fun c => (bA c / 4) &&& 51) (l8 N)
  have b4 : (N - ((N / 2) &&& 6148914691236517205) &&& 3689348814741910323) + ((N - ((N / 2) &&& 6148914691236517205)) / 4 &&& 3689348814741910323) = bv ((l8 N).map bB) := by
    rw [b1, b2]
    exact b3
  have hB : ∀ c ∈ (l8 N).map bB, c < 69 ∧ c % 16 ≤ 4 := fun c hc => by
    obtain ⟨x, hx, rfl⟩ := List.mem_map.mp hc
    exact ⟨(bB_ok x (h2 x hx)).1, (bB_ok x (h2 x hx)).2.1⟩
  have c1 := (s4_l _ hB).2
  have e3' : mk 15 ((l8 N).map bB) = 1085102592571150095 := mk_15 _ rfl
  rw [e3', List.map_map] at c1
  have hle : bv ((l8 N).map bB) ≤ 4919131752989213764 := by
    have hb : ∀ x ∈ l8 N, bB x ≤ 68 := fun x hx => Nat.le_of_lt_succ (bB_ok x (h2 x hx)).1
    unfold l8 at hb ⊢
    simp only [List.map_cons, List.map_nil, bv]
    simp only [List.mem_cons, List.not_mem_nil, or_false, forall_eq_or_imp, forall_eq] at hb
    obtain ⟨q1, q2, q3, q4, q5, q6, q7, q8⟩ := hb
    omega
  exact ⟨bv ((l8 N).map bB), _, by omega, b4.symm, a2, hle, rfl, c1⟩
/-! the same of longs -/
def nL (x : Int64) : Nat := x.toBitVec.toNat
def shr (x : Int64) (k : Nat) : Int64 := (x.toUInt64 >>> ((nI k).toInt64.toUInt64 &&& Int64.toUInt64 63)).toInt64
theorem nL_lt (x : Int64) : nL x < 2 ^ 64 := x.toBitVec.isLt
theorem nL_and (x y : Int64) : nL (x &&& y) = nL x &&& nL y := by
  unfold nL
  rw [Int64.toBitVec_and, BitVec.toNat_and]
theorem nL_shr (x : Int64) {k : Nat} (hk : k < 64) : nL (shr x k) = nL x / 2 ^ k := by
  show (x.toUInt64 >>> ((nI k).toInt64.toUInt64 &&& Int64.toUInt64 63)).toBitVec.toNat = _
  rw [UInt64.toBitVec_shiftRight]
  show (x.toUInt64.toBitVec >>> (((nI k).toInt64.toUInt64 &&& Int64.toUInt64 63).toBitVec % 64).toNat).toNat = _
  rw [bL_su k hk, BitVec.toNat_ushiftRight, Nat.shiftRight_eq_div_pow]
  rfl
theorem nL_add {x y : Int64} (h : nL x + nL y < 2 ^ 64) : nL (x + y) = nL x + nL y := by
  unfold nL at *
  rw [Int64.toBitVec_add, BitVec.toNat_add, Nat.mod_eq_of_lt h]
theorem nL_sub {x y : Int64} (h : nL y ≤ nL x) : nL (x - y) = nL x - nL y := by
  unfold nL at *
  have h1 := x.toBitVec.isLt
  rw [Int64.toBitVec_sub, BitVec.toNat_sub]
  omega
def cX1 (x : Int64) : Int64 := x - (shr x 1 &&& 6148914691236517205)
def cX2 (x : Int64) : Int64 := (cX1 x &&& 3689348814741910323) + (shr (cX1 x) 2 &&& 3689348814741910323)
def cX3 (x : Int64) : Int64 := (cX2 x + shr (cX2 x) 4) &&& 1085102592571150095
def cX4 (x : Int64) : Int64 := cX3 x + shr (cX3 x) 8
def cX5 (x : Int64) : Int64 := cX4 x + shr (cX4 x) 16
def cX6 (x : Int64) : Int64 := cX5 x + shr (cX5 x) 32
theorem cnt_is (x : Int64) : f_Lg_bitCount x = some ((cX6 x).toInt32 &&& 127) := rfl
theorem nC1 : nL 6148914691236517205 = 6148914691236517205 := by decide +kernel
theorem nC2 : nL 3689348814741910323 = 3689348814741910323 := by decide +kernel
theorem nC3 : nL 1085102592571150095 = 1085102592571150095 := by decide +kernel
theorem bt_nIn {m i : Nat} (hi : i < 32) : bt (nI m) i = m.testBit i := by
  unfold bt
  show (BitVec.ofNat 32 m).getLsbD i = _
  rw [BitVec.getLsbD_ofNat]
  simp [hi]
theorem bt_127 (i : Nat) : bt 127 i = decide (i < 7) := by
  rcases Nat.lt_or_ge i 32 with h | h
  · exact (by decide +kernel : ∀ i, i < 32 → bt 127 i = decide (i < 7)) i h
  · rw [show bt 127 i = false from BitVec.getLsbD_of_ge _ _ h, decide_eq_false (by omega)]
theorem and_127 (y : Int64) : y.toInt32 &&& 127 = nI (nL y % 128) := by
  apply b_ext
  intro i hi
  rw [b_and, bt_127, bt_l2i _ hi, bt_nIn hi, show (128 : Nat) = 2 ^ 7 from rfl, Nat.testBit_mod_two_pow]
  show (y.toBitVec.toNat.testBit i && decide (i < 7)) = (decide (i < 7) && y.toBitVec.toNat.testBit i)
  rw [Bool.and_comm]
theorem sm_split (f : Nat → Nat) (a : Nat) : ∀ b, sm f (a + b) = sm f a + sm (fun i => f (a + i)) b := by
  intro b
  induction b with
  | zero => rfl
  | succ b ih =>
    show sm f (a + b) + f (a + b) = sm f a + (sm (fun i => f (a + i)) b + f (a + b))
    rw [ih]
    omega
theorem bits_8 (N k : Nat) : sm (fun j => (N.testBit (k + j)).toNat) 8 = bC (N / 2 ^ k % 256) := by
  rw [bC_ok _ (by omega)]
  refine sm_eq 8 (fun j hj => ?_)
  rw [show (256 : Nat) = 2 ^ 8 from rfl, Nat.testBit_mod_two_pow, Nat.testBit_div_two_pow, decide_eq_true hj, Bool.true_and, Nat.add_comm]
theorem bits_64 (N : Nat) : sm (fun j => (N.testBit j).toNat) 64 = bC (N % 256) + bC (N / 2 ^ 8 % 256) + bC (N / 2 ^ 16 % 256) + bC (N / 2 ^ 24 % 256) + bC (N / 2 ^ 32 % 256) + bC (N / 2 ^ 40 % 256) + bC (N / 2 ^ 48 % 256) + bC (N / 2 ^ 56 % 256) := by
  have h0 := bits_8 N 0
  rw [Nat.pow_zero, Nat.div_one] at h0
  rw [← h0, ← bits_8, ← bits_8, ← bits_8, ← bits_8, ← bits_8, ← bits_8, ← bits_8]
  rw [show (64 : Nat) = 8 + 56 from rfl, sm_split, show (56 : Nat) = 8 + 48 from rfl, sm_split, show (48 : Nat) = 8 + 40 from rfl, sm_split, show (40 : Nat) = 8 + 32 from rfl, sm_split, show (32 : Nat) = 8 + 24 from rfl, sm_split, show (24 : Nat) = 8 + 16 from rfl, sm_split, show (16 : Nat) = 8 + 8 from rfl, sm_split]
  simp only [← Nat.add_assoc, Nat.zero_add]
theorem dv_is {y A B M : Nat} (h : y = A + M * B) (hA : A < M) : y / M = B := by
  rw [h, Nat.add_mul_div_left _ _ (by omega), Nat.div_eq_of_lt hA, Nat.zero_add]
theorem cs_7 {p0 p1 p2 p3 p4 p5 p6 p7 y3 : Nat} (h0 : p0 ≤ 8) (e6 : y3 = 256 * (256 * (256 * (256 * (256 * (256 * (256 * (256 * 0 + p7) + p6) + p5) + p4) + p3) + p2) + p1) + p0) : y3 / 256 = p1 + 256 * p2 + 65536 * p3 + 16777216 * p4 + 4294967296 * p5 + 1099511627776 * p6 + 281474976710656 * p7 :=
  dv_is (A := p0) (by omega) (by omega)
theorem cs_8 {p0 p1 p2 p3 p4 p5 p6 p7 y3 y4 Y : Nat} (e6 : y3 = 256 * (256 * (256 * (256 * (256 * (256 * (256 * (256 * 0 + p7) + p6) + p5) + p4) + p3) + p2) + p1) + p0) (e7 : Y = p1 + 256 * p2 + 65536 * p3 + 16777216 * p4 + 4294967296 * p5 + 1099511627776 * p6 + 281474976710656 * p7) (h4 : y4 = y3 + Y) : y4 = ((p0 + p1) + 256 * (p1 + p2)) + 65536 * ((p2 + p3) + 256 * (p3 + p4) + 65536 * (p4 + p5) + 16777216 * (p5 + p6) + 4294967296 * (p6 + p7) + 1099511627776 * p7) := by omega
theorem cs_9 {p0 p1 p2 p3 p4 p5 p6 p7 y4 y5 Y : Nat} (e8 : y4 = ((p0 + p1) + 256 * (p1 + p2)) + 65536 * ((p2 + p3) + 256 * (p3 + p4) + 65536 * (p4 + p5) + 16777216 * (p5 + p6) + 4294967296 * (p6 + p7) + 1099511627776 * p7)) (e9 : Y = (p2 + p3) + 256 * (p3 + p4) + 65536 * (p4 + p5) + 16777216 * (p5 + p6) + 4294967296 * (p6 + p7) + 1099511627776 * p7) (h5 : y5 = y4 + Y) : y5 = ((p0 + p1 + p2 + p3) + 256 * (p1 + p2 + p3 + p4) + 65536 * (p2 + p3 + p4 + p5) + 16777216 * (p3 + p4 + p5 + p6)) + 4294967296 * ((p4 + p5 + p6 + p7) + 256 * (p5 + p6 + p7) + 65536 * (p6 + p7) + 16777216 * p7) := by omega
theorem cs_10 {p0 p1 p2 p3 p4 p5 p6 p7 y5 Y : Nat} (e9 : y5 = ((p0 + p1 + p2 + p3) + 256 * (p1 + p2 + p3 + p4) + 65536 * (p2 + p3 + p4 + p5) + 16777216 * (p3 + p4 + p5 + p6)) + 4294967296 * ((p4 + p5 + p6 + p7) + 256 * (p5 + p6 + p7) + 65536 * (p6 + p7) + 16777216 * p7)) (hY : Y = (p4 + p5 + p6 + p7) + 256 * (p5 + p6 + p7) + 65536 * (p6 + p7) + 16777216 * p7) : y5 + Y = (p0 + p1 + p2 + p3 + p4 + p5 + p6 + p7) + 128 * (2 * (p1 + p2 + p3 + p4) + 512 * (p2 + p3 + p4 + p5) + 131072 * (p3 + p4 + p5 + p6) + 33554432 * ((p4 + p5 + p6 + p7) + 256 * (p5 + p6 + p7) + 65536 * (p6 + p7) + 16777216 * p7) + 2 * (p5 + p6 + p7) + 512 * (p6 + p7) + 131072 * p7) := by omega
theorem cs_all {p0 p1 p2 p3 p4 p5 p6 p7 y3 : Nat} (q0 : p0 ≤ 8) (q1 : p1 ≤ 8) (q2 : p2 ≤ 8) (q3 : p3 ≤ 8) (q4 : p4 ≤ 8) (q5 : p5 ≤ 8) (q6 : p6 ≤ 8) (q7 : p7 ≤ 8) (e6 : y3 = 256 * (256 * (256 * (256 * (256 * (256 * (256 * (256 * 0 + p7) + p6) + p5) + p4) + p3) + p2) + p1) + p0) : ∃ y4 y5 : Nat, y4 = y3 + y3 / 256 ∧ y5 = y4 + y4 / 65536 ∧ (y5 + y5 / 4294967296) % 128 = p0 + p1 + p2 + p3 + p4 + p5 + p6 + p7 ∧ y4 < 2 ^ 64 ∧ y5 < 2 ^ 64 ∧ y5 + y5 / 4294967296 < 2 ^ 64 := by
  have b3 : y3 ≤ 600000000000000000 := by omega
  have e7 := cs_7 q0 e6
  have e8a := cs_8 (y4 := y3 + y3 / 256) e6 e7 rfl
  have b4 : y3 + y3 / 256 ≤ 1200000000000000000 := by clear e6 e7 e8a; omega
  have e8 := dv_is e8a (by clear e6 e7 e8a b3 b4; omega)
  have e9a := cs_9 (y5 := (y3 + y3 / 256) + (y3 + y3 / 256) / 65536) e8a e8 rfl
  have b5 : (y3 + y3 / 256) + (y3 + y3 / 256) / 65536 ≤ 2400000000000000000 := by clear e6 e7 e8a e8 e9a; omega
  have e9 := dv_is e9a (by clear e6 e7 e8a e8 e9a b3 b4 b5; omega)
  have e10 := cs_10 e9a e9
  refine ⟨y3 + y3 / 256, _, rfl, rfl, ?_, ?_, ?_, ?_⟩
  · rw [e10, Nat.add_mul_mod_self_left, Nat.mod_eq_of_lt (by clear e6 e7 e8a e8 e9a e9 e10 b3 b4 b5; omega)]
  · exact Nat.lt_of_le_of_lt b4 (by decide)
  · exact Nat.lt_of_le_of_lt b5 (by decide)
  · generalize (y3 + y3 / 256) + (y3 + y3 / 256) / 65536 = y5 at b5
    clear e6 e7 e8a e8 e9a e9 e10 b3 b4
    omega
/-- the bits are counted -/
theorem bitCount_is (x : Int64) : f_Lg_bitCount x = some (nI (sm (fun i => (bL x i).toNat) 64)) := by
  obtain ⟨y2, y3, k1, k2, k3, k4, k5, k6⟩ := cnt_bytes (nL_lt x)
  have e1a : nL (shr x 1 &&& 6148914691236517205) = (nL x / 2) &&& 6148914691236517205 := by rw [nL_and, nL_shr _ (by decide), nC1]
  have e1 : nL (cX1 x) = nL x - ((nL x / 2) &&& 6148914691236517205) := by
    unfold cX1
    rw [nL_sub (by rw [e1a]; exact k3), e1a]
  have e2a : nL (cX1 x &&& 3689348814741910323) + nL (shr (cX1 x) 2 &&& 3689348814741910323) = y2 := by
    rw [nL_and, nL_and, nL_shr _ (by decide), nC2, e1, k2]
  have l2 : y2 < 2 ^ 64 := Nat.lt_of_le_of_lt k4 (by decide)
  have e2 : nL (cX2 x) = y2 := by
    unfold cX2
    rw [nL_add (by rw [e2a]; exact l2), e2a]
  have e3a : nL (cX2 x) + nL (shr (cX2 x) 4) = y2 + y2 / 16 := by rw [nL_shr _ (by decide), e2]
  have l3 : y2 + y2 / 16 < 2 ^ 64 := by clear k1 k2 k3 k5 k6 e1a e1 e2a e2 e3a l2; omega
  have e3 : nL (cX3 x) = y3 := by
    unfold cX3
    rw [nL_and, nL_add (by rw [e3a]; exact l3), e3a, nC3, k5]
  obtain ⟨N, eN⟩ : ∃ N, N = nL x := ⟨_, rfl⟩
  have hp : ∀ c, c < 256 → bC c ≤ 8 := fun c hc => (bB_ok c hc).2.2
  have hm : ∀ c : Nat, c % 256 < 256 := fun c => Nat.mod_lt _ (by decide)
  obtain ⟨y4, y5, h4, h5, e10, s12, s11, s10⟩ := cs_all (y3 := y3) (hp _ (hm N)) (hp _ (hm (N / 2 ^ 8))) (hp _ (hm (N / 2 ^ 16))) (hp _ (hm (N / 2 ^ 24))) (hp _ (hm (N / 2 ^ 32))) (hp _ (hm (N / 2 ^ 40))) (hp _ (hm (N / 2 ^ 48))) (hp _ (hm (N / 2 ^ 56))) (by rw [k6, ← eN]; rfl)
  have f4a : nL (cX3 x) + nL (shr (cX3 x) 8) = y4 := by rw [nL_shr _ (by decide), e3, h4]
  have f4 : nL (cX4 x) = y4 := by
    unfold cX4
    rw [nL_add (by rw [f4a]; exact s12), f4a]
  have f5a : nL (cX4 x) + nL (shr (cX4 x) 16) = y5 := by rw [nL_shr _ (by decide), f4, h5]
  have f5 : nL (cX5 x) = y5 := by
    unfold cX5
    rw [nL_add (by rw [f5a]; exact s11), f5a]
  have f6a : nL (cX5 x) + nL (shr (cX5 x) 32) = y5 + y5 / 4294967296 := by rw [nL_shr _ (by decide), f5]
  have f6 : nL (cX6 x) = y5 + y5 / 4294967296 := by
    unfold cX6
    rw [nL_add (by rw [f6a]; exact s10), f6a]
  rw [cnt_is, and_127, f6, e10, ← bits_64, eN]
  rfl

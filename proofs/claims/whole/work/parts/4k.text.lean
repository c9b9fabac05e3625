/-! the class's parser: a whole text; what a kept text tells -/
def ltx (ord : Bool) (C V : Nat → Int32) (n N : Nat) : Nat → Nat → Nat → List lC → Nat ⊕ List lC
  | 0, i, _, _ => .inl i
  | m + 1, i, q, acc => match (if ord = true then lclauseO C V n i q else lclauseL C V n i q) with
    | .inl j => .inl j
    | .inr (j, q', cl) => if C j = 159 then ltx ord C V n N m (j + 1) q' (acc ++ [cl]) else if N ≤ j then .inr (acc ++ [cl]) else .inl j
/-- a text of the class that holds these clauses -/
def zTx (S : zSt) (t W : Nat) (cls : List xC) : Prop := zI S t 2 = nI cls.length ∧ cls.length ≤ 12 ∧ ∃ l, zI S t 1 = nI l ∧ l ≤ 400 ∧ l ≤ zA S (t + 4) ∧ zA S (t + 4) ≤ 436 ∧ codeOk (zI S (t + 4)) 0 l ∧ (∀ j x, cls[j]? = some x → zCl (zI S (t + 1)) (zI S (t + 2)) (zI S (t + 3)) (zI S (t + 4)) W l j x) ∧ (zI S t 3 = 0 → ∀ x ∈ cls, noSoonC x)
theorem fill_is {a0 L : Nat} {v : Int32} (fu : Nat) : ∀ (n i : Nat) (S : zSt), zA S a0 = L → L < 2 ^ 31 → i ≤ L → L < n + i → ∃ S', f_Ar_fillI_5 fu a0 n v (nI i) (nI L) S = some S' ∧ S'.2 = S.2 ∧ ∀ j k, zI S' j k = if j = a0 ∧ i ≤ k ∧ k < L then v else zI S j k := by
  intro n
  induction n with
  | zero => intro i S h1 h2 h3 h4; omega
  | succ n ih =>
    intro i S h1 h2 h3 h4
    rw [f_Ar_fillI_5]
    by_cases h : i = L
    · rw [if_pos ((n_le (by omega) (by omega)).mpr (by omega))]
      refine ⟨S, rfl, rfl, fun j k => ?_⟩
      rw [if_neg (by omega)]
    · rw [if_neg (fun h => absurd ((n_le (by omega) (by omega)).mp h) (by omega)), h1, n_gd (by omega) (by omega), q_cl (by omega), n_1]
      obtain ⟨S', x1, x2, x3⟩ := ih (i + 1) (zwI S a0 i v) h1 h2 (by omega) (by omega)
      refine ⟨S', x1, x2, fun j k => ?_⟩
      rw [x3, qII]
      by_cases ha : j = a0
      · by_cases hk : k = i
        · rw [if_neg (by omega), if_pos ⟨ha, hk⟩, if_pos (by omega)]
        · rw [if_neg (c := j = a0 ∧ k = i) (by omega)]
          by_cases hk2 : i ≤ k ∧ k < L
          · rw [if_pos (by omega), if_pos (by omega)]
          · rw [if_neg (by omega), if_neg (by omega)]
      · rw [if_neg (by omega), if_neg (by omega), if_neg (by omega)]
theorem fill_all {a0 L : Nat} {v : Int32} (fu : Nat) (S : zSt) (h : zA S a0 = L) (hL : L < 2 ^ 31) (hf : L < fu) : ∃ S', f_Ar_fillI fu a0 v S = some S' ∧ S'.2 = S.2 ∧ ∀ j k, zI S' j k = if j = a0 ∧ k < L then v else zI S j k := by
  obtain ⟨S', x1, x2, x3⟩ := fill_is (a0 := a0) (L := L) (v := v) fu fu 0 S h hL (by omega) (by omega)
  refine ⟨S', ?_, x2, fun j k => ?_⟩
  · unfold f_Ar_fillI
    rw [h]
    exact x1
  · rw [x3]
    by_cases hk : j = a0 ∧ k < L
    · rw [if_pos hk, if_pos (by omega)]
    · rw [if_neg hk, if_neg (by omega)]
theorem tPos_end {B : Nat → Int32} {T N : Nat} (hN : tNo B T N) : ∀ j, N ≤ j → tPos B T j = T := by
  intro j
  induction j with
  | zero => intro h; rw [← Nat.le_zero.mp h]; exact hN.1
  | succ j ih =>
    intro h
    by_cases he : N = j + 1
    · rw [← he]; exact hN.1
    · have h1 := ih (by omega)
      have h4 := tEnd_le (B := B) (T := T) (q := tPos B T j) (tPos_le B T j)
      have h5 := (sc_spec (isBl B T) T (tEnd B T (tPos B T j)) h4.2.1).1
      have h6 : tPos B T (j + 1) = sc (isBl B T) T (tEnd B T (tPos B T j)) := rfl
      have h7 := tPos_le B T (j + 1)
      omega
theorem kat_end {B : Nat → Int32} {T N : Nat} (hN : tNo B T N) (j : Nat) : kat B T (tPos B T j) = 0 ↔ N ≤ j := by
  constructor
  · intro h
    refine Nat.le_of_not_lt (fun hlt => ?_)
    have h1 := hN.2 j hlt
    unfold kat at h
    rw [if_pos h1] at h
    have : ∀ b, kd b ≠ 0 := by
      intro b
      unfold kd kd2
      repeat' split
      all_goals decide
    exact this _ h
  · intro h
    unfold kat
    rw [if_neg (by rw [tPos_end hN j h]; omega)]
def lclause (ord : Bool) (C V : Nat → Int32) (n i q : Nat) : Nat ⊕ (Nat × Nat × lC) := if ord = true then lclauseO C V n i q else lclauseL C V n i q
abbrev oW (ord : Bool) : Nat := if ord = true then 23 else 7
def oE (R : Nat ⊕ List lC) (S' : zSt) (B : Nat → Int32) (T W : Nat) (r : Int32) : Prop := match R with
  | .inl j => r = nI (tPos B T j)
  | .inr cls => r = -1 ∧ zTx S' 47 W (cls.map xcO)
theorem fault_loop (fu : Nat) (hfu : 500 ≤ fu) {B : Nat → Int32} {T n N W : Nat} {ordB : Bool} (hN : tNo B T N)
    (hcl : ∀ (S : zSt) (i q l : Nat) (cls : List xC), zCS S B T (b2 ordB) W i q l cls → l ≤ i → cls.length < 12 → ∃ r S', f_Re_readClause fu S = some (r, S') ∧ zOutC S B T (b2 ordB) W cls (lclause ordB (tC B T) (tV B T) n i q) r S') :
    ∀ (m a k : Nat) (S : zSt) (i q l : Nat) (acc : List lC), a + m = 12 → acc.length = a → m < k → zCS S B T (b2 ordB) W i q l (acc.map xcO) → l ≤ i →
    ∃ r S', f_Re_faultIn_28 fu k (nI a) S = some (r, S') ∧ zFF S S' ∧ oE (ltx ordB (tC B T) (tV B T) n N m i q acc) S' B T W r := by
  intro m
  induction m with
  | zero =>
    intro a k S i q l acc h1 h2 h3 h hl
    obtain ⟨k, rfl⟩ : ∃ k', k = k' + 1 := ⟨k - 1, by omega⟩
    have e : a = 12 := by omega
    rw [f_Re_faultIn_28, e, if_pos (by decide)]
    exact ⟨_, S, rfl, zFF_r S, h.1.1.2.1⟩
  | succ m ih =>
    intro a k S i q l acc h1 h2 h3 h hl
    obtain ⟨k, rfl⟩ : ∃ k', k = k' + 1 := ⟨k - 1, by omega⟩
    have l12 : ¬ (12 : Int32) ≤ nI a := fun h => absurd ((n_le (a := 12) (by omega) (by omega)).mp h) (by omega)
    obtain ⟨r, S4, e4, F4, o4⟩ := hcl S i q l (acc.map xcO) h hl (by rw [List.length_map]; omega)
    rw [f_Re_faultIn_28, if_neg l12, qb2 e4]
    show ∃ r S', _ ∧ _ ∧ oE (match lclause ordB (tC B T) (tV B T) n i q with
      | .inl j => .inl j
      | .inr (j, q', cl) => if tC B T j = 159 then ltx ordB (tC B T) (tV B T) n N m (j + 1) q' (acc ++ [cl]) else if N ≤ j then .inr (acc ++ [cl]) else .inl j) S' B T W r
    cases hc : lclause ordB (tC B T) (tV B T) n i q with
    | inl j =>
      rw [hc] at o4
      obtain ⟨rfl, o5⟩ := o4
      rw [if_pos rfl]
      exact ⟨_, S4, rfl, F4, o5.2.1⟩
    | inr x =>
      obtain ⟨j, q', cl⟩ := x
      rw [hc] at o4
      obtain ⟨rfl, l', g1, g2⟩ := o4
      have hH := g1.1.1
      have e44 : zI S4 44 4 = kat B T (tPos B T j) := hH.2.2.2.1
      have tk := take_sign fu hfu (c := 59) hH (by omega)
      rw [if_neg (by decide), e44]
      show ∃ r S', _ ∧ _ ∧ oE (if tC B T j = 159 then ltx ordB (tC B T) (tV B T) n N m (j + 1) q' (acc ++ [cl]) else if N ≤ j then .inr (acc ++ [cl]) else .inl j) S' B T W r
      by_cases hj : N ≤ j
      · have k0 := (kat_end hN j).mpr hj
        have c159 : tC B T j ≠ 159 := by
          intro h
          unfold tC tCq at h
          rw [if_pos k0] at h
          exact absurd h (by decide)
        rw [if_pos k0, if_neg c159, if_pos hj]
        refine ⟨-1, S4, rfl, F4, rfl, ?_⟩
        obtain ⟨b1, b2, b3, b4, b5, b6, b7, b8⟩ := g1
        have e : acc.map xcO ++ [xcO cl] = (acc ++ [cl]).map xcO := by rw [List.map_append]; rfl
        rw [e] at b3 b4 b5 b8
        exact ⟨b3, b4, l', b1.2.2.2.2.1, b2.2, by rw [b1.2.2.2.2.2]; omega, by rw [b1.2.2.2.2.2]; omega, b7, b5, b8⟩
      · rw [if_neg (fun h => hj ((kat_end hN j).mp h))]
        by_cases c159 : tC B T j = 159
        · have tk1 := (tk.1 c159).1
          have tk1' : f_Ta_takeSign fu 59 S4 = some (1, zTk S4 B T (tPos B T (j + 1))) := tk1
          rw [qb2 tk1', if_neg (by decide), if_pos c159, n_1]
          have g3 := zCS_tk g1
          have e : acc.map xcO ++ [xcO cl] = (acc ++ [cl]).map xcO := by rw [List.map_append]; rfl
          rw [e] at g3
          obtain ⟨r, S', x1, x2, x3⟩ := ih (a + 1) k _ (j + 1) q' l' (acc ++ [cl]) (by omega) (by rw [List.length_append]; show acc.length + 1 = a + 1; omega) (by omega) g3 (by omega)
          exact ⟨r, S', x1, zFF_t F4 (zFF_t (zFF_P (zPF_tk (B := B) (T := T) _ l')) x2), x3⟩
        · have tk2 : f_Ta_takeSign fu 59 S4 = some (0, S4) := tk.2 c159
          rw [qb2 tk2, if_pos rfl, if_neg c159, if_neg hj]
          exact ⟨_, S4, rfl, F4, hH.2.1⟩
theorem clear_is (fu : Nat) (hfu : 500 ≤ fu) {S : zSt} (h50 : zA S 50 = 36) : ∃ S', f_Tx_clear fu 47 S = some S' ∧ S'.2 = S.2 ∧ (∀ k, k < 36 → zI S' 50 k = -1) ∧ zI S' 47 1 = 0 ∧ zI S' 47 2 = 0 ∧ zI S' 47 3 = 0 ∧ ∀ j k, j ≠ 47 → j ≠ 50 → zI S' j k = zI S j k := by
  obtain ⟨S', x1, x2, x3⟩ := fill_all (a0 := 50) (L := 36) (v := -1) fu (zwI (zwI (zwI S 47 1 0) 47 2 0) 47 3 0) h50 (by omega) (by omega)
  refine ⟨S', ?_, x2, fun k hk => ?_, ?_, ?_, ?_, fun j k h1 h2 => ?_⟩
  · unfold f_Tx_clear
    exact qb1 x1
  · rw [x3, if_pos ⟨rfl, hk⟩]
  · rw [x3, if_neg (by omega), qIIo _ _ (by omega), qIIo _ _ (by omega), qIIs]
  · rw [x3, if_neg (by omega), qIIo _ _ (by omega), qIIs]
  · rw [x3, if_neg (by omega), qIIs]
  · rw [x3, if_neg (by omega), qIIo _ _ (by omega), qIIo _ _ (by omega), qIIo _ _ (by omega)]
theorem fault_is (fu : Nat) (hfu : 500 ≤ fu) {S : zSt} {B : Nat → Int32} {T n N : Nat} (ordB : Bool) (hT : zTp S B T) (h51 : zA S 51 = 436) (h50 : zA S 50 = 36) (hn : 401 ≤ n) (hN : tNo B T N) :
    ∃ r S', f_Re_faultIn fu (b2 ordB) S = some (r, S') ∧ zFF S S' ∧ (zI S' 47 3 = 0 ∨ zI S' 47 3 = 1) ∧ oE (ltx ordB (tC B T) (tV B T) n N 12 0 0 []) S' B T (oW ordB) r := by
  obtain ⟨S3, x1, x2, x3, x4, x5, x6, x7⟩ := clear_is fu hfu (S := zwI (zwI (zwI S 46 1 (b2 ordB)) 46 2 0) 46 3 0) h50
  have y7 : ∀ j k, j ≠ 46 → j ≠ 47 → j ≠ 50 → zI S3 j k = zI S j k := fun j k h1 h2 h3 => by rw [x7 j k h2 h3, qIIo _ _ (by omega), qIIo _ _ (by omega), qIIo _ _ (by omega)]
  have hT3 : zTp S3 B T := ⟨by rw [y7 44 1 (by omega) (by omega) (by omega)]; exact hT.1, hT.2.1, fun k hk => by rw [y7 45 k (by omega) (by omega) (by omega)]; exact hT.2.2 k hk⟩
  obtain ⟨b1, b2'⟩ := begin_at fu hfu hT3
  have hA3 : ∀ a, zA S3 a = zA S a := fun a => by
    unfold zA
    rw [x2]
    rfl
  have F3 : zFF S S3 := ⟨x2, fun j k a b c d e f g => y7 j k b c f, fun k hk => y7 44 k (by omega) (by omega) (by omega), Or.inr (Or.inl x6)⟩
  have F5 : zFF S (zTk (zwI S3 44 3 0) B T (tPos B T 0)) := by
    refine zFF_t F3 (zFF_t (S' := zwI S3 44 3 0) ⟨rfl, fun j k a b c d e f g => qIIo _ _ (by omega), fun k hk => qIIo _ _ (by omega), Or.inl (qIIo _ _ (by omega))⟩ (zFF_P (zPF_tk (B := B) (T := T) _ 0)))
  have e5 : ∀ j, j ≠ 44 → zI (zTk (zwI S3 44 3 0) B T (tPos B T 0)) j = zI S3 j := fun j hj => by
    funext k
    rw [zTk_o _ _ _ _ (Or.inl hj), qIIo _ _ (by omega)]
  have hCS : zCS (zTk (zwI S3 44 3 0) B T (tPos B T 0)) B T (b2 ordB) (oW ordB) 0 0 0 (([] : List lC).map xcO) := by
    refine ⟨⟨b2', ?_, ?_, ?_, ?_, ?_⟩, ⟨by omega, by omega⟩, ?_, Nat.zero_le _, fun j x hx => by simp at hx, fun k _ hk => ?_, fun k _ hk => by omega, fun _ x hx => by simp at hx⟩
    · rw [e5 46 (by omega), x7 46 1 (by omega) (by omega), qIIo _ _ (by omega), qIIo _ _ (by omega), qIIs]
    · rw [e5 46 (by omega), x7 46 2 (by omega) (by omega), qIIo _ _ (by omega), qIIs]; rfl
    · rw [e5 46 (by omega), x7 46 3 (by omega) (by omega), qIIs]; rfl
    · rw [e5 47 (by omega), x4]; rfl
    · exact (hA3 51).trans h51
    · rw [e5 47 (by omega), x5]; rfl
    · rw [e5 50 (by omega)]; exact x3 k hk
  obtain ⟨r, S', z1, z2, z3⟩ := fault_loop fu hfu (n := n) (W := oW ordB) (ordB := ordB) hN (by
    intro S i q l cls h hl hc
    cases ordB with
    | false =>
      have hleaf := fun (brk : Int32 → Int32 → zSt → Option (Int32 × zSt)) (S : zSt) (i q b l : Nat) (h : zPS S B T 0 i q b l) (hl : l ≤ i + 35) (hq : q ≤ 50) (h191 : tC B T i ≠ 191) => leaf_law fu hfu brk h hl hq h191
      exact claw_ok fu hfu (sums_ok fu hfu hn hleaf 8 (by omega) 64 (by omega)) (tests_ok fu hfu hn hleaf 8 (by omega) 64 (by omega)) h hl hc
    | true =>
      have hleaf := fun (brk : Int32 → Int32 → zSt → Option (Int32 × zSt)) (S : zSt) (i q b l : Nat) (h : zPS S B T 1 i q b l) (hl : l ≤ i + 35) (hq : q ≤ 50) (h191 : tC B T i ≠ 191) => leaf_ord fu hfu brk h hl hq h191
      exact cord_ok fu hfu (sums_ok fu hfu hn hleaf 8 (by omega) 64 (by omega)) (tests_ok fu hfu hn hleaf 8 (by omega) 64 (by omega)) h hl hc) 12 0 fu _ 0 0 0 [] (by omega) rfl (by omega) hCS (by omega)
  have hb : zI S' 47 3 = 0 ∨ zI S' 47 3 = 1 := by
    rcases z2.2.2.2 with e | e
    · rw [e, e5 47 (by omega)]; exact Or.inl x6
    · exact e
  refine ⟨r, S', ?_, zFF_t F5 z2, hb, z3⟩
  unfold f_Re_faultIn
  rw [qgd (by cases ordB; exact Or.inl rfl; exact Or.inr rfl), qb1 x1, qb1 b1]
  exact z1
/-- what a kept text tells -/
theorem value_is (fu t a3 W : Nat) (hfu : 1000 ≤ fu) {S : zSt} {cls : List xC} (h : zTx S t W cls) (ht53 : t ≠ 53) (hW : W < 2 ^ 31) (hA : zA S a3 = W) {j w : Nat} {x : xC} (hx : cls[j]? = some x) (hw : w < 3) :
    ∃ g, f_Tx_value fu t a3 (nI j) (nI w) S = some (xE (x.2.2 w (xe (zI S a3))), (S.1, g, S.2.2)) ∧ zS53 S g := by
  obtain ⟨h1, h2, l, h3, h4, h5, h6, h7, h8, h9⟩ := h
  obtain ⟨b1, b2, b3, b4, b5⟩ := h8 j x hx
  have hj : j < 12 := by
    have := (List.getElem?_eq_some_iff.mp hx).1
    omega
  have e : nI j * 3 + nI w = nI (3 * j + w) := by
    rw [show (3 : Int32) = nI 3 from rfl, n_mul, n_add]
    congr 1
    omega
  have l36 : ¬ (36 : Int32) ≤ nI (3 * j + w) := fun h => absurd ((n_le (a := 36) (by omega) (by omega)).mp h) (by omega)
  have eS : f_Tx_startOf t (nI j) (nI w) S = some (zI S (t + 3) (3 * j + w)) := by
    unfold f_Tx_startOf
    rw [e, if_neg (n_neg (by omega)), if_neg l36, n_gd (by omega) (by omega), q_cl (by omega)]
  unfold f_Tx_value
  rw [qb1 eS]
  rcases b5 w hw with ⟨s1, s2⟩ | ⟨a, b, k, s1, s2, s3, s4, s5, s6⟩
  · rw [s1, if_neg (by decide), s2]
    exact ⟨S.2.1, rfl, fun _ _ => rfl⟩
  · rw [s1, if_pos (n_0 (by omega))]
    obtain ⟨g, z1, z2⟩ := value_run fu t a3 l W (zI S (t + 4)) (zI S a3) (by omega) hW ht53 (fun k hk => h7 k (by omega) hk) fu (l + 1) a [] 0 S rfl h3 (by omega) (by omega) hA rfl (by omega) (by omega) (by simp) trivial (fun v hv => by simp at hv) (by omega) (by omega) (by omega) (by omega)
    refine ⟨g, ?_, z2⟩
    have y : xr (zI S (t + 4)) l W (zI S a3) a [] = x.2.2 w (xe (zI S a3)) := xseg_end s5 s4 s6 s3 (zI S a3)
    rw [← y]
    exact z1

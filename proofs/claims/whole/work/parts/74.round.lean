/-! round: a can carried to springs and back, by sets -/
def rmP (p : Nat → Bool) (s : Nat) : Nat → Bool := fun x => p x && decide (x ≠ s)
def cdP (p : Nat → Bool) (n : Nat) : Nat := sm (fun s => if p s = true then 1 else 0) n
theorem cdP_eq {p q : Nat → Bool} {n : Nat} (h : ∀ s, s < n → p s = q s) : cdP p n = cdP q n := sm_eq n (fun i hi => by rw [h i hi])
theorem rmP_eq {p q : Nat → Bool} {n : Nat} (h : ∀ s, s < n → p s = q s) (s : Nat) : ∀ x, x < n → rmP p s x = rmP q s x := fun x hx => by unfold rmP; rw [h x hx]
theorem cdP_rm {p : Nat → Bool} {s : Nat} (hp : p s = true) : ∀ n, cdP p n = cdP (rmP p s) n + (if s < n then 1 else 0) := by
  intro n
  induction n with
  | zero => rfl
  | succ n ih =>
    have e1 : cdP p (n + 1) = cdP p n + (if p n = true then 1 else 0) := rfl
    have e2 : cdP (rmP p s) (n + 1) = cdP (rmP p s) n + (if rmP p s n = true then 1 else 0) := rfl
    rw [e1, e2, ih]
    by_cases e : n = s
    · have r1 : rmP p s n = false := by unfold rmP; rw [e]; simp
      rw [r1, e, if_pos hp, if_neg (show ¬ s < s by omega), if_pos (show s < s + 1 by omega), if_neg (show ¬ false = true by decide)]
    · have r1 : rmP p s n = p n := by unfold rmP; rw [decide_eq_true e, Bool.and_true]
      rw [r1]
      by_cases h2 : s < n
      · rw [if_pos h2, if_pos (show s < n + 1 by omega)]; omega
      · rw [if_neg h2, if_neg (show ¬ s < n + 1 by omega)]; omega
theorem cdP_0 {p : Nat → Bool} {n : Nat} : cdP p n = 0 ↔ ∀ s, s < n → p s = false := by
  constructor
  · intro h s hs
    cases e : p s with
    | false => rfl
    | true =>
      have := cdP_rm e n
      rw [if_pos hs] at this
      omega
  · intro h
    exact sm_0 n (fun i hi => by rw [h i hi]; rfl)
theorem mnF_eq {f g : Nat → Nat} : ∀ n, (∀ c, c < n → f c = g c) → mnF f n = mnF g n
  | 0, _ => rfl
  | n + 1, h => by
    show min (mnF f n) (f n) = min (mnF g n) (g n)
    rw [mnF_eq n (fun c hc => h c (by omega)), h n (by omega)]
def rdF (D : zD) (n h : Nat) : Nat → (Nat → Bool) → Nat → Nat
  | 0, _, a => min 1000000 (D a h)
  | m + 1, p, a => mnF (fun s => if p s = true then D a s + rdF D n h m (rmP p s) s else 1000000) n
theorem rdF_eq {D : zD} {n h : Nat} : ∀ m (p q : Nat → Bool) a, (∀ s, s < n → p s = q s) → rdF D n h m p a = rdF D n h m q a
  | 0, _, _, _, _ => rfl
  | m + 1, p, q, a, e => by
    show mnF (fun s => if p s = true then D a s + rdF D n h m (rmP p s) s else 1000000) n = mnF (fun s => if q s = true then D a s + rdF D n h m (rmP q s) s else 1000000) n
    refine mnF_eq n (fun c hc => ?_)
    show (if p c = true then D a c + rdF D n h m (rmP p c) c else 1000000) = (if q c = true then D a c + rdF D n h m (rmP q c) c else 1000000)
    rw [e c hc, rdF_eq m (rmP p c) (rmP q c) c (rmP_eq e c)]
def rdR (D : zD) (n h : Nat) (p : Nat → Bool) (a : Nat) : Nat := rdF D n h (cdP p n) p a
theorem rdR_eq {D : zD} {n h : Nat} {p q : Nat → Bool} (a : Nat) (e : ∀ s, s < n → p s = q s) : rdR D n h p a = rdR D n h q a := by
  unfold rdR
  rw [cdP_eq e]
  exact rdF_eq _ p q a e
theorem rdR_0 {D : zD} {n h : Nat} {p : Nat → Bool} (a : Nat) (e : ∀ s, s < n → p s = false) : rdR D n h p a = min 1000000 (D a h) := by
  unfold rdR
  rw [cdP_0.mpr e]
  rfl
def rdG (D : zD) (n h : Nat) (p : Nat → Bool) (a : Nat) : Nat → Nat := fun s => if p s = true then D a s + rdR D n h (rmP p s) s else 1000000
theorem rdR_s {D : zD} {n h : Nat} {p : Nat → Bool} (a : Nat) (e : ¬ cdP p n = 0) : rdR D n h p a = mnF (rdG D n h p a) n := by
  obtain ⟨m, hm⟩ : ∃ m, cdP p n = m + 1 := ⟨cdP p n - 1, by omega⟩
  have e1 : rdR D n h p a = mnF (fun s => if p s = true then D a s + rdF D n h m (rmP p s) s else 1000000) n := by
    unfold rdR
    rw [hm]
    rfl
  rw [e1]
  refine mnF_eq n (fun c hc => ?_)
  show (if p c = true then D a c + rdF D n h m (rmP p c) c else 1000000) = if p c = true then D a c + rdR D n h (rmP p c) c else 1000000
  by_cases hp : p c = true
  · have := cdP_rm hp n
    rw [if_pos hc] at this
    rw [if_pos hp, if_pos hp]
    unfold rdR
    rw [show cdP (rmP p c) n = m by omega]
  · rw [if_neg hp, if_neg hp]
theorem rdR_le (D : zD) (n h : Nat) (p : Nat → Bool) (a : Nat) : rdR D n h p a ≤ 1000000 := by
  by_cases e : cdP p n = 0
  · rw [rdR_0 a (cdP_0.mp e)]; omega
  · rw [rdR_s a e]; exact mnF_le _ n
/-- the lowest next spring by which nothing is lost -/
def rdN (D : zD) (n h : Nat) (p : Nat → Bool) (a : Nat) : Nat := sc (fun s => decide (¬ (p s = true ∧ D a s + rdR D n h (rmP p s) s = rdR D n h p a))) n 0
theorem rdN_is {D : zD} {n h : Nat} {p : Nat → Bool} {a : Nat} (e : ¬ cdP p n = 0) (hlt : rdR D n h p a < 1000000) :
    rdN D n h p a < n ∧ p (rdN D n h p a) = true ∧ D a (rdN D n h p a) + rdR D n h (rmP p (rdN D n h p a)) (rdN D n h p a) = rdR D n h p a ∧ ∀ s, s < rdN D n h p a → ¬ (p s = true ∧ D a s + rdR D n h (rmP p s) s = rdR D n h p a) := by
  obtain ⟨s1, s2, s3, s4⟩ := sc_spec (fun s => decide (¬ (p s = true ∧ D a s + rdR D n h (rmP p s) s = rdR D n h p a))) n 0 (Nat.zero_le _)
  have ex : ∃ c, c < n ∧ p c = true ∧ D a c + rdR D n h (rmP p c) c = rdR D n h p a := by
    have e1 := rdR_s (D := D) (h := h) a e
    rcases mnF_or (rdG D n h p a) n with h1 | ⟨c, hc, h1⟩
    · omega
    · have h2 : rdR D n h p a = rdG D n h p a c := e1.trans h1
      unfold rdG at h2
      by_cases hp : p c = true
      · rw [if_pos hp] at h2
        exact ⟨c, hc, hp, h2.symm⟩
      · rw [if_neg hp] at h2
        omega
  have h1 : rdN D n h p a < n := by
    obtain ⟨c, hc, h5⟩ := ex
    refine Nat.lt_of_not_le (fun hge => ?_)
    have := s3 c (Nat.zero_le _) (by show c < rdN D n h p a; omega)
    exact (of_decide_eq_true this) h5
  have h2 : p (rdN D n h p a) = true ∧ D a (rdN D n h p a) + rdR D n h (rmP p (rdN D n h p a)) (rdN D n h p a) = rdR D n h p a := by
    have := of_decide_eq_false (s4 h1)
    exact Classical.byContradiction fun hn => this hn
  exact ⟨h1, h2.1, h2.2, fun s hs => of_decide_eq_true (s3 s (Nat.zero_le _) hs)⟩
/-- where it is after so many stops -/
def rdW (D : zD) (n h : Nat) : Nat → (Nat → Bool) → Nat → Option Nat
  | 0, _, a => some a
  | r + 1, p, a => if cdP p n = 0 then none else rdW D n h r (rmP p (rdN D n h p a)) (rdN D n h p a)
theorem rdN_eq {D : zD} {n h : Nat} {p q : Nat → Bool} (a : Nat) (e : ∀ s, s < n → p s = q s) : rdN D n h p a = rdN D n h q a := by
  unfold rdN
  refine sc_cong (fun j hj => ?_) 0
  show decide (¬ (p j = true ∧ D a j + rdR D n h (rmP p j) j = rdR D n h p a)) = decide (¬ (q j = true ∧ D a j + rdR D n h (rmP q j) j = rdR D n h q a))
  rw [e j hj, rdR_eq j (rmP_eq e j), rdR_eq a e]
theorem rdW_eq {D : zD} {n h : Nat} : ∀ r (p q : Nat → Bool) a, (∀ s, s < n → p s = q s) → rdW D n h r p a = rdW D n h r q a
  | 0, _, _, _, _ => rfl
  | r + 1, p, q, a, e => by
    show (if cdP p n = 0 then none else rdW D n h r (rmP p (rdN D n h p a)) (rdN D n h p a)) = (if cdP q n = 0 then none else rdW D n h r (rmP q (rdN D n h q a)) (rdN D n h q a))
    rw [cdP_eq e, rdN_eq a e, rdW_eq r _ (rmP q (rdN D n h q a)) _ (rmP_eq e _)]
/-! sets as bits of numbers below 512 -/
theorem set_rm : ∀ v, v < 512 → ∀ s, s < 9 → v.testBit s = true → (nI v &&& (((1 : Int32) <<< (nI s &&& 31)) ^^^ (-1 : Int32))) = nI (v - 2 ^ s) ∧ 2 ^ s ≤ v := by decide +kernel
theorem set_add : ∀ v, v < 256 → ∀ s, s < 8 → v.testBit s = false → (nI v ||| ((1 : Int32) <<< (nI s &&& 31))) = nI (v + 2 ^ s) := by decide +kernel
theorem set_lt : ∀ c, c < 9 → ∀ v, v < 2 ^ c → ∀ s, s < c → v.testBit s = false → v + 2 ^ s < 2 ^ c := by decide +kernel
theorem tb_rm {v s : Nat} (hv : v < 512) (hs : s < 9) (h : v.testBit s = true) {x : Nat} (hx : x < 32) : (v - 2 ^ s).testBit x = (v.testBit x && decide (x ≠ s)) := by
  rw [← bt_nI (v - 2 ^ s) hx, ← (set_rm v hv s hs h).1, bt_out _ (by omega) hx, bt_nI v hx]
theorem tb_add {v s : Nat} (hv : v < 256) (hs : s < 8) (h : v.testBit s = false) {x : Nat} (hx : x < 32) : (v + 2 ^ s).testBit x = (v.testBit x || decide (x = s)) := by
  rw [← bt_nI (v + 2 ^ s) hx, ← set_add v hv s hs h, b_or, bt_bit (by omega) hx, bt_nI v hx]
theorem set_home {v s : Nat} (hv : v < 512) (hs : s < 9) : ∃ w, w ≤ v ∧ (nI v &&& (((1 : Int32) <<< (nI s &&& 31)) ^^^ (-1 : Int32))) = nI w ∧ ∀ x, x < 32 → w.testBit x = (v.testBit x && decide (x ≠ s)) := by
  cases h : v.testBit s with
  | true =>
    have h2 := set_rm v hv s hs h
    exact ⟨v - 2 ^ s, Nat.sub_le _ _, h2.1, fun x hx => tb_rm hv hs h hx⟩
  | false =>
    have hb : ∀ x, v.testBit x = (v.testBit x && decide (x ≠ s)) := fun x => by
      by_cases e : x = s
      · rw [e, h]; rfl
      · rw [decide_eq_true e, Bool.and_true]
    refine ⟨v, Nat.le_refl _, ?_, fun x _ => hb x⟩
    apply b_ext
    intro i hi
    rw [bt_out _ (by omega) hi, bt_nI v hi, ← hb i]
theorem inS_n (v : Nat) {s : Nat} (hs : s < 32) : inS (nI v) s = v.testBit s := by rw [inS_bt _ hs, bt_nI v hs]
theorem nI_z {v : Nat} (hv : v < 512) {n : Nat} (hn : n ≤ 9) (hb : v < 2 ^ n) : nI v = 0 ↔ cdP (fun s => v.testBit s) n = 0 := by
  rw [cdP_0]
  constructor
  · intro h s hs
    have : v = 0 := (n_eq (b := 0) (by omega) (by omega)).mp h
    rw [this]
    exact Nat.zero_testBit s
  · intro h
    have : v = 0 := by
      apply Nat.eq_of_testBit_eq
      intro i
      rw [Nat.zero_testBit]
      by_cases hi : i < n
      · exact h i hi
      · exact Nat.testBit_lt_two_pow (Nat.lt_of_lt_of_le hb (Nat.pow_le_pow_right (by omega) (by omega)))
    rw [this]
    rfl

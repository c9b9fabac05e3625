/-! the bytes as tokens: the class's side -/
theorem qIIo (S : zSt) {i k j l : Nat} (v : Int32) (h : ¬ (j = i ∧ l = k)) : zI (zwI S i k v) j l = zI S j l := by rw [qII, if_neg h]
def scn (f : Nat → Bool) : Nat → Nat → Nat
  | 0, p => p
  | n + 1, p => if f p = true then scn f n (p + 1) else p
/-- the first place from p on, before e, where f no longer holds; else e -/
def sc (f : Nat → Bool) (e p : Nat) : Nat := scn f (e - p) p
theorem sc_end {f : Nat → Bool} {e p : Nat} (h : e ≤ p) : sc f e p = p := by unfold sc; rw [Nat.sub_eq_zero_of_le h]; rfl
theorem sc_go {f : Nat → Bool} {e p : Nat} (h : p < e) (hf : f p = true) : sc f e p = sc f e (p + 1) := by
  unfold sc
  obtain ⟨n, hn⟩ : ∃ n, e - p = n + 1 := ⟨e - p - 1, by omega⟩
  rw [hn, show e - (p + 1) = n by omega]
  show (if f p = true then scn f n (p + 1) else p) = _
  rw [if_pos hf]
theorem sc_no {f : Nat → Bool} {e p : Nat} (h : p < e) (hf : f p = false) : sc f e p = p := by
  unfold sc
  obtain ⟨n, hn⟩ : ∃ n, e - p = n + 1 := ⟨e - p - 1, by omega⟩
  rw [hn]
  show (if f p = true then scn f n (p + 1) else p) = _
  rw [hf]; rfl
theorem sc_spec (f : Nat → Bool) (e : Nat) : ∀ p, p ≤ e → p ≤ sc f e p ∧ sc f e p ≤ e ∧ (∀ j, p ≤ j → j < sc f e p → f j = true) ∧ (sc f e p < e → f (sc f e p) = false) := by
  intro p hp
  obtain ⟨n, hn⟩ : ∃ n, e - p = n := ⟨_, rfl⟩
  induction n generalizing p with
  | zero => rw [sc_end (by omega)]; exact ⟨by omega, by omega, fun j _ _ => by omega, fun h => by omega⟩
  | succ n ih =>
    cases hf : f p with
    | true =>
      rw [sc_go (by omega) hf]
      obtain ⟨h1, h2, h3, h4⟩ := ih (p + 1) (by omega) (by omega)
      refine ⟨by omega, h2, fun j h5 h6 => ?_, h4⟩
      by_cases h : j = p
      · rw [h]; exact hf
      · exact h3 j (by omega) h6
    | false => rw [sc_no (by omega) hf]; exact ⟨by omega, by omega, fun j _ _ => by omega, fun _ => hf⟩
theorem sc_cong {f g : Nat → Bool} {e : Nat} (h : ∀ j, j < e → f j = g j) : ∀ p, sc f e p = sc g e p := by
  intro p
  obtain ⟨n, hn⟩ : ∃ n, e - p = n := ⟨_, rfl⟩
  induction n generalizing p with
  | zero => rw [sc_end (by omega), sc_end (by omega)]
  | succ n ih =>
    cases hf : f p with
    | true => rw [sc_go (by omega) hf, sc_go (f := g) (by omega) (by rw [← h p (by omega)]; exact hf)]; exact ih (p + 1) (by omega)
    | false => rw [sc_no (by omega) hf, sc_no (f := g) (by omega) (by rw [← h p (by omega)]; exact hf)]
def kd2 (b : Int32) : Int32 := if b < 48 then (if b = 32 then 4 else 3) else if 57 < b then (if b = 32 then 4 else 3) else 2
/-- 1 a letter, 2 a digit, 4 a blank, 3 any other byte -/
def kd (b : Int32) : Int32 := if b < 97 then kd2 b else if 122 < b then kd2 b else 1
def kat (B : Nat → Int32) (T p : Nat) : Int32 := if p < T then kd (B p) else 0
/-- the tape: so long, these bytes -/
def zTp (S : zSt) (B : Nat → Int32) (T : Nat) : Prop := zI S 44 1 = nI T ∧ T ≤ 400 ∧ ∀ k, k < T → zI S 45 k = B k
theorem kind_44 (b : Int32) (S : zSt) : f_Ta_kindAt_44 b S = some (kd2 b) := by
  unfold f_Ta_kindAt_44 kd2
  split <;> split <;> (try split) <;> rfl
theorem kind_at {S : zSt} {B : Nat → Int32} {T : Nat} (h : zTp S B T) {p : Nat} (hp : p < 2 ^ 31) : f_Ta_kindAt (nI p) S = some (kat B T p) := by
  obtain ⟨h1, h2, h3⟩ := h
  unfold f_Ta_kindAt kat
  rw [if_neg (n_neg hp), h1]
  by_cases hT : p < T
  · have l : nI p < (400 : Int32) := (n_lt (b := 400) hp (by omega)).mpr (by omega)
    rw [if_neg (fun h => absurd ((n_le (by omega) hp).mp h) (by omega)), if_pos l, n_gd hp (by omega), q_cl hp, h3 p hT, if_pos hT, kind_44]
    unfold kd
    split
    · rfl
    · split <;> rfl
  · rw [if_pos ((n_le (by omega) hp).mpr (by omega)), if_neg hT]
def isBl (B : Nat → Int32) (T k : Nat) : Bool := decide (kat B T k = 4)
def isK (B : Nat → Int32) (T : Nat) (t : Int32) (k : Nat) : Bool := decide (kat B T k = t)
theorem next_5 (fu : Nat) {S : zSt} {B : Nat → Int32} {T : Nat} (h : zTp S B T) : ∀ n p, p ≤ T → T < n + p → f_Ta_next_5 fu n (nI p) S = f_Ta_next_28 fu (nI (sc (isBl B T) T p)) S := by
  intro n
  induction n with
  | zero => intro p h1 h2; omega
  | succ n ih =>
    intro p h1 h2
    have hT := h.2.1
    rw [f_Ta_next_5, h.1]
    by_cases hp : p = T
    · rw [if_pos ((n_le (by omega) (by omega)).mpr (by omega)), sc_end (by omega)]
    · rw [if_neg (fun h => absurd ((n_le (by omega) (by omega)).mp h) (by omega)), qb1 (kind_at h (by omega))]
      by_cases hb : kat B T p = 4
      · rw [if_pos hb, n_1, ih (p + 1) (by omega) (by omega), sc_go (p := p) (by omega) (by unfold isBl; simp [hb])]
      · rw [if_neg hb, sc_no (by omega) (by unfold isBl; simp [hb])]
theorem next_61 (fu : Nat) {S : zSt} {B : Nat → Int32} {T : Nat} (h : zTp S B T) (t : Int32) (ht : zI S 44 4 = t) (e : Nat) (he : e ≤ 401) : ∀ n p, p ≤ e → e < n + p → f_Ta_next_61 fu n (nI p) (nI e) S = f_Ta_next_84 fu (nI (sc (isK B T t) e p)) S := by
  intro n
  induction n with
  | zero => intro p h1 h2; omega
  | succ n ih =>
    intro p h1 h2
    rw [f_Ta_next_61, ht]
    by_cases hp : p = e
    · rw [if_pos ((n_le (by omega) (by omega)).mpr (by omega)), sc_end (by omega)]
    · rw [if_neg (fun h => absurd ((n_le (by omega) (by omega)).mp h) (by omega)), qb1 (kind_at h (by omega))]
      by_cases hb : kat B T p = t
      · rw [if_pos hb, n_1, ih (p + 1) (by omega) (by omega), sc_go (p := p) (by omega) (by unfold isK; simp [hb])]
      · rw [if_neg hb, sc_no (by omega) (by unfold isK; simp [hb])]
/-- the number that digits spell -/
def dv (B : Nat → Int32) (q : Nat) : Nat → Nat
  | 0 => 0
  | n + 1 => 10 * dv B q n + ((B (q + n)).toInt - 48).toNat
theorem kd_2 {b : Int32} (h : kd b = 2) : 48 ≤ b.toInt ∧ b.toInt ≤ 57 := by
  have e48 : (48 : Int32).toInt = 48 := rfl
  have e57 : (57 : Int32).toInt = 57 := rfl
  have k : kd2 b = 2 := by
    unfold kd at h
    split at h
    · exact h
    · split at h
      · exact h
      · exact absurd h (by decide)
  unfold kd2 at k
  split at k
  · split at k <;> exact absurd k (by decide)
  · rename_i h1
    split at k
    · split at k <;> exact absurd k (by decide)
    · rename_i h2
      rw [q_lt] at h1 h2
      omega
theorem dv_mono (B : Nat → Int32) (q n : Nat) : dv B q n ≤ dv B q (n + 1) := by show _ ≤ 10 * dv B q n + _; omega
theorem dv_le (B : Nat → Int32) (q : Nat) {n m : Nat} (h : n ≤ m) : dv B q n ≤ dv B q m := by
  induction m with
  | zero => rw [Nat.le_zero.mp h]; exact Nat.le_refl _
  | succ m ih =>
    by_cases h2 : n = m + 1
    · rw [h2]; exact Nat.le_refl _
    · exact Nat.le_trans (ih (by omega)) (dv_mono B q m)
theorem number_7 (fu : Nat) {S : zSt} {B : Nat → Int32} {T q e : Nat} (h : zTp S B T) (he : zI S 44 3 = nI e) (heT : e ≤ T) (hd : ∀ k, q ≤ k → k < e → kat B T k = 2) : ∀ n i, q + i ≤ e → e < n + (q + i) → dv B q i ≤ 1000 →
    f_Ta_numberAtHand_7 fu n (nI (dv B q i)) (nI (q + i)) S = some (if dv B q (e - q) ≤ 1000 then nI (dv B q (e - q)) else 1001) := by
  intro n
  induction n with
  | zero => intro i h1 h2; omega
  | succ n ih =>
    intro i h1 h2 h3
    have hT := h.2.1
    rw [f_Ta_numberAtHand_7, if_neg (n_neg (by omega)), he]
    by_cases hp : q + i = e
    · rw [if_pos ((n_le (by omega) (by omega)).mpr (by omega)), show e - q = i by omega, if_pos h3]
    · have hk := hd (q + i) (by omega) (by omega)
      unfold kat at hk
      rw [if_pos (by omega)] at hk
      have hb := kd_2 hk
      obtain ⟨bn, hbn, hbi, hbb⟩ := q_ex (a := B (q + i)) (by omega)
      have hs : dv B q (i + 1) = 10 * dv B q i + (bn - 48) := by
        show 10 * dv B q i + ((B (q + i)).toInt - 48).toNat = _
        rw [← hbi]; omega
      have ev : ((nI (dv B q i) * (10 : Int32)) + nI bn) - (48 : Int32) = nI (dv B q (i + 1)) := by
        show ((nI (dv B q i) * nI 10) + nI bn) - nI 48 = _
        rw [n_mul, n_add, n_sub (by omega), hs]
        congr 1
        omega
      have l4 : ¬ (400 : Int32) ≤ nI (q + i) := fun h => absurd ((n_le (a := 400) (by omega) (by omega)).mp h) (by omega)
      rw [if_neg (fun h => absurd ((n_le (by omega) (by omega)).mp h) (by omega)), if_neg l4, n_gd (by omega) (by omega), q_cl (by omega), h.2.2 (q + i) (by omega), hbn, ev]
      have l5 : nI (dv B q (i + 1)) ≤ (1000 : Int32) ↔ dv B q (i + 1) ≤ 1000 := n_le (b := 1000) (by omega) (by omega)
      by_cases hv : dv B q (i + 1) ≤ 1000
      · rw [if_pos (l5.mpr hv), n_1]
        exact ih (i + 1) (by omega) (by omega) hv
      · have := dv_le B q (n := i + 1) (m := e - q) (by omega)
        rw [if_neg (fun h => hv (l5.mp h)), if_neg (by omega)]
theorem zTp_w {S : zSt} {B : Nat → Int32} {T : Nat} (h : zTp S B T) {k : Nat} (v : Int32) (hk : k ≠ 1) : zTp (zwI S 44 k v) B T := by
  refine ⟨?_, h.2.1, fun j hj => ?_⟩
  · rw [qII, if_neg (by omega)]; exact h.1
  · rw [qII, if_neg (by omega)]; exact h.2.2 j hj
/-- where the token ends that begins at q -/
def tEnd (B : Nat → Int32) (T q : Nat) : Nat := if kat B T q = 3 then q + 1 else sc (isK B T (kat B T q)) T q
def tNum (B : Nat → Int32) (T q : Nat) : Int32 := if kat B T q = 2 then (if dv B q (tEnd B T q - q) ≤ 1000 then nI (dv B q (tEnd B T q - q)) else 1001) else 0
/-- the token at hand begins at q -/
def zTk (S : zSt) (B : Nat → Int32) (T q : Nat) : zSt := zwI (zwI (zwI (zwI S 44 2 (nI q)) 44 4 (kat B T q)) 44 3 (nI (tEnd B T q))) 44 5 (tNum B T q)
theorem tEnd_le {B : Nat → Int32} {T q : Nat} (hq : q ≤ T) : q ≤ tEnd B T q ∧ tEnd B T q ≤ T ∧ (q < T → q < tEnd B T q) := by
  unfold tEnd
  by_cases h3 : kat B T q = 3
  · have : q < T := by
      refine Nat.lt_of_not_le (fun h => ?_)
      unfold kat at h3
      rw [if_neg (by omega)] at h3
      exact absurd h3 (by decide)
    rw [if_pos h3]; omega
  · rw [if_neg h3]
    have h := sc_spec (isK B T (kat B T q)) T q hq
    refine ⟨h.1, h.2.1, fun hlt => ?_⟩
    rw [sc_go hlt (by unfold isK; simp)]
    have h2 := sc_spec (isK B T (kat B T q)) T (q + 1) (by omega)
    omega
theorem next_84 (fu : Nat) (hfu : 500 ≤ fu) {S : zSt} {B : Nat → Int32} {T q : Nat} (h : zTp S B T) (hq : q ≤ T) (h2 : zI S 44 2 = nI q) (h4 : zI S 44 4 = kat B T q) : f_Ta_next_84 fu (nI (tEnd B T q)) S = some (zwI (zwI S 44 3 (nI (tEnd B T q))) 44 5 (tNum B T q)) := by
  have he := tEnd_le (B := B) hq
  have hT := h.2.1
  unfold f_Ta_next_84 tNum
  rw [qIIo S _ (by omega), h4]
  by_cases hk : kat B T q = 2
  · rw [if_pos hk, if_pos hk]
    have hd : ∀ k, q ≤ k → k < tEnd B T q → kat B T k = 2 := by
      intro k h5 h6
      have e : tEnd B T q = sc (isK B T 2) T q := by unfold tEnd; rw [hk, if_neg (by decide)]
      rw [e] at h6
      have := (sc_spec (isK B T 2) T q hq).2.2.1 k h5 h6
      unfold isK at this
      simpa using this
    have hn := number_7 fu (S := zwI S 44 3 (nI (tEnd B T q))) (q := q) (e := tEnd B T q) (zTp_w h _ (by omega)) (qIIs S 44 3 _) he.2.1 hd fu 0 (by omega) (by omega) (Nat.zero_le _)
    unfold f_Ta_numberAtHand
    rw [qIIo S _ (by omega), h2]
    exact qb1 hn
  · rw [if_neg hk, if_neg hk]
theorem next_28 (fu : Nat) (hfu : 500 ≤ fu) {S : zSt} {B : Nat → Int32} {T q : Nat} (h : zTp S B T) (hq : q ≤ T) : f_Ta_next_28 fu (nI q) S = some (zTk S B T q) := by
  have hT := h.2.1
  unfold f_Ta_next_28
  rw [qb1 (kind_at (zTp_w h _ (by omega)) (by omega)), qIIs]
  have h' : zTp (zwI (zwI S 44 2 (nI q)) 44 4 (kat B T q)) B T := zTp_w (zTp_w h _ (by omega)) _ (by omega)
  have h2 : zI (zwI (zwI S 44 2 (nI q)) 44 4 (kat B T q)) 44 2 = nI q := by rw [qII, if_neg (by omega), qIIs]
  by_cases h3 : kat B T q = 3
  · have hqT : q < T := by
      refine Nat.lt_of_not_le (fun h => ?_)
      unfold kat at h3
      rw [if_neg (by omega)] at h3
      exact absurd h3 (by decide)
    rw [if_pos h3, n_1, next_61 fu h' _ (qIIs _ _ _ _) (q + 1) (by omega) fu q (by omega) (by omega), sc_go (p := q) (by omega) (by unfold isK; simp), sc_end (by omega)]
    have e : tEnd B T q = q + 1 := by unfold tEnd; rw [if_pos h3]
    rw [← e, next_84 fu hfu h' hq h2 (qIIs _ _ _ _)]
    rfl
  · rw [if_neg h3, h'.1, next_61 fu h' _ (qIIs _ _ _ _) T (by omega) fu q hq (by omega)]
    have e : sc (isK B T (kat B T q)) T q = tEnd B T q := by unfold tEnd; rw [if_neg h3]
    rw [e, next_84 fu hfu h' hq h2 (qIIs _ _ _ _)]
    rfl
theorem next_is (fu : Nat) (hfu : 500 ≤ fu) {S : zSt} {B : Nat → Int32} {T p : Nat} (h : zTp S B T) (hp : p ≤ T) (h3 : zI S 44 3 = nI p) : f_Ta_next fu S = some (zTk S B T (sc (isBl B T) T p)) := by
  have hT := h.2.1
  unfold f_Ta_next
  rw [h3, next_5 fu h fu p hp (by omega), next_28 fu hfu h (sc_spec _ T p hp).2.1]
/-- where the i-th token begins -/
def tPos (B : Nat → Int32) (T : Nat) : Nat → Nat
  | 0 => sc (isBl B T) T 0
  | i + 1 => sc (isBl B T) T (tEnd B T (tPos B T i))
theorem tPos_le (B : Nat → Int32) (T : Nat) : ∀ i, tPos B T i ≤ T
  | 0 => (sc_spec _ T 0 (by omega)).2.1
  | i + 1 => (sc_spec _ T _ (tEnd_le (tPos_le B T i)).2.1).2.1
theorem zTk_Tp {S : zSt} {B : Nat → Int32} {T : Nat} (h : zTp S B T) (q : Nat) : zTp (zTk S B T q) B T := zTp_w (zTp_w (zTp_w (zTp_w h _ (by omega)) _ (by omega)) _ (by omega)) _ (by omega)
theorem zTk_2 (S : zSt) (B : Nat → Int32) (T q : Nat) : zI (zTk S B T q) 44 2 = nI q := by unfold zTk; rw [qII, if_neg (by omega), qII, if_neg (by omega), qII, if_neg (by omega), qIIs]
theorem zTk_4 (S : zSt) (B : Nat → Int32) (T q : Nat) : zI (zTk S B T q) 44 4 = kat B T q := by unfold zTk; rw [qII, if_neg (by omega), qII, if_neg (by omega), qIIs]
theorem zTk_3 (S : zSt) (B : Nat → Int32) (T q : Nat) : zI (zTk S B T q) 44 3 = nI (tEnd B T q) := by unfold zTk; rw [qII, if_neg (by omega), qIIs]
theorem zTk_5 (S : zSt) (B : Nat → Int32) (T q : Nat) : zI (zTk S B T q) 44 5 = tNum B T q := by unfold zTk; rw [qIIs]
theorem zTk_o (S : zSt) (B : Nat → Int32) (T q : Nat) {j k : Nat} (h : j ≠ 44 ∨ k < 2 ∨ 5 < k) : zI (zTk S B T q) j k = zI S j k := by unfold zTk; rw [qII, if_neg (by omega), qII, if_neg (by omega), qII, if_neg (by omega), qII, if_neg (by omega)]
/-- the i-th token is at hand -/
def zHd (S : zSt) (B : Nat → Int32) (T i : Nat) : Prop := zTp S B T ∧ zI S 44 2 = nI (tPos B T i) ∧ zI S 44 3 = nI (tEnd B T (tPos B T i)) ∧ zI S 44 4 = kat B T (tPos B T i) ∧ zI S 44 5 = tNum B T (tPos B T i)
theorem zTk_at {S : zSt} {B : Nat → Int32} {T : Nat} (h : zTp S B T) (i : Nat) : zHd (zTk S B T (tPos B T i)) B T i := ⟨zTk_Tp h _, zTk_2 _ _ _ _, zTk_3 _ _ _ _, zTk_4 _ _ _ _, zTk_5 _ _ _ _⟩
theorem next_at (fu : Nat) (hfu : 500 ≤ fu) {S : zSt} {B : Nat → Int32} {T i : Nat} (h : zHd S B T i) : f_Ta_next fu S = some (zTk S B T (tPos B T (i + 1))) ∧ zHd (zTk S B T (tPos B T (i + 1))) B T (i + 1) :=
  ⟨next_is fu hfu h.1 (tEnd_le (tPos_le B T i)).2.1 h.2.2.1, zTk_at h.1 (i + 1)⟩
theorem begin_at (fu : Nat) (hfu : 500 ≤ fu) {S : zSt} {B : Nat → Int32} {T : Nat} (h : zTp S B T) : f_Ta_begin fu S = some (zTk (zwI S 44 3 0) B T (tPos B T 0)) ∧ zHd (zTk (zwI S 44 3 0) B T (tPos B T 0)) B T 0 := by
  have h' := zTp_w h (k := 3) 0 (by omega)
  refine ⟨?_, zTk_at h' 0⟩
  unfold f_Ta_begin
  rw [qb1 (next_is fu hfu h' (Nat.zero_le T) (qIIs S 44 3 _))]
  rfl

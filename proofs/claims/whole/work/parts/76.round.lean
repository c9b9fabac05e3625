/-! round: the class's stops told -/
theorem cd_len (v h : Nat) : ∀ k, (rSt v h k).length = cdP (fun s => v.testBit s && decide (s ≠ h)) k := by
  intro k
  induction k with
  | zero => rfl
  | succ k ih =>
    have e1 : cdP (fun s => v.testBit s && decide (s ≠ h)) (k + 1) = cdP (fun s => v.testBit s && decide (s ≠ h)) k + (if (v.testBit k && decide (k ≠ h)) = true then 1 else 0) := rfl
    rw [e1, rSt_s, List.length_append, ih]
    congr 1
    split <;> rfl
theorem pd_0 {v h n : Nat} {s : Nat} (hs : s < n) : pd (rSt v h n) 0 s = (v.testBit s && decide (s ≠ h)) := by
  apply Bool.eq_iff_iff.mpr
  rw [Bool.and_eq_true, decide_eq_true_iff, pd_t]
  constructor
  · rintro ⟨i, hi, -, e⟩
    rw [getD_get hi] at e
    have := rSt_mem.mp (List.getElem_mem hi)
    rw [e] at this
    exact this.2
  · intro hh
    obtain ⟨i, hi, e⟩ := List.getElem_of_mem (rSt_mem.mpr ⟨hs, hh⟩ : s ∈ rSt v h n)
    exact ⟨i, hi, Nat.zero_testBit i, by rw [getD_get hi]; exact e⟩
theorem rdW_none {D : zD} {n h : Nat} : ∀ (r : Nat) (p : Nat → Bool) (a : Nat), rdR D n h p a < 1000000 → cdP p n < r → rdW D n h r p a = none
  | 0, _, _, _, hr => absurd hr (by omega)
  | r + 1, p, a, hlt, hr => by
    show (if cdP p n = 0 then none else rdW D n h r (rmP p (rdN D n h p a)) (rdN D n h p a)) = none
    by_cases e : cdP p n = 0
    · rw [if_pos e]
    · rw [if_neg e]
      obtain ⟨n1, n2, n3, -⟩ := rdN_is e hlt
      have := cdP_rm n2 n
      rw [if_pos n1] at this
      exact rdW_none r _ _ (by omega) (by omega)
theorem ro_days (fu : Nat) (hfu : 100 ≤ fu) {S : zSt} {P : zP} (hP : pOK P) (hp : zPp S P (pLaw P)) {h : Nat} (hh : h < pN P) {l : List Nat} (hl : stO (pN P) l) (hA : rA S P h l) (hC : ∀ d, 0 < d → d < 2 ^ l.length → rC S P h l d) : f_Ro_days fu S = some (if 1000000 ≤ rdR (pD P (pLaw P)) (pN P) h (pd l 0) h then -1 else nI (rdR (pD P (pLaw P)) (pN P) h (pd l 0) h)) := by
  have h8 := hl.1
  have hp1 : 1 ≤ (2 : Nat) ^ l.length := Nat.two_pow_pos _
  unfold f_Ro_days
  rw [hA.1]
  by_cases h0 : l.length = 0
  · have e : rdR (pD P (pLaw P)) (pN P) h (pd l 0) h = 0 := by
      rw [rdR_0 h (cdP_0.mp ((pd_cd hl).mpr (fun i hi => absurd hi (by omega)))), (pD_fI hP (pLaw P)).1 h hh]
      rfl
    rw [if_pos (show nI l.length = 0 by rw [h0]; rfl), e, if_neg (by omega)]
    rfl
  · have hne : ¬ cdP (pd l 0) (pN P) = 0 := fun h => by
      have := (pd_cd hl).mp h 0 (by omega)
      rw [Nat.zero_testBit] at this
      cases this
    have ef : f_Ro_fewestBehind fu 0 (-1) S = some (nI (rdR (pD P (pLaw P)) (pN P) h (pd l 0) h)) := ro_few fu hfu hp hh hl hA (cur := -1) (a := h) (Or.inl ⟨rfl, rfl⟩) (d := 0) (by omega) (fun i hi hb => hC _ (by have := Nat.two_pow_pos i; omega) (set_lt l.length (by omega) 0 (by omega) i hi hb)) hne
    have hle := rdR_le (pD P (pLaw P)) (pN P) h (pd l 0) h
    rw [if_neg (show ¬ nI l.length = 0 from fun h => h0 ((n_eq (b := 0) (by omega) (by omega)).mp h)), qb1 ef]
    by_cases hf : 1000000 ≤ rdR (pD P (pLaw P)) (pN P) h (pd l 0) h
    · rw [if_pos ((row_cmp (D := fun _ _ => rdR (pD P (pLaw P)) (pN P) h (pd l 0) h) (a := 0) (b := 0) hle).1.mpr hf), if_pos hf]
    · rw [if_neg (fun h => hf ((row_cmp (D := fun _ _ => rdR (pD P (pLaw P)) (pN P) _ (pd l 0) _) (a := 0) (b := 0) hle).1.mp h)), if_neg hf]
theorem ro_next10 (fu : Nat) {S : zSt} {P : zP} {h : Nat} {l : List Nat} (hl : stO (pN P) l) (hA : rA S P h l) {cur : Int32} {a : Nat} (hcu : cuR h l cur a) {d : Nat} (hd : d < 2 ^ l.length) (hC : ∀ i, i < l.length → d.testBit i = false → rC S P h l (d + 2 ^ i)) (hle : ∀ i, i < l.length → fwF (pD P (pLaw P)) (pN P) h l d a i ≤ 2000000) {R j : Nat} (hR : R ≤ 1000000) (hj : j < l.length) (hjb : d.testBit j = false) (hjR : fwF (pD P (pLaw P)) (pN P) h l d a j = R) (hno : ∀ i, i < j → d.testBit i = false → ¬ fwF (pD P (pLaw P)) (pN P) h l d a i = R) : ∀ (m i n : Nat), i + m = j → m + 1 ≤ n → f_Ro_nextStop_10 fu n (nI d) cur (nI R) (nI i) S = some (nI j) := by
  have h8 := hl.1
  intro m
  induction m with
  | zero =>
    intro i n h1 h2
    obtain ⟨n', rfl⟩ : ∃ n', n = n' + 1 := ⟨n - 1, by omega⟩
    have e : i = j := by omega
    rw [e]
    have hand := and1_is (nI d) (s := j) (by omega)
    unfold f_Ro_nextStop_10
    rw [hA.1, if_neg (fun h => absurd ((n_le (by omega) (by omega)).mp h) (by omega)), if_pos (hand.2.mpr (by rw [inS_n d (by omega)]; exact hjb)), qb1 (ro_by hl hA hcu hd hj hjb (hC j hj hjb)), hjR, if_pos rfl]
  | succ m ih =>
    intro i n h1 h2
    obtain ⟨n', rfl⟩ : ∃ n', n = n' + 1 := ⟨n - 1, by omega⟩
    have hi : i < l.length := by omega
    have g2 := hle i hi
    have hand := and1_is (nI d) (s := i) (by omega)
    rw [← ih (i + 1) n' (by omega) (by omega)]
    obtain ⟨K, eK⟩ : ∃ K, K = f_Ro_nextStop_10 fu n' := ⟨_, rfl⟩
    rw [← eK]
    unfold f_Ro_nextStop_10
    rw [hA.1, if_neg (fun h => absurd ((n_le (by omega) (by omega)).mp h) (by omega)), ← eK, n_1]
    cases hb : d.testBit i with
    | false =>
      rw [if_pos (hand.2.mpr (by rw [inS_n d (by omega)]; exact hb)), qb1 (ro_by hl hA hcu hd hi hb (hC i hi hb)), if_neg (fun h => hno i (by omega) hb ((n_eq (by omega) (by omega)).mp h))]
    | true =>
      rw [if_neg (fun h => by have := hand.2.mp h; rw [inS_n d (by omega), hb] at this; cases this)]
theorem ro_next (fu : Nat) (hfu : 100 ≤ fu) {S : zSt} {P : zP} (hp : zPp S P (pLaw P)) {h : Nat} (hh : h < pN P) {l : List Nat} (hl : stO (pN P) l) (hA : rA S P h l) (hCa : ∀ d, 0 < d → d < 2 ^ l.length → rC S P h l d) {cur : Int32} {a : Nat} (hcu : cuR h l cur a) {d : Nat} (hd : d < 2 ^ l.length) (hne : ¬ cdP (pd l d) (pN P) = 0) (hlt : rdR (pD P (pLaw P)) (pN P) h (pd l d) a < 1000000) : ∃ j, j < l.length ∧ d.testBit j = false ∧ l.getD j 0 = rdN (pD P (pLaw P)) (pN P) h (pd l d) a ∧ f_Ro_nextStop fu (nI d) cur S = some (nI j) := by
  have h8 := hl.1
  have hd2 : (2 : Nat) ^ l.length ≤ 256 := Nat.le_trans (Nat.pow_le_pow_right (by omega) h8) (by decide)
  have hC : ∀ i, i < l.length → d.testBit i = false → rC S P h l (d + 2 ^ i) := fun i hi hb => hCa _ (by have := Nat.two_pow_pos i; omega) (set_lt l.length (by omega) d hd i hi hb)
  obtain ⟨n1, n2, n3, n4⟩ := rdN_is hne hlt
  obtain ⟨j, hj, hjb, hje⟩ := pd_t.mp n2
  have hG : ∀ i, i < l.length → d.testBit i = false → fwF (pD P (pLaw P)) (pN P) h l d a i = pD P (pLaw P) a (l.getD i 0) + rdR (pD P (pLaw P)) (pN P) h (rmP (pd l d) (l.getD i 0)) (l.getD i 0) := fun i hi hb => by
    rw [fw_g hl (by omega) a hi hb]
    unfold rdG
    rw [if_pos (pd_t.mpr ⟨i, hi, hb, rfl⟩)]
  refine ⟨j, hj, hjb, hje, ?_⟩
  unfold f_Ro_nextStop
  rw [qb1 (ro_few fu hfu hp hh hl hA hcu hd hC hne)]
  refine ro_next10 fu hl hA hcu hd hC (fun i hi => fwF_le hp hl (cuR_n hh hl hcu) i hi) (by omega) hj hjb ?_ (fun i hi hb => ?_) j 0 fu (by omega) (by omega)
  · rw [hG j hj hjb, hje]
    exact n3
  · rw [hG i (by omega) hb]
    intro e
    exact n4 (l.getD i 0) (by rw [← hje]; exact hl.2.2 i j hi hj) ⟨pd_t.mpr ⟨i, by omega, hb, rfl⟩, e⟩
theorem ro_stop (fu : Nat) (hfu : 100 ≤ fu) {S : zSt} {P : zP} (hP : pOK P) (hp : zPp S P (pLaw P)) {h : Nat} (hh : h < pN P) {l : List Nat} (hl : stO (pN P) l) (hA : rA S P h l) (hCa : ∀ d, 0 < d → d < 2 ^ l.length → rC S P h l d) {i : Nat} (hi : i < 1000) : ∀ (r n d q a : Nat) (cur : Int32), r + 1 ≤ n → q + r = i + 1 → cuR h l cur a → (r = 0 → ∃ j, j < l.length ∧ cur = nI j ∧ a = l.getD j 0) → d < 2 ^ l.length → r ≤ cdP (pd l d) (pN P) → rdR (pD P (pLaw P)) (pN P) h (pd l d) a < 1000000 → f_Ro_stop_29 fu n (nI i) (nI d) cur (nI q) S = some (ocI (rdW (pD P (pLaw P)) (pN P) h r (pd l d) a)) := by
  have h8 := hl.1
  have hd2 : (2 : Nat) ^ l.length ≤ 256 := Nat.le_trans (Nat.pow_le_pow_right (by omega) h8) (by decide)
  intro r
  induction r with
  | zero =>
    intro n d q a cur h1 h2 hcu hr0 hd hcd hlt
    obtain ⟨n', rfl⟩ : ∃ n', n = n' + 1 := ⟨n - 1, by omega⟩
    obtain ⟨j, hj, rfl, rfl⟩ := hr0 rfl
    unfold f_Ro_stop_29
    rw [if_pos ((n_lt (by omega) (by omega)).mpr (by omega))]
    unfold f_Ro_stop_61
    rw [if_neg (nI_m1 (by omega)), n_gd (by omega) (by omega), q_cl (by omega), hA.2.1 j hj]
    rfl
  | succ r ih =>
    intro n d q a cur h1 h2 hcu hr0 hd hcd hlt
    obtain ⟨n', rfl⟩ : ∃ n', n = n' + 1 := ⟨n - 1, by omega⟩
    have hne : ¬ cdP (pd l d) (pN P) = 0 := by omega
    obtain ⟨n1, n2, n3, n4⟩ := rdN_is hne hlt
    obtain ⟨j, hj, hjb, hje, ej⟩ := ro_next fu hfu hp hh hl hA hCa hcu hd hne hlt
    have hrm : ∀ s, s < pN P → pd l (d + 2 ^ j) s = rmP (pd l d) (rdN (pD P (pLaw P)) (pN P) h (pd l d) a) s := fun s _ => by rw [← hje]; exact pd_rm hl (by omega) hj hjb s
    have hcd2 := cdP_rm n2 (pN P)
    rw [if_pos n1] at hcd2
    have hrec := ih n' (d + 2 ^ j) (q + 1) (l.getD j 0) (nI j) (by omega) (by omega) (Or.inr ⟨j, hj, rfl, rfl⟩) (fun _ => ⟨j, hj, rfl, rfl⟩) (set_lt l.length (by omega) d hd j hj hjb) (by rw [cdP_eq hrm]; omega) (by rw [rdR_eq _ hrm, hje]; omega)
    rw [rdW_eq r _ _ _ hrm, hje] at hrec
    unfold f_Ro_stop_29
    rw [if_neg (fun h => absurd ((n_lt (by omega) (by omega)).mp h) (by omega)), qb1 ej, if_neg (nI_m1 (by omega)), set_add d (by omega) j (by omega) hjb, n_1, hrec]
    show some (ocI (rdW (pD P (pLaw P)) (pN P) h r (rmP (pd l d) (rdN (pD P (pLaw P)) (pN P) h (pd l d) a)) (rdN (pD P (pLaw P)) (pN P) h (pd l d) a))) = some (ocI (if cdP (pd l d) (pN P) = 0 then none else rdW (pD P (pLaw P)) (pN P) h r (rmP (pd l d) (rdN (pD P (pLaw P)) (pN P) h (pd l d) a)) (rdN (pD P (pLaw P)) (pN P) h (pd l d) a)))
    rw [if_neg hne]
/-! round: the reference -/
def pB (w : Nat) : Nat → Bool := fun s => w.testBit s
def sbI (w v : Nat) : Prop := (nI w &&& (nI v ^^^ (-1 : Int32))) = 0
theorem sbI_rm {w v s : Nat} (hw : w < 512) (hs : s < 9) (hb : w.testBit s = true) (h : sbI w v) : sbI (w - 2 ^ s) v := by
  unfold sbI at h ⊢
  apply b_ext
  intro i hi
  have h1 : bt (nI w &&& (nI v ^^^ (-1 : Int32))) i = false := by rw [h, b_0]
  rw [b_and] at h1 ⊢
  rw [bt_nI w hi] at h1
  rw [bt_nI _ hi, tb_rm hw hs hb hi, b_0]
  cases e : w.testBit i with
  | false => rfl
  | true =>
    rw [e, Bool.true_and] at h1
    rw [h1, Bool.and_false]
theorem sbI_self (v : Nat) : sbI v v := by
  unfold sbI
  apply b_ext
  intro i hi
  rw [b_and, b_xor, b_m1 i hi, b_0]
  cases bt (nI v) i <;> rfl
/-- the lines of the sets ahead of (w, a) -/
def rT (S : zSt) (P : zP) (h v w a : Nat) : Prop := ∀ w' a', a' < pN P → (w' < w ∨ (w' = w ∧ a' < a)) → sbI w' v → zI S 91 (9 * w' + a') = nI (rdR (pD P (pLaw P)) (pN P) h (pB w') a')
theorem m_rat (S : zSt) {w a : Nat} (hw : w < 512) (ha : a < 9) : f_M_roundAt (nI w) (nI a) S = some (zI S 91 (9 * w + a)) := by
  unfold f_M_roundAt
  rw [show 9 * nI w + nI a = nI (9 * w + a) by rw [show (9 : Int32) = nI 9 from rfl, n_mul, n_add], n_gd (by omega) (by omega), q_cl (by omega)]
theorem pB_rm {w s : Nat} (hw : w < 512) (hs : s < 9) (hb : w.testBit s = true) : ∀ x, x < 32 → pB (w - 2 ^ s) x = rmP (pB w) s x := fun x hx => tb_rm hw hs hb hx
theorem m_leg {S : zSt} {P : zP} (hP : pOK P) (hM : mPp S P) {h v w a s : Nat} (hw : w < 512) (ha : a < pN P) (hs : s < pN P) (hb : w.testBit s = true) (hsb : sbI w v) {a0 : Nat} (hT : rT S P h v w a0) : f_M_legOfRound (nI w) (nI a) (nI s) S = some (nI (min 1000000 (pD P (pLaw P) a s + rdR (pD P (pLaw P)) (pN P) h (rmP (pB w) s) s))) := by
  have h9 := hP.1
  have hr := set_rm w hw s (by omega) hb
  have hpos := Nat.two_pow_pos s
  have e1 := hT (w - 2 ^ s) s hs (Or.inl (by omega)) (sbI_rm hw (by omega) hb hsb)
  rw [rdR_eq s (fun x hx => pB_rm hw (by omega) hb x (by omega))] at e1
  have hd := hM.1 a s ha hs
  have hle := rdR_le (pD P (pLaw P)) (pN P) h (rmP (pB w) s) s
  have el : f_M_lesser 1000000 (nI (pD P (pLaw P) a s) + nI (rdR (pD P (pLaw P)) (pN P) h (rmP (pB w) s) s)) = some (nI (min 1000000 (pD P (pLaw P) a s + rdR (pD P (pLaw P)) (pN P) h (rmP (pB w) s) s))) := by
    rw [n_add]
    exact lesser_is (a := 1000000) (by omega) (by omega)
  unfold f_M_legOfRound
  rw [qb1 (m_pair (by omega) (by omega)), n_gd (by omega) (by omega), hr.1, qb1 (m_rat S (by omega) (by omega)), q_cl (by omega), hd.1, e1, qb1 el]
theorem mr_62 (fu : Nat) {P : zP} (hP : pOK P) (k2 : Int32 → Int32 → zSt → Option zSt) (k20 : Int32 → Int32 → Int32 → zSt → Option zSt) (g : Int32) {S : zSt} (hm : mRep S 74 0 P) (hM : mPp S P) {h v w a : Nat} (hw : w < 512) (ha : a < pN P) (hsb : sbI w v) (hT : rT S P h v w a) {b : Nat} (hb : b ≤ 1000000) : ∀ (m s n : Nat), s + m = pN P → m + 1 ≤ n → f_M_laysRounds_62 fu k2 k20 n g (nI w) (nI a) (nI (min b (mnF (rdG (pD P (pLaw P)) (pN P) h (pB w) a) s))) (nI s) S = k20 g (nI w) (nI (a + 1)) (zwI S 91 (9 * w + a) (nI (min b (mnF (rdG (pD P (pLaw P)) (pN P) h (pB w) a) (pN P))))) := by
  have h9 := hP.1
  intro m
  induction m with
  | zero =>
    intro s n h1 h2
    obtain ⟨n', rfl⟩ : ∃ n', n = n' + 1 := ⟨n - 1, by omega⟩
    have e : s = pN P := by omega
    rw [e]
    unfold f_M_laysRounds_62
    rw [qb1 (m_many hm), if_pos ((n_le (by omega) (by omega)).mpr (by omega))]
    unfold f_M_laysRounds_101
    rw [show 9 * nI w + nI a = nI (9 * w + a) by rw [show (9 : Int32) = nI 9 from rfl, n_mul, n_add], n_gd (by omega) (by omega), q_cl (by omega), n_1]
  | succ m ih =>
    intro s n h1 h2
    obtain ⟨n', rfl⟩ : ∃ n', n = n' + 1 := ⟨n - 1, by omega⟩
    have hs : s < pN P := by omega
    have g1 := mnF_le (rdG (pD P (pLaw P)) (pN P) h (pB w) a) s
    rw [← ih (s + 1) n' (by omega) (by omega), show mnF (rdG (pD P (pLaw P)) (pN P) h (pB w) a) (s + 1) = min (mnF (rdG (pD P (pLaw P)) (pN P) h (pB w) a) s) (rdG (pD P (pLaw P)) (pN P) h (pB w) a s) from rfl]
    obtain ⟨M, eM⟩ : ∃ M, M = mnF (rdG (pD P (pLaw P)) (pN P) h (pB w) a) s := ⟨_, rfl⟩
    rw [← eM] at g1 ⊢
    obtain ⟨K, eK⟩ : ∃ K, K = f_M_laysRounds_62 fu k2 k20 n' := ⟨_, rfl⟩
    rw [← eK]
    unfold f_M_laysRounds_62
    rw [qb1 (m_many hm), if_neg (fun h => absurd ((n_le (by omega) (by omega)).mp h) (by omega)), qb1 (isIn_is (nI w) s), inS_n w (by omega), ← eK, n_1]
    cases e : w.testBit s with
    | false =>
      have : rdG (pD P (pLaw P)) (pN P) h (pB w) a s = 1000000 := by
        unfold rdG
        rw [if_neg (show ¬ pB w s = true by unfold pB; rw [e]; decide)]
      rw [if_pos (show b2 false = 0 from rfl), this, Nat.min_eq_left g1]
    | true =>
      have hle := rdR_le (pD P (pLaw P)) (pN P) h (rmP (pB w) s) s
      have hd := (hM.1 a s ha hs).2
      have e1 : rdG (pD P (pLaw P)) (pN P) h (pB w) a s = pD P (pLaw P) a s + rdR (pD P (pLaw P)) (pN P) h (rmP (pB w) s) s := by
        unfold rdG
        rw [if_pos (show pB w s = true from e)]
      rw [if_neg (show ¬ b2 true = 0 by decide), qb1 (m_leg hP hM hw ha hs e hsb hT), qb1 (lesser_is (by omega) (by omega)), e1]
      congr 2
      omega
theorem rT_next {S : zSt} {P : zP} {h v w a : Nat} (h9 : pN P ≤ 9) (hT : rT S P h v w a) (ha : a < pN P) {u : Nat} (hu : u = rdR (pD P (pLaw P)) (pN P) h (pB w) a) : rT (zwI S 91 (9 * w + a) (nI u)) P h v w (a + 1) := fun w' a' ha' hor hsb => by
  by_cases e : w' = w ∧ a' = a
  · rw [e.1, e.2, qIIs, hu]
  · rw [qIIo _ _ (by omega)]
    exact hT w' a' ha' (by omega) hsb
theorem mr_20 (fu : Nat) (hfu : 100 ≤ fu) {P : zP} (hP : pOK P) (k2 : Int32 → Int32 → zSt → Option zSt) (g : Int32) {v w : Nat} (hw : w < 2 ^ pN P) (hsb : sbI w v) : ∀ (m a n : Nat) (S : zSt), a + m = pN P → m + 1 ≤ n → mRep S 74 0 P → mPp S P → pAt P < pN P → rT S P (pAt P) v w a → ∃ S', f_M_laysRounds_20 fu k2 n g (nI w) (nI a) S = k2 g (nI (w + 1)) S' ∧ oR 91 S S' ∧ rT S' P (pAt P) v (w + 1) 0 := by
  have h9 := hP.1
  have h2p := pow_le9 (pN P) h9
  intro m
  induction m with
  | zero =>
    intro a n S h1 h2 hm hM hat hT
    obtain ⟨n', rfl⟩ : ∃ n', n = n' + 1 := ⟨n - 1, by omega⟩
    refine ⟨S, ?_, oR_r _ S, fun w' a' ha' hor hsb => hT w' a' ha' (by omega) hsb⟩
    unfold f_M_laysRounds_20
    rw [qb1 (m_many hm), if_pos ((n_le (by omega) (by omega)).mpr (by omega)), n_1]
  | succ m ih =>
    intro a n S h1 h2 hm hM hat hT
    obtain ⟨n', rfl⟩ : ∃ n', n = n' + 1 := ⟨n - 1, by omega⟩
    have ha : a < pN P := by omega
    obtain ⟨u, eu⟩ : ∃ u, u = rdR (pD P (pLaw P)) (pN P) (pAt P) (pB w) a := ⟨_, rfl⟩
    have o1 : oR 91 S (zwI S 91 (9 * w + a) (nI u)) := oR_w _ _ _ _
    have c1 : zCo S (zwI S 91 (9 * w + a) (nI u)) := oR_co o1 (fun k => by unfold scI; omega)
    have hM1 : mPp (zwI S 91 (9 * w + a) (nI u)) P := ⟨fun x y hx hy => by rw [o1.2 90 _ (by omega)]; exact hM.1 x y hx hy, fun x y hx hy => by rw [o1.2 89 _ (by omega)]; exact hM.2 x y hx hy⟩
    obtain ⟨S1, g1, g2, g3⟩ := ih (a + 1) n' _ (by omega) (by omega) (mRep_co hm c1 (Or.inl rfl) hP) hM1 hat (rT_next h9 hT ha eu)
    refine ⟨S1, ?_, oR_t o1 g2, g3⟩
    rw [← g1]
    have fin : ∀ b, b ≤ 1000000 → min b (mnF (rdG (pD P (pLaw P)) (pN P) (pAt P) (pB w) a) (pN P)) = u → f_M_laysRounds_62 fu k2 (f_M_laysRounds_20 fu k2 n') fu g (nI w) (nI a) (nI b) 0 S = f_M_laysRounds_20 fu k2 n' g (nI w) (nI (a + 1)) (zwI S 91 (9 * w + a) (nI u)) := fun b hb he => by
      have := mr_62 fu hP k2 (f_M_laysRounds_20 fu k2 n') g hm hM (by omega : w < 512) ha hsb hT hb (pN P) 0 fu (by omega) (by omega)
      rw [he, show mnF (rdG (pD P (pLaw P)) (pN P) (pAt P) (pB w) a) 0 = 1000000 from rfl, Nat.min_eq_left hb] at this
      exact this
    have e74 : zI S 74 0 = nI (pAt P) := hm.2.2.2.2.2.1
    rw [show f_M_laysRounds_20 fu k2 (n' + 1) g (nI w) (nI a) S = zb1 (f_M_springMany S) (fun r2 => if r2 ≤ nI a then k2 g (nI w + 1) S else if nI w = 0 then zb1 (f_M_pairAt (nI a) (zI S 74 (0 : Int32).toNatClampNeg)) (fun r6 => zgd (0 ≤ r6 ∧ r6.toNatClampNeg < 81) (zb1 (f_M_lesser 1000000 (zI S 90 r6.toNatClampNeg)) (fun r9 => f_M_laysRounds_62 fu k2 (f_M_laysRounds_20 fu k2 n') fu g (nI w) (nI a) r9 0 S))) else f_M_laysRounds_62 fu k2 (f_M_laysRounds_20 fu k2 n') fu g (nI w) (nI a) 1000000 0 S) from rfl, qb1 (m_many hm), if_neg (fun h => absurd ((n_le (by omega) (by omega)).mp h) (by omega))]
    have hz : nI w = 0 ↔ cdP (pB w) (pN P) = 0 := nI_z (v := w) (by omega) h9 hw
    by_cases h0 : nI w = 0
    · have hc := cdP_0.mp (hz.mp h0)
      have hle := (hM.1 a (pAt P) ha hat).2
      have el : f_M_lesser 1000000 (nI (pD P (pLaw P) a (pAt P))) = some (nI (min 1000000 (pD P (pLaw P) a (pAt P)))) := lesser_is (a := 1000000) (by omega) (by omega)
      rw [if_pos h0, show (0 : Int32).toNatClampNeg = 0 from rfl, e74, qb1 (m_pair (by omega) (by omega)), n_gd (by omega) (by omega), q_cl (by omega), (hM.1 a (pAt P) ha hat).1, qb1 el]
      refine fin _ (by omega) ?_
      rw [eu, rdR_0 a hc]
      have : mnF (rdG (pD P (pLaw P)) (pN P) (pAt P) (pB w) a) (pN P) = 1000000 := by
        rcases mnF_or (rdG (pD P (pLaw P)) (pN P) (pAt P) (pB w) a) (pN P) with h3 | ⟨c, hcn, h3⟩
        · exact h3
        · rw [h3]
          unfold rdG
          rw [if_neg (show ¬ pB w c = true from fun h => by have := hc c hcn; rw [h] at this; cases this)]
      omega
    · rw [if_neg h0]
      refine fin 1000000 (by omega) ?_
      rw [eu, rdR_s a (fun h => h0 (hz.mpr h))]
      exact Nat.min_eq_right (mnF_le _ _)
theorem mr_2 (fu : Nat) (hfu : 1000 ≤ fu) {P : zP} (hP : pOK P) (hat : pAt P < pN P) {v : Nat} (hv : v < 2 ^ pN P) : ∀ (m w n : Nat) (S : zSt), w + m = v + 1 → m + 1 ≤ n → mRep S 74 0 P → mPp S P → rT S P (pAt P) v w 0 → ∃ S', f_M_laysRounds_2 fu n (nI v) (nI w) S = some S' ∧ oR 91 S S' ∧ rT S' P (pAt P) v (v + 1) 0 := by
  have h9 := hP.1
  have h2p := pow_le9 (pN P) h9
  intro m
  induction m with
  | zero =>
    intro w n S h1 h2 hm hM hT
    obtain ⟨n', rfl⟩ : ∃ n', n = n' + 1 := ⟨n - 1, by omega⟩
    refine ⟨S, ?_, oR_r _ S, by rw [← show w = v + 1 by omega]; exact hT⟩
    unfold f_M_laysRounds_2
    rw [if_pos ((n_lt (by omega) (by omega)).mpr (by omega))]
  | succ m ih =>
    intro w n S h1 h2 hm hM hT
    obtain ⟨n', rfl⟩ : ∃ n', n = n' + 1 := ⟨n - 1, by omega⟩
    have st : ∃ S0, f_M_laysRounds_2 fu (n' + 1) (nI v) (nI w) S = f_M_laysRounds_2 fu n' (nI v) (nI (w + 1)) S0 ∧ oR 91 S S0 ∧ rT S0 P (pAt P) v (w + 1) 0 := by
      by_cases hs : sbI w v
      · obtain ⟨S0, s1, s2, s3⟩ := mr_20 fu (by omega) hP (f_M_laysRounds_2 fu n') (nI v) (by omega : w < 2 ^ pN P) hs (pN P) 0 fu S (by omega) (by omega) hm hM hat hT
        refine ⟨S0, ?_, s2, s3⟩
        rw [← s1]
        unfold sbI at hs
        rw [show f_M_laysRounds_2 fu (n' + 1) (nI v) (nI w) S = if nI v < nI w then some S else if (nI w &&& (nI v ^^^ (-1 : Int32))) = 0 then f_M_laysRounds_20 fu (f_M_laysRounds_2 fu n') fu (nI v) (nI w) 0 S else f_M_laysRounds_2 fu n' (nI v) (nI w + 1) S from rfl, if_neg (fun h => absurd ((n_lt (by omega) (by omega)).mp h) (by omega)), if_pos hs]
        rfl
      · refine ⟨S, ?_, oR_r _ S, fun w' a' ha' hor hsb => ?_⟩
        · have hs' := hs
          unfold sbI at hs'
          rw [show f_M_laysRounds_2 fu (n' + 1) (nI v) (nI w) S = if nI v < nI w then some S else if (nI w &&& (nI v ^^^ (-1 : Int32))) = 0 then f_M_laysRounds_20 fu (f_M_laysRounds_2 fu n') fu (nI v) (nI w) 0 S else f_M_laysRounds_2 fu n' (nI v) (nI w + 1) S from rfl, if_neg (fun h => absurd ((n_lt (by omega) (by omega)).mp h) (by omega)), if_neg hs', n_1]
        · by_cases e : w' = w
          · rw [e] at hsb; exact absurd hsb hs
          · exact hT w' a' ha' (by omega) hsb
    obtain ⟨S0, s1, s2, s3⟩ := st
    have c0 : zCo S S0 := oR_co s2 (fun k => by unfold scI; omega)
    obtain ⟨S1, g1, g2, g3⟩ := ih (w + 1) n' S0 (by omega) (by omega) (mRep_co hm c0 (Or.inl rfl) hP) ⟨fun x y hx hy => by rw [s2.2 90 _ (by omega)]; exact hM.1 x y hx hy, fun x y hx hy => by rw [s2.2 89 _ (by omega)]; exact hM.2 x y hx hy⟩ s3
    exact ⟨S1, s1.trans g1, oR_t s2 g2, g3⟩
theorem mr_111 (fu : Nat) {P : zP} (hP : pOK P) {S : zSt} (hM : mPp S P) {h v w a : Nat} (hw : w < 512) (ha : a < pN P) (hsb : sbI w v) (hwv : w ≤ v) (hT : rT S P h v (v + 1) 0) (k : Int32 → Int32 → Int32 → Int32 → zSt → Option (Int32 × zSt)) (x q : Int32) (hne : ¬ cdP (pB w) (pN P) = 0) (hlt : rdR (pD P (pLaw P)) (pN P) h (pB w) a < 1000000) : ∀ (m s n : Nat), s + m = rdN (pD P (pLaw P)) (pN P) h (pB w) a → m + 1 ≤ n → f_M_round_111 fu k n x (nI w) (nI a) q (nI s) S = f_M_round_145 fu k x (nI w) q (nI (rdN (pD P (pLaw P)) (pN P) h (pB w) a)) S := by
  have h9 := hP.1
  obtain ⟨n1, n2, n3, n4⟩ := rdN_is hne hlt
  have hT' : rT S P h v w a := fun w' a' ha' hor hsb' => hT w' a' ha' (by omega) hsb'
  have eR : f_M_roundAt (nI w) (nI a) S = some (nI (rdR (pD P (pLaw P)) (pN P) h (pB w) a)) := by
    rw [m_rat S hw (by omega), hT w a ha (Or.inl (by omega)) hsb]
  intro m
  induction m with
  | zero =>
    intro s n h1 h2
    obtain ⟨n', rfl⟩ : ∃ n', n = n' + 1 := ⟨n - 1, by omega⟩
    have e : s = rdN (pD P (pLaw P)) (pN P) h (pB w) a := by omega
    rw [← e] at n1 n2 n3 ⊢
    unfold f_M_round_111
    rw [qb1 (isIn_is (nI w) s), inS_n w (by omega), show w.testBit s = true from n2, if_neg (show ¬ b2 true = 0 by decide), qb1 (m_leg hP hM hw ha n1 n2 hsb hT'), qb1 eR, if_pos (by rw [n3, Nat.min_eq_right (by omega)])]
  | succ m ih =>
    intro s n h1 h2
    obtain ⟨n', rfl⟩ : ∃ n', n = n' + 1 := ⟨n - 1, by omega⟩
    have hs : s < pN P := by omega
    rw [← ih (s + 1) n' (by omega) (by omega)]
    obtain ⟨K, eK⟩ : ∃ K, K = f_M_round_111 fu k n' := ⟨_, rfl⟩
    rw [← eK]
    unfold f_M_round_111
    rw [qb1 (isIn_is (nI w) s), inS_n w (by omega), ← eK, n_1]
    cases e : w.testBit s with
    | false => rw [if_pos (show b2 false = 0 from rfl)]
    | true =>
      have hno := n4 s (by omega)
      have hle := rdR_le (pD P (pLaw P)) (pN P) h (rmP (pB w) s) s
      have hd := (hM.1 a s ha hs).2
      rw [if_neg (show ¬ b2 true = 0 by decide), qb1 (m_leg hP hM hw ha hs e hsb hT'), qb1 eR, if_neg (fun h => by
        have := (n_eq (by omega) (by omega)).mp h
        exact hno ⟨e, by omega⟩)]
theorem mr_96 (fu : Nat) (hfu : 100 ≤ fu) {P : zP} (hP : pOK P) {S : zSt} (hM : mPp S P) {h v : Nat} (hv : v < 2 ^ pN P) (hT : rT S P h v (v + 1) 0) {i : Nat} (hi : i < 2 ^ 31) : ∀ (c n w a q r : Nat), cdP (pB w) (pN P) = c → c + 2 ≤ n → q + c ≤ 100 → w ≤ v → sbI w v → a < pN P → q + r = i + 1 → rdR (pD P (pLaw P)) (pN P) h (pB w) a < 1000000 → f_M_round_96 fu n (nI i) (nI w) (nI a) (nI q) S = some (ocI (rdW (pD P (pLaw P)) (pN P) h r (pB w) a), S) := by
  have h9 := hP.1
  have h2p := pow_le9 (pN P) h9
  intro c
  induction c with
  | zero =>
    intro n w a q r hc h2 hqc hwv hsb ha hq hlt
    obtain ⟨n', rfl⟩ : ∃ n', n = n' + 1 := ⟨n - 1, by omega⟩
    unfold f_M_round_96
    cases r with
    | zero => rw [if_pos ((n_lt (by omega) (by omega)).mpr (by omega))]; rfl
    | succ r =>
      have hz := (nI_z (v := w) (by omega) h9 (by omega)).mpr hc
      rw [if_neg (fun h => absurd ((n_lt (by omega) (by omega)).mp h) (by omega)), if_pos hz]
      show _ = some (ocI (if cdP (pB w) (pN P) = 0 then none else _), S)
      rw [if_pos hc]
      rfl
  | succ c ih =>
    intro n w a q r hc h2 hqc hwv hsb ha hq hlt
    obtain ⟨n', rfl⟩ : ∃ n', n = n' + 1 := ⟨n - 1, by omega⟩
    cases r with
    | zero =>
      unfold f_M_round_96
      rw [if_pos ((n_lt (by omega) (by omega)).mpr (by omega))]; rfl
    | succ r =>
      have hne : ¬ cdP (pB w) (pN P) = 0 := by omega
      have hz : ¬ nI w = 0 := fun h => hne ((nI_z (v := w) (by omega) h9 (by omega)).mp h)
      obtain ⟨n1, n2, n3, n4⟩ := rdN_is hne hlt
      have e111 := mr_111 fu hP hM (by omega : w < 512) ha hsb hwv hT (f_M_round_96 fu n') (nI i) (nI q) hne hlt (rdN (pD P (pLaw P)) (pN P) h (pB w) a) 0 fu (by omega) (by omega)
      obtain ⟨s, es⟩ : ∃ s, s = rdN (pD P (pLaw P)) (pN P) h (pB w) a := ⟨_, rfl⟩
      have hgoal : rdW (pD P (pLaw P)) (pN P) h (r + 1) (pB w) a = rdW (pD P (pLaw P)) (pN P) h r (rmP (pB w) s) s := by
        show (if cdP (pB w) (pN P) = 0 then none else rdW (pD P (pLaw P)) (pN P) h r (rmP (pB w) (rdN (pD P (pLaw P)) (pN P) h (pB w) a)) (rdN (pD P (pLaw P)) (pN P) h (pB w) a)) = _
        rw [if_neg hne, ← es]
      rw [← es] at e111 n1 n2 n3
      have hb : w.testBit s = true := n2
      have hrm := set_rm w (by omega) s (by omega) hb
      have heq : ∀ x, x < pN P → pB (w - 2 ^ s) x = rmP (pB w) s x := fun x hx => pB_rm (by omega) (by omega) hb x (by omega)
      have hcd := cdP_rm n2 (pN P)
      rw [if_pos n1] at hcd
      have hrec := ih n' (w - 2 ^ s) s (q + 1) r (by rw [cdP_eq heq]; omega) (by omega) (by omega) (Nat.le_trans (Nat.sub_le _ _) hwv) (sbI_rm (by omega) (by omega) hb hsb) n1 (by omega) (by rw [rdR_eq s heq]; omega)
      rw [rdW_eq r _ _ _ heq] at hrec
      rw [hgoal, ← hrec]
      rw [show f_M_round_96 fu (n' + 1) (nI i) (nI w) (nI a) (nI q) S = if nI i < nI q then some (nI a, S) else if nI w = 0 then some (-1, S) else f_M_round_111 fu (f_M_round_96 fu n') fu (nI i) (nI w) (nI a) (nI q) 0 S from rfl, if_neg (fun h => absurd ((n_lt (by omega) (by omega)).mp h) (by omega)), if_neg hz]
      refine Eq.trans e111 ?_
      unfold f_M_round_145
      rw [hrm.1, n_1]

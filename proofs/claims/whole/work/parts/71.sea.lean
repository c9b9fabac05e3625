/-! sea: the class -/
theorem ou_left {S : zSt} {c k : Nat} (hc : c < 9) (hk : k ≤ 9) : f_Ou_leftFrom (nI c) (nI k) S = some (zI S 66 (9 * k + c)) := by
  unfold f_Ou_leftFrom
  have e : nI k * 9 + nI c = nI (9 * k + c) := by rw [show (9 : Int32) = nI 9 from rfl, n_mul, n_add, Nat.mul_comm]
  rw [if_neg (n_neg (by omega)), e, if_neg (n_neg (by omega)), if_neg (show ¬ (90 : Int32) ≤ nI (9 * k + c) from fun h => absurd ((n_le (a := 90) (by omega) (by omega)).mp h) (by omega)), n_gd (by omega) (by omega), q_cl (by omega)]
theorem ou_left_no (c : Int32) (S : zSt) : f_Ou_leftFrom c (nI 0 - 1) S = some 1000000 := by
  unfold f_Ou_leftFrom
  rw [if_pos (show nI 0 - 1 < 0 by decide)]
def shC (P : zP) (a b : Nat) : Bool := decide (a < pN P ∧ b < pN P ∧ ¬ pThr P (pLaw P) a b = pLeg P (pLaw P) a b)
theorem ne_n {P : zP} {a : Nat} (h9 : pN P ≤ 9) (ha : a < 9) (h : pN P ≤ a) : ∀ s, s < pN P → nI a ≠ nI s := fun s hs e => by
  have := (n_eq (by omega) (by omega)).mp e
  omega
theorem pLeg_1 {P : zP} (hP : pOK P) (law : List lC) (a b : Nat) : pLeg P law a b ≤ 1000000 := by
  unfold pLeg
  split
  · omega
  · exact (pThr_1 hP law a b).2
theorem ou_shut {S : zSt} {P : zP} (hP : pOK P) (h : zPp S P (pLaw P)) {a b : Nat} (ha : a < 9) (hb : b < 9) : f_Pa_isShut (nI a) (nI b) S = some (b2 (shC P a b)) := by
  have h9 := hP.1
  unfold f_Pa_isShut
  by_cases h1 : a < pN P
  · rw [qb1 (pa_has hP h.1 h1), if_neg (by decide)]
    by_cases h2 : b < pN P
    · have e := h.2.2 a b h1 h2
      have g1 := (pThr_1 hP (pLaw P) a b).2
      have g2 := pLeg_1 hP (pLaw P) a b
      rw [qb1 (pa_has hP h.1 h2), if_neg (by decide), qb1 (pa_pair ha hb), n_gd (by omega) (by omega), qb1 (pa_pair ha hb), n_gd (by omega) (by omega), q_cl (by omega), e.1, e.2]
      by_cases he : pThr P (pLaw P) a b = pLeg P (pLaw P) a b
      · rw [if_pos (by rw [he]), show shC P a b = false from decide_eq_false (fun h => h.2.2 he)]; rfl
      · rw [if_neg (fun h => he ((n_eq (by omega) (by omega)).mp h)), show shC P a b = true from decide_eq_true ⟨h1, h2, he⟩]; rfl
    · rw [qb1 (pa_hasn hP h.1 (ne_n h9 hb (by omega))), if_pos rfl, show shC P a b = false from decide_eq_false (fun h => h2 h.2.1)]; rfl
  · rw [qb1 (pa_hasn hP h.1 (ne_n h9 ha (by omega))), if_pos rfl, show shC P a b = false from decide_eq_false (fun h => h1 h.1)]; rfl
theorem shC_t {P : zP} {a b : Nat} (h : shC P a b = true) : a < pN P ∧ b < pN P ∧ a ≠ b ∧ pSh P a b = true := by
  have h := of_decide_eq_true h
  refine ⟨h.1, h.2.1, ?_⟩
  refine Classical.byContradiction fun hn => h.2.2 ?_
  have e : pLeg P (pLaw P) a b = pThr P (pLaw P) a b := by
    unfold pLeg
    rw [if_neg hn]
  exact e.symm
theorem shC_f {P : zP} (hP : pOK P) {a b : Nat} (h : shC P a b = false) (hs : pSh P a b = true) : pThr P (pLaw P) a b = 1000000 := by
  have h := of_decide_eq_false h
  by_cases hab : a = b
  · rw [hab]; exact pThr_self P _ b
  by_cases h1 : pN P ≤ a ∨ pN P ≤ b
  · exact pThr_out hP _ h1
  have e : pLeg P (pLaw P) a b = 1000000 := by
    unfold pLeg
    rw [if_pos ⟨hab, hs⟩]
  refine Classical.byContradiction fun hn => h ⟨by omega, by omega, ?_⟩
  rw [e]; exact hn
theorem ou_thr {S : zSt} {P : zP} (hP : pOK P) (h : zPp S P (pLaw P)) {a b : Nat} (ha : a < 9) (hb : b < 9) : f_Pa_daysThrough (nI a) (nI b) S = some (nI (pThr P (pLaw P) a b)) := by
  have h9 := hP.1
  unfold f_Pa_daysThrough
  by_cases h1 : a < pN P
  · rw [qb1 (pa_has hP h.1 h1), if_neg (by decide)]
    by_cases h2 : b < pN P
    · rw [qb1 (pa_has hP h.1 h2), if_neg (by decide), qb1 (pa_pair ha hb), n_gd (by omega) (by omega), q_cl (by omega), (h.2.2 a b h1 h2).1]
    · rw [qb1 (pa_hasn hP h.1 (ne_n h9 hb (by omega))), if_pos rfl, pThr_out hP _ (Or.inr (by omega))]; rfl
  · rw [qb1 (pa_hasn hP h.1 (ne_n h9 ha (by omega))), if_pos rfl, pThr_out hP _ (Or.inl (by omega))]; rfl
/-- levels below k are told, level k is V -/
def oRow (S : zSt) (r n : Nat) (T : Nat → Nat → Nat) (V : Nat → Nat) (k : Nat) : Prop := (∀ j, j < k → ∀ c, c < n → zI S r (9 * j + c) = nI (T j c)) ∧ ∀ c, c < n → zI S r (9 * k + c) = nI (V c)
theorem ou_by {S : zSt} {P : zP} (hP : pOK P) (h : zPp S P (pLaw P)) {T : Nat → Nat → Nat} {V : Nat → Nat} {k : Nat} (hk : k ≤ 9) (hT : ∀ j c, T j c ≤ 1000000) (hR : oRow S 66 9 T V k) (hV : ∀ c, c < 9 → V c ≤ 1000000) {s c : Nat} (hs : s < 9) (hc : c < 9) :
    ∃ v, f_Ou_daysBy (nI s) (nI c) (nI k) S = some (nI v) ∧ v ≤ 2000000 ∧ (v = by1 P (xU T k) V s c ∨ (1000000 ≤ v ∧ 1000000 ≤ by1 P (xU T k) V s c)) := by
  have g1 := (pThr_1 hP (pLaw P) s c).2
  unfold f_Ou_daysBy
  rw [qb1 (ou_shut hP h hs hc)]
  cases e : shC P s c with
  | false =>
    have hv := hV c hc
    refine ⟨pThr P (pLaw P) s c + V c, ?_, by omega, ?_⟩
    · rw [if_pos (show b2 false = 0 from rfl), qb1 (ou_thr hP h hs hc), qb1 (ou_left hc hk), hR.2 c hc, n_add]
    · unfold by1
      by_cases hsh : pSh P s c = true
      · rw [if_pos hsh, shC_f hP e hsh]
        exact Or.inr ⟨by omega, by omega⟩
      · rw [if_neg hsh]
        exact Or.inl rfl
  | true =>
    have ht := shC_t e
    rw [if_neg (show ¬ b2 true = 0 by decide), qb1 (ou_thr hP h hs hc)]
    by_cases h0 : k = 0
    · refine ⟨pThr P (pLaw P) s c + 1000000, ?_, by omega, Or.inl ?_⟩
      · rw [h0, qb1 (ou_left_no _ S), show (1000000 : Int32) = nI 1000000 from rfl, n_add]
      · unfold by1 xU
        rw [if_pos ht.2.2.2, if_pos h0]
    · obtain ⟨k', rfl⟩ : ∃ k', k = k' + 1 := ⟨k - 1, by omega⟩
      have hv := hT k' c
      refine ⟨pThr P (pLaw P) s c + T k' c, ?_, by omega, Or.inl ?_⟩
      · rw [show nI (k' + 1) - 1 = nI k' by rw [show (1 : Int32) = nI 1 from rfl, n_sub (by omega), Nat.add_sub_cancel], qb1 (ou_left hc (by omega)), hR.1 k' (by omega) c hc, n_add]
      · unfold by1 xU
        rw [if_pos ht.2.2.2, if_neg (by omega), Nat.add_sub_cancel]
/-- only level k of row r may have changed -/
def oK (r k : Nat) (S S' : zSt) : Prop := S'.2 = S.2 ∧ ∀ j i, ¬ (j = r ∧ 9 * k ≤ i ∧ i < 9 * k + 9) → zI S' j i = zI S j i
theorem oK_r (r k : Nat) (S : zSt) : oK r k S S := ⟨rfl, fun _ _ _ => rfl⟩
theorem oK_t {r k : Nat} {S S' S'' : zSt} (h : oK r k S S') (h2 : oK r k S' S'') : oK r k S S'' := ⟨h2.1.trans h.1, fun j i a => (h2.2 j i a).trans (h.2 j i a)⟩
theorem oK_w (r k : Nat) (S : zSt) {x : Nat} (v : Int32) (hx : x < 9) : oK r k S (zwI S r (9 * k + x) v) := ⟨rfl, fun j i a => qIIo _ _ (fun e => a ⟨e.1, by omega, by omega⟩)⟩
theorem oK_o {r k : Nat} {S S' : zSt} (h : oK r k S S') {j : Nat} (hj : j ≠ r) : zI S' j = zI S j := funext fun i => h.2 j i (fun e => hj e.1)
theorem oK_oR {r k : Nat} {S S' : zSt} (h : oK r k S S') : oR r S S' := ⟨h.1, fun j i hj => h.2 j i (fun e => hj e.1)⟩
theorem upV_self (V : Nat → Nat) (s : Nat) : upV V s (V s) = V := by
  funext x
  unfold upV
  by_cases e : x = s
  · rw [if_pos e, e]
  · rw [if_neg e]
theorem oRow_w {S : zSt} {r n : Nat} (hn : n ≤ 9) {T : Nat → Nat → Nat} {V : Nat → Nat} {k s v : Nat} (h : oRow S r n T V k) (hs : s < n) : oRow (zwI S r (9 * k + s) (nI v)) r n T (upV V s v) k := by
  refine ⟨fun j hj c hc => ?_, fun c hc => ?_⟩
  · rw [qIIo _ _ (by omega)]; exact h.1 j hj c hc
  · unfold upV
    by_cases e : c = s
    · rw [if_pos e, e, qIIs]
    · rw [if_neg e, qIIo _ _ (by omega)]; exact h.2 c hc
def oI (P : zP) (V : Nat → Nat) : Prop := ∀ x, x < 9 → V x ≤ 1000000 ∧ (pN P ≤ x → V x = 1000000)
theorem sho_11 (fu : Nat) {P : zP} (hP : pOK P) {T : Nat → Nat → Nat} {k r : Nat} (hk : k ≤ 9) (hT : ∀ j c, T j c ≤ 1000000) (hF : sF P (xU T k) (T k)) (k2 : Int32 → Int32 → zSt → Option zSt) {s : Nat} (hs : s < 9) : ∀ (m c n : Nat) (S : zSt) (V : Nat → Nat), c + m = 9 → m + 1 ≤ n → zPp S P (pLaw P) → oRow S 66 9 T V k → oI P V → gM P (xU T k) (T k) V r s c → ∃ S' V', f_Ou_shorten_11 fu k2 n (nI k) (nI s) (nI c) S = k2 (nI k) (nI (s + 1)) S' ∧ oK 66 k S S' ∧ oRow S' 66 9 T V' k ∧ oI P V' ∧ gM P (xU T k) (T k) V' r s 9 := by
  have h9 := hP.1
  intro m
  induction m with
  | zero =>
    intro c n S V h1 h2 hp hR hI hg
    obtain ⟨n', rfl⟩ : ∃ n', n = n' + 1 := ⟨n - 1, by omega⟩
    refine ⟨S, V, ?_, oK_r _ _ S, hR, hI, by rw [← show c = 9 by omega]; exact hg⟩
    unfold f_Ou_shorten_11
    rw [if_pos (show (9 : Int32) ≤ nI c from (n_le (a := 9) (by omega) (by omega)).mpr (by omega)), n_1]
  | succ m ih =>
    intro c n S V h1 h2 hp hR hI hg
    obtain ⟨n', rfl⟩ : ∃ n', n = n' + 1 := ⟨n - 1, by omega⟩
    have hc : c < 9 := by omega
    obtain ⟨K, eK⟩ : ∃ K, K = f_Ou_shorten_11 fu k2 n' := ⟨_, rfl⟩
    have st : ∃ S0 V0, f_Ou_shorten_11 fu k2 (n' + 1) (nI k) (nI s) (nI c) S = K (nI k) (nI s) (nI (c + 1)) S0 ∧ oK 66 k S S0 ∧ oRow S0 66 9 T V0 k ∧ oI P V0 ∧ gM P (xU T k) (T k) V0 r s (c + 1) := by
      obtain ⟨v, e1, hv, hor⟩ := ou_by hP hp hk hT hR (fun c hc => (hI c hc).1) hs hc
      have hVs := hI s hs
      have e9 : nI k * 9 + nI s = nI (9 * k + s) := by rw [show (9 : Int32) = nI 9 from rfl, n_mul, n_add, Nat.mul_comm]
      unfold f_Ou_shorten_11
      rw [if_neg (show ¬ (9 : Int32) ≤ nI c from fun h => absurd ((n_le (a := 9) (by omega) (by omega)).mp h) (by omega)), qb1 e1, e9, n_gd (by omega) (by omega), q_cl (by omega), hR.2 s hs, ← eK, n_1]
      by_cases hle : V s ≤ v
      · rw [if_pos ((n_le (by omega) (by omega)).mpr hle)]
        refine ⟨S, V, rfl, oK_r _ _ S, hR, hI, ?_⟩
        by_cases hin : s < pN P ∧ c < pN P
        · have := gM_step hP hF hg hin.1 hin.2
          have e : min (V s) (by1 P (xU T k) V s c) = V s := by omega
          rw [e, upV_self] at this
          exact this
        · exact ⟨hg.1, hg.2.1, hg.2.2.1, fun a y hy hyc ho => hg.2.2.2 a y hy (by omega) ho⟩
      · rw [if_neg (fun h => hle ((n_le (by omega) (by omega)).mp h)), qgd ⟨n_0 (by omega), by omega⟩]
        have ev : v = by1 P (xU T k) V s c := by omega
        have hin : s < pN P ∧ c < pN P := by
          refine Classical.byContradiction fun hn => ?_
          have : pThr P (pLaw P) s c = 1000000 := pThr_out hP _ (by omega)
          unfold by1 at ev
          omega
        refine ⟨_, upV V s v, rfl, oK_w _ _ _ _ hs, oRow_w (by omega) hR hs, fun x hx => ?_, ?_⟩
        · unfold upV
          by_cases e : x = s
          · rw [if_pos e]; exact ⟨by omega, fun h => by omega⟩
          · rw [if_neg e]; exact hI x hx
        · have := gM_step hP hF hg hin.1 hin.2
          have e : min (V s) (by1 P (xU T k) V s c) = v := by omega
          rw [e] at this
          exact this
    obtain ⟨S0, V0, s1, s2, s3, s4, s5⟩ := st
    obtain ⟨S1, V1, g1, g2, g3, g4, g5⟩ := ih (c + 1) n' S0 V0 (by omega) (by omega) (zPp_f hp (fun j a b => oK_o s2 (by omega))) s3 s4 s5
    rw [eK] at s1
    exact ⟨S1, V1, s1.trans g1, oK_t s2 g2, g3, g4, g5⟩
theorem sho_2 (fu : Nat) (hfu : 100 ≤ fu) {P : zP} (hP : pOK P) {T : Nat → Nat → Nat} {k r : Nat} (hk : k ≤ 9) (hT : ∀ j c, T j c ≤ 1000000) (hF : sF P (xU T k) (T k)) : ∀ (m s n : Nat) (S : zSt) (V : Nat → Nat), s + m = 9 → m + 1 ≤ n → zPp S P (pLaw P) → oRow S 66 9 T V k → oI P V → gM P (xU T k) (T k) V r s 0 → ∃ S' V', f_Ou_shorten_2 fu n (nI k) (nI s) S = some S' ∧ oK 66 k S S' ∧ oRow S' 66 9 T V' k ∧ oI P V' ∧ gM P (xU T k) (T k) V' r 9 0 := by
  have h9 := hP.1
  intro m
  induction m with
  | zero =>
    intro s n S V h1 h2 hp hR hI hg
    obtain ⟨n', rfl⟩ : ∃ n', n = n' + 1 := ⟨n - 1, by omega⟩
    refine ⟨S, V, ?_, oK_r _ _ S, hR, hI, by rw [← show s = 9 by omega]; exact hg⟩
    unfold f_Ou_shorten_2
    rw [if_pos (show (9 : Int32) ≤ nI s from (n_le (a := 9) (by omega) (by omega)).mpr (by omega))]
  | succ m ih =>
    intro s n S V h1 h2 hp hR hI hg
    obtain ⟨n', rfl⟩ : ∃ n', n = n' + 1 := ⟨n - 1, by omega⟩
    obtain ⟨S0, V0, s1, s2, s3, s4, s5⟩ := sho_11 fu hP hk hT hF (f_Ou_shorten_2 fu n') (by omega : s < 9) 9 0 fu S V (by omega) (by omega) hp hR hI hg
    obtain ⟨S1, V1, g1, g2, g3, g4, g5⟩ := ih (s + 1) n' S0 V0 (by omega) (by omega) (zPp_f hp (fun j a b => oK_o s2 (by omega))) s3 s4 (gM_row hP hF s5 h9)
    refine ⟨S1, V1, ?_, oK_t s2 g2, g3, g4, g5⟩
    rw [← g1]
    refine Eq.trans ?_ s1
    rw [show f_Ou_shorten_2 fu (n' + 1) (nI k) (nI s) S = if (9 : Int32) ≤ nI s then some S else f_Ou_shorten_11 fu (f_Ou_shorten_2 fu n') fu (nI k) (nI s) 0 S from rfl, if_neg (show ¬ (9 : Int32) ≤ nI s from fun h => absurd ((n_le (a := 9) (by omega) (by omega)).mp h) (by omega))]
    rfl
theorem sho_48 (fu : Nat) (hfu : 100 ≤ fu) {P : zP} (hP : pOK P) {T : Nat → Nat → Nat} {k : Nat} (hk : k ≤ 9) (hT : ∀ j c, T j c ≤ 1000000) (hF : sF P (xU T k) (T k)) (k27 : Int32 → zSt → Option zSt) : ∀ (m r n : Nat) (S : zSt) (V : Nat → Nat), r + m = 9 → m + 1 ≤ n → zPp S P (pLaw P) → oRow S 66 9 T V k → oI P V → gM P (xU T k) (T k) V r 0 0 → ∃ S' V', f_Ou_fill_48 fu k27 n (nI k) (nI r) S = k27 (nI (k + 1)) S' ∧ oK 66 k S S' ∧ oRow S' 66 9 T V' k ∧ oI P V' ∧ gM P (xU T k) (T k) V' 9 0 0 := by
  have h9 := hP.1
  intro m
  induction m with
  | zero =>
    intro r n S V h1 h2 hp hR hI hg
    obtain ⟨n', rfl⟩ : ∃ n', n = n' + 1 := ⟨n - 1, by omega⟩
    refine ⟨S, V, ?_, oK_r _ _ S, hR, hI, by rw [← show r = 9 by omega]; exact hg⟩
    unfold f_Ou_fill_48
    rw [if_pos (show (9 : Int32) ≤ nI r from (n_le (a := 9) (by omega) (by omega)).mpr (by omega)), n_1]
  | succ m ih =>
    intro r n S V h1 h2 hp hR hI hg
    obtain ⟨n', rfl⟩ : ∃ n', n = n' + 1 := ⟨n - 1, by omega⟩
    obtain ⟨S0, V0, s1, s2, s3, s4, s5⟩ := sho_2 fu hfu hP hk hT hF 9 0 fu S V (by omega) (by omega) hp hR hI hg
    obtain ⟨S1, V1, g1, g2, g3, g4, g5⟩ := ih (r + 1) n' S0 V0 (by omega) (by omega) (zPp_f hp (fun j a b => oK_o s2 (by omega))) s3 s4 (gM_round s5 h9)
    refine ⟨S1, V1, ?_, oK_t s2 g2, g3, g4, g5⟩
    rw [← g1]
    have s1' : f_Ou_shorten fu (nI k) S = some S0 := s1
    rw [show f_Ou_fill_48 fu k27 (n' + 1) (nI k) (nI r) S = if (9 : Int32) ≤ nI r then k27 (nI k + 1) S else zb1 (f_Ou_shorten fu (nI k) S) (fun S3 => f_Ou_fill_48 fu k27 n' (nI k) (nI r + 1) S3) from rfl, if_neg (show ¬ (9 : Int32) ≤ nI r from fun h => absurd ((n_le (a := 9) (by omega) (by omega)).mp h) (by omega)), qb1 s1', n_1]
/-- all levels from k on are far -/
def oFar (S : zSt) (k : Nat) : Prop := ∀ j c, k ≤ j → j < 10 → c < 9 → zI S 66 (9 * j + c) = 1000000
theorem sho_27 (fu : Nat) (hfu : 100 ≤ fu) {P : zP} (hP : pOK P) (hn : 0 < pN P) {T : Nat → Nat → Nat} (hT : ∀ j c, T j c ≤ 1000000) (hF : ∀ k, sF P (xU T k) (T k)) {K : Nat} (hK : K ≤ 9) : ∀ (m k n : Nat) (S : zSt), k + m = K + 1 → m + 1 ≤ n → zPp S P (pLaw P) → zI S 65 1 = nI K → (∀ j, j < k → ∀ c, c < 9 → zI S 66 (9 * j + c) = nI (T j c)) → oFar S k → ∃ S', f_Ou_fill_27 fu n (nI k) S = some S' ∧ oR 66 S S' ∧ (∀ j, j < K + 1 → ∀ c, c < 9 → zI S' 66 (9 * j + c) = nI (T j c)) := by
  have h9 := hP.1
  intro m
  induction m with
  | zero =>
    intro k n S h1 h2 hp hK1 hR hfar
    obtain ⟨n', rfl⟩ : ∃ n', n = n' + 1 := ⟨n - 1, by omega⟩
    refine ⟨S, ?_, oR_r _ S, by rw [← show k = K + 1 by omega]; exact hR⟩
    unfold f_Ou_fill_27
    rw [hK1, if_pos ((n_lt (by omega) (by omega)).mpr (by omega))]
  | succ m ih =>
    intro k n S h1 h2 hp hK1 hR hfar
    obtain ⟨n', rfl⟩ : ∃ n', n = n' + 1 := ⟨n - 1, by omega⟩
    have hk : k ≤ 9 := by omega
    have R0 : oRow (zwI S 66 (9 * k + 0) (nI 0)) 66 9 T (fun x => if x = 0 then 0 else 1000000) k := by
      have := oRow_w (r := 66) (Nat.le_refl 9) (V := fun _ => 1000000) (s := 0) (v := 0) (k := k) (T := T) (S := S) ⟨hR, fun c hc => hfar k c (by omega) (by omega) hc⟩ (by omega)
      exact this
    have I0 : oI P (fun x => if x = 0 then 0 else 1000000) := fun x hx => by
      show (if x = 0 then 0 else 1000000) ≤ 1000000 ∧ (pN P ≤ x → (if x = 0 then 0 else 1000000) = 1000000)
      by_cases e : x = 0
      · rw [if_pos e]; exact ⟨by omega, fun h => by omega⟩
      · rw [if_neg e]; exact ⟨by omega, fun _ => rfl⟩
    obtain ⟨S0, V0, s1, s2, s3, s4, s5⟩ := sho_48 fu hfu hP hk hT (hF k) (f_Ou_fill_27 fu n') 9 0 fu (zwI S 66 (9 * k + 0) (nI 0)) _ (by omega) (by omega) (zPp_f hp (fun j a b => oK_o (oK_w 66 k S (x := 0) (nI 0) (by omega)) (by omega))) R0 I0 (gM_init hP (hF k) hn)
    have k0 := oK_t (oK_w 66 k S (x := 0) (nI 0) (by omega)) s2
    have hV : ∀ c, c < 9 → V0 c = T k c := fun c hc => by
      by_cases hcn : c < pN P
      · exact gM_end s5 (by omega) hcn
      · rw [(s4 c hc).2 (by omega), sF_out hP (hF k) hc (by omega) (by omega)]
    obtain ⟨S1, g1, g2, g3⟩ := ih (k + 1) n' S0 (by omega) (by omega) (zPp_f hp (fun j a b => oK_o k0 (by omega))) (by rw [oK_o k0 (by omega)]; exact hK1) (fun j hj c hc => by
      by_cases e : j = k
      · rw [e, s3.2 c hc, hV c hc]
      · exact s3.1 j (by omega) c hc) (fun j c h1 h2 h3 => by rw [k0.2 66 _ (by omega)]; exact hfar j c (by omega) h2 h3)
    refine ⟨S1, ?_, oR_t (oK_oR k0) g2, g3⟩
    rw [← g1]
    refine Eq.trans ?_ s1
    rw [show f_Ou_fill_27 fu (n' + 1) (nI k) S = if (zI S 65 1) < nI k then some S else zgd (0 ≤ (nI k * 9) ∧ (nI k * 9).toNatClampNeg < 90) (f_Ou_fill_48 fu (f_Ou_fill_27 fu n') fu (nI k) 0 (zwI S 66 (nI k * 9).toNatClampNeg 0)) from rfl, hK1, if_neg (fun h => absurd ((n_lt (by omega) (by omega)).mp h) (by omega)), show nI k * 9 = nI (9 * k + 0) by rw [show (9 : Int32) = nI 9 from rfl, n_mul, Nat.mul_comm, Nat.add_zero], n_gd (by omega) (by omega), q_cl (by omega)]
    rfl
theorem far_fill (fu : Nat) (v : Int32) : ∀ (m i n : Nat) (S : zSt), i + m = 90 → m + 1 ≤ n → zA S 66 = 90 → (∀ x, x < i → zI S 66 x = v) → ∃ S', f_Ar_fillI_5 fu 66 n v (nI i) (nI 90) S = some S' ∧ oR 66 S S' ∧ ∀ x, x < 90 → zI S' 66 x = v := by
  intro m
  induction m with
  | zero =>
    intro i n S h1 h2 hA hx
    obtain ⟨n', rfl⟩ : ∃ n', n = n' + 1 := ⟨n - 1, by omega⟩
    refine ⟨S, ?_, oR_r _ S, by rw [← show i = 90 by omega]; exact hx⟩
    unfold f_Ar_fillI_5
    rw [if_pos ((n_le (by omega) (by omega)).mpr (by omega))]
  | succ m ih =>
    intro i n S h1 h2 hA hx
    obtain ⟨n', rfl⟩ : ∃ n', n = n' + 1 := ⟨n - 1, by omega⟩
    obtain ⟨S1, g1, g2, g3⟩ := ih (i + 1) n' (zwI S 66 i v) (by omega) (by omega) hA (fun x h => by
      by_cases e : x = i
      · rw [e, qIIs]
      · rw [qIIo _ _ (by omega)]; exact hx x (by omega))
    refine ⟨S1, ?_, oR_t (oR_w 66 S i v) g2, g3⟩
    rw [← g1]
    rw [show f_Ar_fillI_5 fu 66 (n' + 1) v (nI i) (nI 90) S = if nI 90 ≤ nI i then some S else zgd (0 ≤ nI i ∧ (nI i).toNatClampNeg < zA S 66) (f_Ar_fillI_5 fu 66 n' v (nI i + 1) (nI 90) (zwI S 66 (nI i).toNatClampNeg v)) from rfl, if_neg (fun h => absurd ((n_le (by omega) (by omega)).mp h) (by omega)), n_gd (by omega) (by rw [hA]; omega), q_cl (by omega), n_1]
theorem ou_fill (fu : Nat) (hfu : 1000 ≤ fu) {P : zP} (hP : pOK P) (hn : 0 < pN P) {S : zSt} (hp : zPp S P (pLaw P)) (hA : zA S 66 = 90) {K : Nat} (hK : K ≤ 9) : ∃ S', f_Ou_fill fu (nI K) S = some S' ∧ zCo S S' ∧ zPp S' P (pLaw P) ∧ zI S' 65 1 = nI K ∧ (∀ j, j < K + 1 → ∀ c, c < 9 → zI S' 66 (9 * j + c) = nI (sT P j c)) := by
  have hT : ∀ j c, sT P j c ≤ 1000000 := fun j c => (sT_ok P j).2.1 c
  have c0 : zCo S (zwI S 65 1 (nI K)) := zCo_w S _ (by unfold scI; omega)
  obtain ⟨S1, e1, f1, g1⟩ := far_fill fu 1000000 90 0 fu (zwI S 65 1 (nI K)) (by omega) (by omega) (by rw [zCo_A c0]; exact hA) (fun x hx => absurd hx (by omega))
  have p1 : zPp S1 P (pLaw P) := zPp_f hp (fun j a b => funext fun i => by rw [f1.2 j i (by omega), qIIo _ _ (by omega)])
  have k1 : zI S1 65 1 = nI K := by rw [f1.2 65 1 (by omega), qIIs]
  obtain ⟨S2, e2, f2, g2⟩ := sho_27 fu (by omega) hP hn hT (sT_ok P) hK (K + 1) 0 fu S1 (by omega) (by omega) p1 k1 (fun j hj => absurd hj (by omega)) (fun j c _ hj hc => g1 _ (by omega))
  have o12 := oR_t f1 f2
  refine ⟨S2, ?_, zCo_t c0 (oR_co o12 (fun k => by unfold scI; omega)), zPp_f p1 (fun j a b => funext fun i => f2.2 j i (by omega)), by rw [f2.2 65 1 (by omega)]; exact k1, g2⟩
  have e1' : f_Ar_fillI fu 66 1000000 (zwI S 65 1 (nI K)) = some S1 := by
    unfold f_Ar_fillI
    rw [show (zA (zwI S 65 1 (nI K)) 66).toInt32 = nI 90 by rw [zCo_A c0, hA]; rfl]
    exact e1
  have e2' : f_Ou_fill_27 fu fu 0 S1 = some S2 := e2
  unfold f_Ou_fill
  by_cases h : (9 : Int32) ≤ nI K
  · have : K = 9 := by have := (n_le (a := 9) (by omega) (by omega)).mp h; omega
    rw [if_pos h]
    rw [this] at e1'
    have e1'' : f_Ar_fillI fu 66 1000000 (zwI S 65 1 9) = some S1 := e1'
    rw [qb1 e1'']
    exact e2'
  · rw [if_neg h, qb1 e1']
    exact e2'

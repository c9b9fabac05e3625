/-! the reference's parish is asked -/
theorem lies_yes {v lo hi : Nat} (h1 : lo ≤ v) (h2 : v ≤ hi) (hhi : hi < 2 ^ 31) : f_M_lies (nI v) (nI lo) (nI hi) = some 1 := by
  rw [m_lies, if_pos ⟨(n_le (by omega) (by omega)).mpr h1, (n_le (by omega) hhi).mpr h2⟩]
theorem lies_no {x : Int32} {lo hi : Nat} (hlo : lo < 2 ^ 31) (hhi : hi < 2 ^ 31) (h : ∀ v, lo ≤ v → v ≤ hi → x ≠ nI v) : f_M_lies x (nI lo) (nI hi) = some 0 := by
  rw [m_lies, if_neg]
  rintro ⟨h1, h2⟩
  rw [q_le, q_nI hlo] at h1
  rw [q_le, q_nI hhi] at h2
  obtain ⟨v, rfl, hv, hb⟩ := q_ex (a := x) (by omega)
  exact h v (by omega) (by omega) rfl
section MGT
variable {S : zSt} {P : zP}
theorem m_many (h : mRep S 74 0 P) : f_M_springMany S = some (nI (pN P)) := by
  have := h.1
  rw [Nat.zero_add] at this
  show some (zI S 74 196) = _
  rw [this]
theorem m_spr_yes (h : mRep S 74 0 P) (hP : pOK P) {s : Nat} (hs : s < pN P) : f_M_isSpring (nI s) S = some 1 := by
  have h9 := hP.1
  unfold f_M_isSpring
  have e0 : f_M_lies (nI s) 0 (nI (pN P - 1)) = some 1 := lies_yes (lo := 0) (by omega) (by omega) (by omega)
  rw [qb1 (m_many h), show (1 : Int32) = nI 1 from rfl, n_sub (by omega), e0, qb1s, qgd (by decide)]
  rfl
theorem m_spr_no (h : mRep S 74 0 P) (hP : pOK P) {a : Int32} (ha : ∀ s, s < pN P → a ≠ nI s) : f_M_isSpring a S = some 0 := by
  have h9 := hP.1
  unfold f_M_isSpring
  rw [qb1 (m_many h)]
  by_cases h0 : pN P = 0
  · rw [h0, m_lies, qb1s, if_neg, qgd (by decide)]
    rintro ⟨h1, h2⟩
    rw [q_le] at h1 h2
    have e : (nI 0 - 1).toInt = -1 := by decide
    rw [e] at h2
    rw [q_0] at h1
    omega
  · have e0 : f_M_lies a 0 (nI (pN P - 1)) = some 0 := lies_no (lo := 0) (by omega) (by omega) (fun v _ h2 => ha v (by omega))
    rw [show (1 : Int32) = nI 1 from rfl, n_sub (by omega), e0, qb1s, qgd (by decide)]
theorem m_two_yes (h : mRep S 74 0 P) (hP : pOK P) {a b : Nat} (ha : a < pN P) (hb : b < pN P) (hab : a ≠ b) : f_M_areTwo (nI a) (nI b) S = some 1 := by
  have h9 := hP.1
  unfold f_M_areTwo
  rw [qb1 (m_spr_yes h hP ha), if_neg (by decide), qb1 (m_spr_yes h hP hb), if_neg (by decide), if_neg (fun h => hab ((n_eq (by omega) (by omega)).mp h))]
theorem m_two_no (h : mRep S 74 0 P) (hP : pOK P) {a b : Int32} (hab : (∀ s, s < pN P → a ≠ nI s) ∨ (∀ s, s < pN P → b ≠ nI s) ∨ a = b) : f_M_areTwo a b S = some 0 := by
  unfold f_M_areTwo
  rcases spr_or P a with ⟨s, hs, rfl⟩ | ha
  · rw [qb1 (m_spr_yes h hP hs), if_neg (by decide)]
    rcases spr_or P b with ⟨t, ht, rfl⟩ | hb
    · rw [qb1 (m_spr_yes h hP ht), if_neg (by decide)]
      rcases hab with h1 | h1 | h1
      · exact absurd rfl (h1 s hs)
      · exact absurd rfl (h1 t ht)
      · rw [if_pos h1]
    · rw [qb1 (m_spr_no h hP hb), if_pos rfl]
  · rw [qb1 (m_spr_no h hP ha), if_pos rfl]
theorem m_pair {a c : Nat} (ha : a < 9) (hc : c < 9) : f_M_pairAt (nI a) (nI c) = some (nI (9 * a + c)) := by
  unfold f_M_pairAt
  rw [show (9 : Int32) = nI 9 from rfl, n_mul, n_add]
theorem m_far (h : mRep S 74 0 P) {a c : Nat} (ha : a < 9) (hc : c < 9) (hac : a ≠ c) : f_M_farOf (nI a) (nI c) S = some (pFar P a c) := by
  have := h.2.2.1 a c ha hc hac
  rw [Nat.zero_add] at this
  unfold f_M_farOf
  rw [qb1 (m_pair ha hc), show (101 : Int32) = nI 101 from rfl, n_add, n_gd (by omega) (by omega), q_cl (by omega), this]
theorem m_shut (h : mRep S 74 0 P) {a c : Nat} (ha : a < 9) (hc : c < 9) (hac : a ≠ c) : f_M_isShut (nI a) (nI c) S = some (b2 (pSh P a c)) := by
  have := h.2.2.2.2.1 a c ha hc hac
  rw [Nat.zero_add] at this
  unfold f_M_isShut
  rw [qb1 (m_pair ha hc), show (10 : Int32) = nI 10 from rfl, n_add, n_gd (by omega) (by omega), q_cl (by omega), this]
  cases pSh P a c <;> rfl
/-- the asked row alone -/
def eLr (S : zSt) (E : lE) : Prop := (∀ k, k < 4 → (zI S 84 k).toInt = E k) ∧ (zI S 84 4).toInt = E 6 ∧ (zI S 84 5).toInt = E 4 ∧ (zI S 84 6).toInt = E 5
theorem row84 (S : zSt) (v0 v1 v2 v3 v4 v5 v6 : Int32) (k : Nat) : zI (zwI (zwI (zwI (zwI (zwI (zwI (zwI S 84 0 v0) 84 1 v1) 84 2 v2) 84 3 v3) 84 4 v4) 84 5 v5) 84 6 v6) 84 k = if k = 0 then v0 else if k = 1 then v1 else if k = 2 then v2 else if k = 3 then v3 else if k = 4 then v4 else if k = 5 then v5 else if k = 6 then v6 else zI S 84 k := by
  simp only [qII, true_and]
  by_cases h0 : k = 0
  · subst h0; rfl
  by_cases h1 : k = 1
  · subst h1; rfl
  by_cases h2 : k = 2
  · subst h2; rfl
  by_cases h3 : k = 3
  · subst h3; rfl
  by_cases h4 : k = 4
  · subst h4; rfl
  by_cases h5 : k = 5
  · subst h5; rfl
  by_cases h6 : k = 6
  · subst h6; rfl
  rw [if_neg h6, if_neg h5, if_neg h4, if_neg h3, if_neg h2, if_neg h1, if_neg h0, if_neg h0, if_neg h1, if_neg h2, if_neg h3, if_neg h4, if_neg h5, if_neg h6]
theorem row84_co (S : zSt) (v0 v1 v2 v3 v4 v5 v6 : Int32) : zCo S (zwI (zwI (zwI (zwI (zwI (zwI (zwI S 84 0 v0) 84 1 v1) 84 2 v2) 84 3 v3) 84 4 v4) 84 5 v5) 84 6 v6) := by
  have W : ∀ (S : zSt) (k : Nat) (v : Int32), zCo S (zwI S 84 k v) := fun S k v => zCo_w S v (by unfold scI; omega)
  exact zCo_t (zCo_t (zCo_t (zCo_t (zCo_t (zCo_t (W _ 0 _) (W _ 1 _)) (W _ 2 _)) (W _ 3 _)) (W _ 4 _)) (W _ 5 _)) (W _ 6 _)
theorem m_setCh (h : mRep S 74 0 P) (hP : pOK P) {a b : Nat} (ha : a < pN P) (hb : b < pN P) (hab : a ≠ b) : ∃ S', f_M_setsChannel (nI a) (nI b) S = some S' ∧ zCo S S' ∧ eLr S' (eC P a b) ∧ ∀ j, j ≠ 72 → j ≠ 84 → zI S' j = zI S j := by
  have h9 := hP.1
  have H : ∀ (S' : zSt), zCo S S' → mRep S' 74 0 P := fun S' hc => mRep_co h hc (Or.inl rfl) hP
  have W : ∀ (S : zSt) (k : Nat) (v : Int32), zCo S (zwI S 84 k v) := fun S k v => zCo_w S v (by unfold scI; omega)
  have c1 := zCo_t (W S 0 (nI a)) (W _ 1 (nI b))
  have c2 := zCo_t c1 (W _ 2 (pFar P a b))
  have c3 := zCo_t c2 (W _ 3 (pLv P a - pLv P b))
  have c4 := zCo_t c3 (W _ 4 (nI (pMood P)))
  have c5 := zCo_t c4 (W _ 5 (pMud P b))
  have r2 := m_far (H _ c1) (by omega : a < 9) (by omega : b < 9) hab
  have ra := (H _ c2).2.1 a ha
  have rb := (H _ c2).2.1 b hb
  have r4 := (H _ c3).2.2.2.2.2.2.2.2.1
  have r5 := (H _ c4).2.2.2.1 b hb
  have r6 := (H _ c5).2.2.2.2.2.2.1
  rw [Nat.zero_add] at ra rb r4 r5 r6
  obtain ⟨va, hva, hla⟩ := hP.2.1 a ha
  obtain ⟨vb, hvb, hlb⟩ := hP.2.1 b hb
  have hday := hP.2.2.2.2.2.2.2.2.2.1
  have hmood := hP.2.2.2.2.2.2.2.2.2.2.2.1
  refine ⟨_, ?_, row84_co S (nI a) (nI b) (pFar P a b) (pLv P a - pLv P b) (nI (pMood P)) (pMud P b) (nI (pDay P)), ?_, fun j _ hj => by funext k; rw [qIIo _ _ (by omega), qIIo _ _ (by omega), qIIo _ _ (by omega), qIIo _ _ (by omega), qIIo _ _ (by omega), qIIo _ _ (by omega), qIIo _ _ (by omega)]⟩
  · unfold f_M_setsChannel
    have t0 : (0 : Int32).toNatClampNeg = 0 := rfl
    have t1 : (1 : Int32).toNatClampNeg = 1 := rfl
    have t2 : (2 : Int32).toNatClampNeg = 2 := rfl
    have t3 : (3 : Int32).toNatClampNeg = 3 := rfl
    have t4 : (4 : Int32).toNatClampNeg = 4 := rfl
    have t5 : (5 : Int32).toNatClampNeg = 5 := rfl
    have t6 : (6 : Int32).toNatClampNeg = 6 := rfl
    have t91 : (91 : Int32).toNatClampNeg = 91 := rfl
    have t195 : (195 : Int32).toNatClampNeg = 195 := rfl
    have ea : (92 : Int32) + nI a = nI (92 + a) := n_add 92 a
    have eb : (92 : Int32) + nI b = nI (92 + b) := n_add 92 b
    have em : (1 : Int32) + nI b = nI (1 + b) := n_add 1 b
    have ca : (nI (92 + a)).toNatClampNeg = 92 + a := q_cl (by omega)
    have cb : (nI (92 + b)).toNatClampNeg = 92 + b := q_cl (by omega)
    have cm : (nI (1 + b)).toNatClampNeg = 1 + b := q_cl (by omega)
    simp only [t0, t1, t2, t3, t4, t5, t6, t91, t195, ea, eb, em, ca, cb, cm]
    rw [qb1 r2, qgd ⟨n_0 (by omega), by omega⟩, qgd ⟨n_0 (by omega), by omega⟩, qgd ⟨n_0 (by omega), by omega⟩, ra, rb, r4, r5, r6]
  · refine ⟨fun k hk => ?_, ?_, ?_, ?_⟩
    · rw [row84]
      unfold eC
      by_cases h0 : k = 0
      · rw [if_pos h0, if_pos h0, q_nI (by omega)]
      rw [if_neg h0, if_neg h0]
      by_cases h1 : k = 1
      · rw [if_pos h1, if_pos h1, q_nI (by omega)]
      rw [if_neg h1, if_neg h1]
      by_cases h2 : k = 2
      · rw [if_pos h2, if_pos h2]
      rw [if_neg h2, if_neg h2]
      have h3 : k = 3 := by omega
      rw [if_pos h3, if_pos h3, q_sub]
      rw [hla, hlb, q_nI (by omega), q_nI (by omega)]; omega
    · rw [row84]
      show (nI (pMood P)).toInt = (pMood P : Int)
      rw [q_nI (by omega)]
    · rw [row84]; rfl
    · rw [row84]
      show (nI (pDay P)).toInt = (pDay P : Int)
      rw [q_nI (by omega)]
theorem m_setSp (h : mRep S 74 0 P) (hP : pOK P) {s : Nat} (hs : s < pN P) : ∃ S', f_M_setsSpring (nI s) S = some S' ∧ zCo S S' ∧ eLr S' (eS P s) ∧ ∀ j, j ≠ 72 → j ≠ 84 → zI S' j = zI S j := by
  have h9 := hP.1
  have H : ∀ (S' : zSt), zCo S S' → mRep S' 74 0 P := fun S' hc => mRep_co h hc (Or.inl rfl) hP
  have W : ∀ (S : zSt) (k : Nat) (v : Int32), zCo S (zwI S 84 k v) := fun S k v => zCo_w S v (by unfold scI; omega)
  have c3 := zCo_t (zCo_t (zCo_t (W S 0 (nI s)) (W _ 1 (-1))) (W _ 2 (-1))) (W _ 3 0)
  have c4 := zCo_t c3 (W _ 4 (nI (pMood P)))
  have c5 := zCo_t c4 (W _ 5 (pMud P s))
  have r4 := (H _ c3).2.2.2.2.2.2.2.2.1
  have r5 := (H _ c4).2.2.2.1 s hs
  have r6 := (H _ c5).2.2.2.2.2.2.1
  rw [Nat.zero_add] at r4 r5 r6
  have hday := hP.2.2.2.2.2.2.2.2.2.1
  have hmood := hP.2.2.2.2.2.2.2.2.2.2.2.1
  refine ⟨_, ?_, row84_co S (nI s) (-1) (-1) 0 (nI (pMood P)) (pMud P s) (nI (pDay P)), ?_, fun j _ hj => by funext k; rw [qIIo _ _ (by omega), qIIo _ _ (by omega), qIIo _ _ (by omega), qIIo _ _ (by omega), qIIo _ _ (by omega), qIIo _ _ (by omega), qIIo _ _ (by omega)]⟩
  · unfold f_M_setsSpring
    have t0 : (0 : Int32).toNatClampNeg = 0 := rfl
    have t1 : (1 : Int32).toNatClampNeg = 1 := rfl
    have t2 : (2 : Int32).toNatClampNeg = 2 := rfl
    have t3 : (3 : Int32).toNatClampNeg = 3 := rfl
    have t4 : (4 : Int32).toNatClampNeg = 4 := rfl
    have t5 : (5 : Int32).toNatClampNeg = 5 := rfl
    have t6 : (6 : Int32).toNatClampNeg = 6 := rfl
    have t91 : (91 : Int32).toNatClampNeg = 91 := rfl
    have t195 : (195 : Int32).toNatClampNeg = 195 := rfl
    have em : (1 : Int32) + nI s = nI (1 + s) := n_add 1 s
    have cm : (nI (1 + s)).toNatClampNeg = 1 + s := q_cl (by omega)
    simp only [t0, t1, t2, t3, t4, t5, t6, t91, t195, em, cm]
    rw [qgd ⟨n_0 (by omega), by omega⟩, r4, r5, r6]
  · refine ⟨fun k hk => ?_, ?_, ?_, ?_⟩
    · rw [row84]
      unfold eS
      by_cases h0 : k = 0
      · rw [if_pos h0, if_pos h0, q_nI (by omega)]
      rw [if_neg h0, if_neg h0]
      by_cases h1 : k = 1
      · rw [if_pos h1, if_pos h1]; rfl
      rw [if_neg h1, if_neg h1]
      by_cases h2 : k = 2
      · rw [if_pos h2, if_pos h2]; rfl
      rw [if_neg h2, if_neg h2]
      have h3 : k = 3 := by omega
      rw [if_pos h3, if_pos h3]; rfl
    · rw [row84]
      show (nI (pMood P)).toInt = (pMood P : Int)
      rw [q_nI (by omega)]
    · rw [row84]; rfl
    · rw [row84]
      show (nI (pDay P)).toInt = (pDay P : Int)
      rw [q_nI (by omega)]
theorem zEv_self (S : zSt) : zEv S (zI S 72 22) (zI S 72 24) = S := by
  unfold zEv zwI zup zI
  show ((fun j l => _), S.2) = S
  refine Prod.ext ?_ rfl
  funext j l
  show (if j = 72 ∧ l = 24 then S.1 72 24 else if j = 72 ∧ l = 22 then S.1 72 22 else S.1 j l) = S.1 j l
  by_cases h1 : j = 72 ∧ l = 24
  · rw [if_pos h1, h1.1, h1.2]
  · rw [if_neg h1]
    by_cases h2 : j = 72 ∧ l = 22
    · rw [if_pos h2, h2.1, h2.2]
    · rw [if_neg h2]
theorem zEv_co (S : zSt) (g b : Int32) : zCo S (zEv S g b) := zCo_t (zCo_w S g (by unfold scI; omega)) (zCo_w _ b (by unfold scI; omega))
theorem m_tells (fu : Nat) (hfu : 500 ≤ fu) (h : mRep S 74 0 P) (hP : pOK P) {E : lE} (hE : eLr S E) {kind lo hi : Nat} (hk : kind < 4) (hlh : lo ≤ hi) (hh : hi < 100) (w : Int32) : ∃ S', f_M_tells fu (nI (kind + 1)) (nI lo) (nI hi) w S = some (t32 lo hi w (lTell kind E (pLaw P)), S') ∧ zCo S S' ∧ ∀ j, j ≠ 72 → j ≠ 84 → zI S' j = zI S j := by
  have h199 := h.2.2.2.2.2.2.2.2.2.2.2.2.2
  rw [Nat.zero_add] at h199
  have t199 : (199 : Int32).toNatClampNeg = 199 := rfl
  unfold f_M_tells
  simp only [t199]
  have q1 : ∀ (S : zSt) (k : Nat) (v : Int32), zI (zwI S 72 k v) 74 = zI S 74 := fun S k v => by funext l; exact qIIo _ _ (by omega)
  simp only [q1, h199]
  cases hf : pFc P with
  | none =>
    rw [if_pos (show fcI none = -1 from rfl)]
    refine ⟨S, ?_, zCo_r S, fun _ _ _ => rfl⟩
    have : pLaw P = [] := by unfold pLaw; rw [hf]; rfl
    rw [this]
    rfl
  | some f =>
    have hfl := hP.2.2.2.2.2.2.2.2.2.2.2.2.2.2.2 f hf
    have h6 := hP.2.2.2.2.2.2.2.2.2.2.2.2.2.2.1
    have hlaw : pLaw P = (pLw P)[f] := by
      unfold pLaw pLawO
      rw [hf]
      show (pLw P).getD f [] = _
      rw [List.getD_eq_getElem?_getD, List.getElem?_eq_getElem hfl]; rfl
    obtain ⟨C, V, N, n, g1, g2, g3, g4, g5, g6, g7⟩ := h.2.2.2.2.2.2.2.2.2.2.2.2.1 f _ (List.getElem?_eq_getElem hfl)
    rw [Nat.zero_add] at g3
    have ne : ¬ fcI (some f) = -1 := fun h => absurd (congrArg Int32.toInt h) (by show ¬ (nI f).toInt = (-1 : Int32).toInt; rw [q_nI (by omega), show (-1 : Int32).toInt = -1 from rfl]; omega)
    have e2 : (200 : Int32) + fcI (some f) = nI (200 + f) := n_add 200 f
    have e4 : (400 : Int32) * fcI (some f) = nI (400 * f) := n_mul 400 f
    rw [if_neg ne, e2, n_gd (by omega) (by omega), q_cl (by omega), g3, e4, qIIs, n_add]
    generalize hSb : zwI (zwI (zwI S 72 25 0) 72 22 (nI (400 * f))) 72 23 (nI (400 * f + N)) = Sb
    have cb : zCo S Sb := by
      rw [← hSb]
      exact zCo_t (zCo_t (zCo_w S _ (by unfold scI; omega)) (zCo_w _ _ (by unfold scI; omega))) (zCo_w _ _ (by unfold scI; omega))
    have r74 : zI Sb 74 = zI S 74 := zCo_I cb (by omega)
    have r84 : zI Sb 84 = zI S 84 := by
      rw [← hSb]
      funext l
      rw [qIIo _ _ (by omega), qIIo _ _ (by omega), qIIo _ _ (by omega)]
    have hES : zES Sb (400 * f) N C V := by
      refine ⟨by omega, g1, by rw [← hSb, qIIs], fun k hk => ?_, g5, g6⟩
      rw [r74]
      have := g4 k hk
      rw [Nat.zero_add, Nat.zero_add] at this
      exact this
    have hEW : eW false fu Sb E := by
      unfold eW
      rw [if_neg (by decide)]
      refine ⟨by rw [← hSb, qIIo _ _ (by omega), qIIo _ _ (by omega), qIIs], ?_⟩
      rw [r84]
      exact hE
    have h22 : zI Sb 72 22 = nI (400 * f + 0) := by rw [← hSb, qIIo _ _ (by omega), qIIs]; rfl
    obtain ⟨g, b', x1⟩ := tells_text fu hfu hES hEW g2 hk hlh hh w 12 fu 0 0 [] _ (zI Sb 72 24) g7 (by omega)
    rw [← h22, zEv_self] at x1
    refine ⟨_, ?_, zCo_t cb (zEv_co Sb g b'), fun j h72 _ => by
      funext k
      rw [zEv_o _ _ _ (Or.inl h72), ← hSb, qIIo _ _ (by omega), qIIo _ _ (by omega), qIIo _ _ (by omega)]⟩
    have x1' : f_M_tells_67 fu fu (nI (kind + 1)) (nI lo) (nI hi) w.toInt64 Sb = _ := x1
    rw [x1', t64_32 hlh hh, hlaw]
    rfl
theorem m_takes_for (fu : Nat) (hfu : 500 ≤ fu) (h : mRep S 74 0 P) (hP : pOK P) {a b : Nat} (ha : a < pN P) (hb : b < pN P) (hab : a ≠ b) : ∃ S', f_M_takesFor fu (nI a) (nI b) S = some (pTl P (pLaw P) 0 a b, S') ∧ zCo S S' ∧ ∀ j, j ≠ 72 → j ≠ 84 → zI S' j = zI S j := by
  have h9 := hP.1
  obtain ⟨S1, e1, c1, hE, f1⟩ := m_setCh h hP ha hb hab
  have h1 := mRep_co h c1 (Or.inl rfl) hP
  obtain ⟨S2, e2, c2, f2⟩ := m_tells fu hfu h1 hP hE (kind := 0) (lo := 1) (hi := 99) (by omega) (by omega) (by omega) (pFar P a b)
  refine ⟨S2, ?_, zCo_t c1 c2, fun j a b => (f2 j a b).trans (f1 j a b)⟩
  have e2' : f_M_tells fu 1 1 99 (pFar P a b) S1 = _ := e2
  unfold f_M_takesFor
  rw [qb1 e1, qb1 (m_far h1 (by omega) (by omega) hab), qb2 e2']
  rfl
theorem m_weighs_for (fu : Nat) (hfu : 500 ≤ fu) (h : mRep S 74 0 P) (hP : pOK P) {a b : Nat} (ha : a < pN P) (hb : b < pN P) (hab : a ≠ b) : ∃ S', f_M_weighsFor fu (nI a) (nI b) S = some (pTl P (pLaw P) 1 a b, S') ∧ zCo S S' ∧ ∀ j, j ≠ 72 → j ≠ 84 → zI S' j = zI S j := by
  obtain ⟨S1, e1, c1, hE, f1⟩ := m_setCh h hP ha hb hab
  have h1 := mRep_co h c1 (Or.inl rfl) hP
  obtain ⟨S2, e2, c2, f2⟩ := m_tells fu hfu h1 hP hE (kind := 1) (lo := 0) (hi := 99) (by omega) (by omega) (by omega) 1
  refine ⟨S2, ?_, zCo_t c1 c2, fun j a b => (f2 j a b).trans (f1 j a b)⟩
  have e2' : f_M_tells fu 2 0 99 1 S1 = _ := e2
  unfold f_M_weighsFor
  rw [qb1 e1, qb2 e2']
  rfl
theorem m_settles (fu : Nat) (hfu : 500 ≤ fu) (h : mRep S 74 0 P) (hP : pOK P) {s : Nat} (hs : s < pN P) : ∃ S', f_M_settlesTo fu (nI s) S = some (pSt P (pLaw P) s, S') ∧ zCo S S' ∧ ∀ j, j ≠ 72 → j ≠ 84 → zI S' j = zI S j := by
  have h9 := hP.1
  obtain ⟨S1, e1, c1, hE, f1⟩ := m_setSp h hP hs
  have h1 := mRep_co h c1 (Or.inl rfl) hP
  obtain ⟨S2, e2, c2, f2⟩ := m_tells fu hfu h1 hP hE (kind := 2) (lo := 0) (hi := 9) (by omega) (by omega) (by omega) (pMud P s)
  refine ⟨S2, ?_, zCo_t c1 c2, fun j a b => (f2 j a b).trans (f1 j a b)⟩
  have e2' : f_M_tells fu 3 0 9 (pMud P s) S1 = _ := e2
  have rm := h1.2.2.2.1 s hs
  rw [Nat.zero_add] at rm
  unfold f_M_settlesTo
  rw [qb1 e1, show (1 : Int32) + nI s = nI (1 + s) from n_add 1 s, n_gd (by omega) (by omega), q_cl (by omega), rm, qb2 e2']
  rfl
/-! barred -/
theorem lif_1 {ord : Bool} {C V : Nat → Int32} {n i q j q' : Nat} {cl : Nat × lD × lD × Nat} {c : lC} (h : lif ord C V n i q cl = .inr (j, q', c)) : c.1 = cl.1 ∧ c.2.1 = cl.2.1 := by
  unfold lif at h
  split at h
  · split at h
    · cases h
    · injection h with h
      injection h with h1 h2
      injection h2 with h2 h3
      rw [← h3]
      exact ⟨rfl, rfl⟩
  · injection h with h
    injection h with h1 h2
    injection h2 with h2 h3
    rw [← h3]
    exact ⟨rfl, rfl⟩
theorem lcl_bars {C V : Nat → Int32} {n i q j q' : Nat} {c : lC} (h : lclauseL C V n i q = .inr (j, q', c)) (h3 : c.1 = 3) : c.2.1 = lone := by
  unfold lclauseL at h
  split at h
  · rename_i hc
    split at h
    · cases h
    · have := (lif_1 h).1
      rw [h3] at this
      rcases hc with hc | hc | hc
      · rw [hc] at this
        have t2 : 3 = (1 : Int32).toInt.toNat - 1 := this
        exact absurd t2 (by decide)
      · rw [hc] at this
        have t2 : 3 = (2 : Int32).toInt.toNat - 1 := this
        exact absurd t2 (by decide)
      · rw [hc] at this
        have t2 : 3 = (3 : Int32).toInt.toNat - 1 := this
        exact absurd t2 (by decide)
  · split at h
    · exact (lif_1 h).2
    · cases h
theorem ltx_bars {C V : Nat → Int32} {n N : Nat} : ∀ (m i q : Nat) (acc cls : List lC), (∀ c ∈ acc, c.1 = 3 → c.2.1 = lone) → ltx false C V n N m i q acc = .inr cls → ∀ c ∈ cls, c.1 = 3 → c.2.1 = lone := by
  intro m
  induction m with
  | zero => intro i q acc cls _ h; cases h
  | succ m ih =>
    intro i q acc cls ha h
    rw [ltx, if_neg (show ¬ false = true by decide)] at h
    split at h
    · cases h
    · rename_i j q' cl hc
      have ha2 : ∀ c ∈ acc ++ [cl], c.1 = 3 → c.2.1 = lone := by
        intro c hcm
        rcases List.mem_append.mp hcm with hm | hm
        · exact ha c hm
        · have : c = cl := by simpa using hm
          rw [this]
          exact lcl_bars hc
      split at h
      · exact ih _ _ _ _ ha2 h
      · split at h
        · injection h with h
          rw [← h]; exact ha2
        · cases h
theorem fold_bars (E : lE) : ∀ (cls : List lC) (o : Option Int), (∀ c ∈ cls, c.1 = 3 → c.2.1 = lone) → (∀ v, o = some v → v = 1) → ∀ v, cls.foldl (lstep 3 E) o = some v → v = 1
  | [], o, _, ho, v, h => ho v h
  | c :: r, o, hc, ho, v, h => by
    refine fold_bars E r (lstep 3 E o c) (fun c' h' => hc c' (by simp [h'])) (fun u hu => ?_) v h
    unfold lstep oor lhold at hu
    by_cases hk : c.1 = 3 ∧ tOk E c.2.2.2.2 = true
    · rw [if_pos hk, hc c (by simp) hk.1] at hu
      injection hu with hu
      exact hu.symm
    · rw [if_neg hk] at hu
      exact ho u hu
/-- a law that can bar: with 1 alone -/
def lawG (law : List lC) : Prop := ∀ E v, lTell 3 E law = some v → v = 1
theorem lawG_nil : lawG [] := fun E v h => by cases h
theorem m_lawG {r b : Nat} (h : mRep S r b P) (f : Option Nat) (hf : ∀ t, f = some t → t < (pLw P).length) : lawG (pLawO P f) := by
  cases f with
  | none => exact lawG_nil
  | some t =>
    have ht := hf t rfl
    obtain ⟨C, V, N, n, g1, g2, g3, g4, g5, g6, g7⟩ := h.2.2.2.2.2.2.2.2.2.2.2.2.1 t _ (List.getElem?_eq_getElem ht)
    have e : pLawO P (some t) = (pLw P)[t] := by
      show (pLw P).getD t [] = _
      rw [List.getD_eq_getElem?_getD, List.getElem?_eq_getElem ht]; rfl
    rw [e]
    intro E v hv
    exact fold_bars E _ none (ltx_bars 12 0 0 [] _ (fun c hc => by simp at hc) g7) (fun u hu => by cases hu) v hv
def pBar (P : zP) (law : List lC) (a b : Nat) : Bool := (lTell 3 (eC P a b) law).isSome
theorem pTl_bar {law : List lC} (hG : lawG law) (P : zP) (a b : Nat) : pTl P law 3 a b = b2 (pBar P law a b) := by
  unfold pTl pBar
  cases h : lTell 3 (eC P a b) law with
  | none => rfl
  | some v => rw [hG _ v h]; rfl
theorem m_barred (fu : Nat) (hfu : 500 ≤ fu) (h : mRep S 74 0 P) (hP : pOK P) {a b : Nat} (ha : a < pN P) (hb : b < pN P) (hab : a ≠ b) : ∃ S', f_M_isBarred fu (nI a) (nI b) S = some (b2 (pBar P (pLaw P) a b), S') ∧ zCo S S' ∧ ∀ j, j ≠ 72 → j ≠ 84 → zI S' j = zI S j := by
  obtain ⟨S1, e1, c1, hE, f1⟩ := m_setCh h hP ha hb hab
  have h1 := mRep_co h c1 (Or.inl rfl) hP
  obtain ⟨S2, e2, c2, f2⟩ := m_tells fu hfu h1 hP hE (kind := 3) (lo := 0) (hi := 1) (by omega) (by omega) (by omega) 0
  refine ⟨S2, ?_, zCo_t c1 c2, fun j a b => (f2 j a b).trans (f1 j a b)⟩
  have e2' : f_M_tells fu 4 0 1 0 S1 = _ := e2
  have hG : lawG (pLaw P) := m_lawG h _ hP.2.2.2.2.2.2.2.2.2.2.2.2.2.2.2
  unfold f_M_isBarred
  rw [qb1 e1, qb2 e2']
  unfold pBar
  cases hl : lTell 3 (eC P a b) (pLaw P) with
  | none => rfl
  | some v => rw [hG _ v hl]; rfl
end MGT

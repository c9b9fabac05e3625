/-! count: channels, how many are shut, refusals, terms -/
def gCh (P : zP) (w : Int32) (a b : Nat) : Nat := if pFar P a b = 0 then 0 else if w = 0 then 1 else if pSh P a b = true then 1 else 0
theorem gCh_s {P : zP} (hP : pOK P) (w : Int32) (a b : Nat) : gCh P w a b = gCh P w b a := by
  unfold gCh
  rw [hP.2.2.2.2.1 a b, hP.2.2.2.2.2.1 a b]
theorem gCh_z {P : zP} (hP : pOK P) (w : Int32) (a b : Nat) (h : pN P ≤ a) : gCh P w a b = 0 := by
  unfold gCh
  rw [if_pos (hP.2.2.2.2.2.2.2.1 a b h).1]
theorem gCh_le (P : zP) (w : Int32) (a b : Nat) : gCh P w a b ≤ 1 := by
  unfold gCh
  split
  · omega
  · split
    · omega
    · split <;> omega
theorem m_ch_17 (fu : Nat) {S : zSt} {P : zP} (hm : mRep S 74 0 P) (hP : pOK P) {w : Int32} (k4 : Int32 → Int32 → Int32 → zSt → Option Int32) {a base : Nat} (ha : a < pN P) : ∀ (m c n : Nat), c + m = pN P → a < c → m + 1 ≤ n → f_M_channelMany_17 fu k4 n w (nI (base + sm (fun c => if a < c then gCh P w a c else 0) c)) (nI a) (nI c) S = k4 w (nI (base + sm (fun c => if a < c then gCh P w a c else 0) (pN P))) (nI (a + 1)) S := by
  have h9 := hP.1
  intro m
  induction m with
  | zero =>
    intro c n h1 h2 h3
    obtain ⟨n', rfl⟩ : ∃ n', n = n' + 1 := ⟨n - 1, by omega⟩
    have hc : c = pN P := by omega
    unfold f_M_channelMany_17
    rw [qb1 (m_many hm), if_pos ((n_le (by omega) (by omega)).mpr (by omega)), n_1, hc]
  | succ m ih =>
    intro c n h1 h2 h3
    obtain ⟨n', rfl⟩ : ∃ n', n = n' + 1 := ⟨n - 1, by omega⟩
    have hc : c < pN P := by omega
    have hac : a ≠ c := by omega
    rw [← ih (c + 1) n' (by omega) (by omega) (by omega)]
    obtain ⟨K, eK⟩ : ∃ K, K = f_M_channelMany_17 fu k4 n' := ⟨_, rfl⟩
    have es : sm (fun c => if a < c then gCh P w a c else 0) (c + 1) = sm (fun c => if a < c then gCh P w a c else 0) c + gCh P w a c := by
      show sm (fun c => if a < c then gCh P w a c else 0) c + (if a < c then gCh P w a c else 0) = _
      rw [if_pos h2]
    have eG : gCh P w a c = if pFar P a c = 0 then 0 else if w = 0 then 1 else if pSh P a c = true then 1 else 0 := rfl
    rw [es, ← eK, eG]
    unfold f_M_channelMany_17
    rw [qb1 (m_many hm), if_neg (fun h => absurd ((n_le (by omega) (by omega)).mp h) (by omega)), qb1 (m_far hm (by omega) (by omega) hac), ← eK, n_1]
    have z0 : ∀ x : Nat, nI x + 0 = nI (x + 0) := fun x => n_add x 0
    by_cases hf : pFar P a c = 0
    · rw [if_pos ((far_le hP (by omega) (by omega)).mpr hf), if_pos hf, z0]
      rfl
    · rw [if_neg (fun h => hf ((far_le hP (by omega) (by omega)).mp h)), if_neg hf]
      by_cases hw : w = 0
      · rw [if_pos hw, if_pos hw, n_1, Nat.add_assoc]
      · rw [if_neg hw, if_neg hw, qb1 (m_shut hm (by omega) (by omega) hac)]
        cases pSh P a c with
        | true => rw [if_neg (show ¬ b2 true = 0 by decide), if_pos rfl, n_1, Nat.add_assoc]
        | false => rw [if_pos (show b2 false = 0 from rfl), if_neg (by decide), z0]; rfl
theorem m_ch_4 (fu : Nat) (hfu : 100 ≤ fu) {S : zSt} {P : zP} (hm : mRep S 74 0 P) (hP : pOK P) {w : Int32} : ∀ (m a n : Nat), a + m = pN P → m + 1 ≤ n → f_M_channelMany_4 fu n w (nI (sm (fun a => sm (fun c => if a < c then gCh P w a c else 0) (pN P)) a)) (nI a) S = some (nI (smR (gCh P w) (pN P))) := by
  have h9 := hP.1
  intro m
  induction m with
  | zero =>
    intro a n h1 h2
    obtain ⟨n', rfl⟩ : ∃ n', n = n' + 1 := ⟨n - 1, by omega⟩
    have ha : a = pN P := by omega
    unfold f_M_channelMany_4
    rw [qb1 (m_many hm), if_pos ((n_le (by omega) (by omega)).mpr (by omega)), ha]
    rfl
  | succ m ih =>
    intro a n h1 h2
    obtain ⟨n', rfl⟩ : ∃ n', n = n' + 1 := ⟨n - 1, by omega⟩
    have ha : a < pN P := by omega
    unfold f_M_channelMany_4
    rw [qb1 (m_many hm), if_neg (fun h => absurd ((n_le (by omega) (by omega)).mp h) (by omega)), n_1]
    have e := m_ch_17 fu hm hP (w := w) (f_M_channelMany_4 fu n') (base := sm (fun a => sm (fun c => if a < c then gCh P w a c else 0) (pN P)) a) ha (pN P - (a + 1)) (a + 1) fu (by omega) (by omega) (by omega)
    have z : sm (fun c => if a < c then gCh P w a c else 0) (a + 1) = 0 := sm_0 _ (fun i hi => if_neg (by omega))
    rw [z, Nat.add_zero] at e
    rw [e]
    exact ih (a + 1) n' (by omega) (by omega)
theorem m_chMany (fu : Nat) (hfu : 100 ≤ fu) {S : zSt} {P : zP} (hm : mRep S 74 0 P) (hP : pOK P) (w : Int32) : f_M_channelMany fu w S = some (nI (smR (gCh P w) (pN P))) := m_ch_4 fu hfu hm hP (pN P) 0 fu (by omega) (by have := hP.1; omega)
theorem c_ch_4 (fu : Nat) {S : zSt} {P : zP} (hc : cRep S 1 P) (hP : pOK P) : ∀ (m p n : Nat), p + m = 36 → m + 1 ≤ n → f_Ps_channels_4 fu 1 n (nI (sm (fun p => if zI S 3 p ≤ 0 then 0 else 1) p)) (nI p) S = some (nI (sm (fun p => if zI S 3 p ≤ 0 then 0 else 1) 36)) := by
  intro m
  induction m with
  | zero =>
    intro p n h1 h2
    obtain ⟨n', rfl⟩ : ∃ n', n = n' + 1 := ⟨n - 1, by omega⟩
    unfold f_Ps_channels_4
    rw [if_pos (show (36 : Int32) ≤ nI p from (n_le (a := 36) (by omega) (by omega)).mpr (by omega)), show p = 36 by omega]
  | succ m ih =>
    intro p n h1 h2
    obtain ⟨n', rfl⟩ : ∃ n', n = n' + 1 := ⟨n - 1, by omega⟩
    rw [← ih (p + 1) n' (by omega) (by omega)]
    obtain ⟨K, eK⟩ : ∃ K, K = f_Ps_channels_4 fu 1 n' := ⟨_, rfl⟩
    rw [← eK, show sm (fun p => if zI S 3 p ≤ 0 then 0 else 1) (p + 1) = sm (fun p => if zI S 3 p ≤ 0 then 0 else 1) p + (if zI S 3 p ≤ 0 then 0 else 1) from rfl]
    unfold f_Ps_channels_4
    rw [if_neg (show ¬ (36 : Int32) ≤ nI p from fun h => absurd ((n_le (a := 36) (by omega) (by omega)).mp h) (by omega)), n_gd (by omega) (by omega), q_cl (by omega), ← eK, n_1]
    by_cases h : zI S 3 p ≤ 0
    · rw [if_pos (show zI S (1 + 2) p ≤ 0 from h), if_pos h]; rfl
    · rw [if_neg (show ¬ zI S (1 + 2) p ≤ 0 from h), if_neg h, n_1]
theorem c_channels (fu : Nat) (hfu : 100 ≤ fu) {S : zSt} {P : zP} (hc : cRep S 1 P) (hP : pOK P) : f_Ps_channels fu 1 S = some (nI (smR (gCh P 0) (pN P))) := by
  refine (c_ch_4 fu hc hP 36 0 fu (by omega) (by omega)).trans ?_
  rw [sm_pairs hP (gCh_s hP 0) (gCh_z hP 0) (fun a b ha hb hab => ?_)]
  have e : zI S 3 (pq a b) = pFar P a b := hc.2.2.1 a b ha hb hab
  unfold gCh
  show (if zI S 3 (pq a b) ≤ 0 then 0 else 1) = _
  rw [e]
  by_cases hf : pFar P a b = 0
  · rw [if_pos hf, if_pos ((far_le hP ha hb).mpr hf)]
  · rw [if_neg hf, if_neg (fun h => hf ((far_le hP ha hb).mp h)), if_pos rfl]
theorem c_shut {S : zSt} {P : zP} (hc : cRep S 1 P) (hP : pOK P) : f_Lg_bitCount (zL S 1 4) = some (nI (smR (gCh P 1) (pN P))) := by
  rw [bitCount_is, show (64 : Nat) = 36 + 28 from rfl, sm_split, sm_0 28 (fun i _ => by
    show (bL (zL S 1 4) (36 + i)).toNat = 0
    rw [hc.2.2.2.2.2.1 (36 + i) (by omega)]; rfl), Nat.add_zero, sm_pairs hP (gCh_s hP 1) (gCh_z hP 1) (fun a b ha hb hab => ?_)]
  have e : bL (zL S 1 4) (pq a b) = pSh P a b := hc.2.2.2.2.1 a b ha hb hab
  have h7 := hP.2.2.2.2.2.2.1 a b ha hb hab
  unfold gCh
  show (bL (zL S 1 4) (pq a b)).toNat = _
  rw [e, if_neg (show ¬ (1 : Int32) = 0 by decide)]
  cases hs : pSh P a b with
  | true => rw [if_neg (h7 hs), if_pos rfl]; rfl
  | false =>
    by_cases hf : pFar P a b = 0
    · rw [if_pos hf]; rfl
    · rw [if_neg hf, if_neg (by decide)]; rfl
theorem call_count (fu : Nat) (hfu : 1000 ≤ fu) {S : zSt} (h : Inv S) (w : Int32) : ∃ v, f_E_count fu w S = some v ∧ f_M_count fu w S = some v := by
  obtain ⟨P, es, hP, hc, hm, hj, hi, ht, hms, hd, hs⟩ := h
  have hz := hm
  unfold mRep at hz
  simp only [Nat.zero_add] at hz
  obtain ⟨m1, m2, m3, m4, m5, m6, m7, m8, m9, m10, m11, m12, m13, m14⟩ := hz
  obtain ⟨T, t1, t2, t3, t4⟩ := ht
  obtain ⟨s1, s2, s3, s4, s5, s6, s7, s8, s9⟩ := hms
  by_cases hw : ∃ k, k < 17 ∧ w = nI k
  · obtain ⟨k, hk, rfl⟩ := hw
    rcases (by omega : k = 0 ∨ k = 1 ∨ k = 2 ∨ k = 3 ∨ k = 4 ∨ k = 5 ∨ k = 6 ∨ k = 7 ∨ k = 8 ∨ k = 9 ∨ k = 10 ∨ k = 11 ∨ k = 12 ∨ k = 13 ∨ k = 14 ∨ k = 15 ∨ k = 16) with rfl | rfl | rfl | rfl | rfl | rfl | rfl | rfl | rfl | rfl | rfl | rfl | rfl | rfl | rfl | rfl | rfl
    · exact ⟨nI (pN P), congrArg some hc.1, (qb1 (m_many hm)).trans rfl⟩
    · exact ⟨nI (pAt P), congrArg some hc.2.2.2.2.2.2.1, congrArg some m6⟩
    · exact ⟨_, qb1 (c_channels fu (by omega) hc hP), qb1 (m_chMany fu (by omega) hm hP 0)⟩
    · have e : f_M_shutMany fu S = some (nI (smR (gCh P 1) (pN P))) := by
        unfold f_M_shutMany
        rw [qb1 (m_chMany fu (by omega) hm hP 1)]
      exact ⟨_, qb1 (c_shut hc hP), qb1 e⟩
    · exact ⟨_, congrArg some hc.2.2.2.2.2.2.2.2.2.2.1, congrArg some m10⟩
    · exact ⟨_, congrArg some hc.2.2.2.2.2.2.2.2.2.2.2.2.1, congrArg some m12⟩
    · exact ⟨_, congrArg some hj.2.1, congrArg some hj.2.2.1⟩
    · exact ⟨_, congrArg some t2, congrArg some t3⟩
    · exact ⟨zI S 73 1, congrArg some s5, rfl⟩
    · exact ⟨zI S 73 2, congrArg some s6, rfl⟩
    · exact ⟨zI S 73 3, congrArg some s7, rfl⟩
    · exact ⟨zI S 73 5, congrArg some s8, rfl⟩
    · exact ⟨zI S 73 6, congrArg some s9, rfl⟩
    · exact ⟨_, congrArg some hc.2.2.2.2.2.2.2.2.2.2.2.2.2.2, congrArg some m14⟩
    · exact ⟨_, congrArg some hc.2.2.2.2.2.2.2.1, congrArg some m7⟩
    · exact ⟨_, congrArg some hc.2.2.2.2.2.2.2.2.1, congrArg some m8⟩
    · exact ⟨_, congrArg some hc.2.2.2.2.2.2.2.2.2.1, congrArg some m9⟩
  · have hn : ∀ k, k < 17 → ¬ w = nI k := fun k hk he => hw ⟨k, hk, he⟩
    have n0 : ¬ w = 0 := hn 0 (by omega)
    have n1 : ¬ w = 1 := hn 1 (by omega)
    have n2 : ¬ w = 2 := hn 2 (by omega)
    have n3 : ¬ w = 3 := hn 3 (by omega)
    have n4 : ¬ w = 4 := hn 4 (by omega)
    have n5 : ¬ w = 5 := hn 5 (by omega)
    have n6 : ¬ w = 6 := hn 6 (by omega)
    have n7 : ¬ w = 7 := hn 7 (by omega)
    have n8 : ¬ w = 8 := hn 8 (by omega)
    have n9 : ¬ w = 9 := hn 9 (by omega)
    have n10 : ¬ w = 10 := hn 10 (by omega)
    have n11 : ¬ w = 11 := hn 11 (by omega)
    have n12 : ¬ w = 12 := hn 12 (by omega)
    have n13 : ¬ w = 13 := hn 13 (by omega)
    have n14 : ¬ w = 14 := hn 14 (by omega)
    have n15 : ¬ w = 15 := hn 15 (by omega)
    have n16 : ¬ w = 16 := hn 16 (by omega)
    refine ⟨-1, ?_, ?_⟩
    · unfold f_E_count
      rw [if_neg n0, if_neg n1, if_neg n2, if_neg n3, if_neg n4, if_neg n5, if_neg n6, if_neg n7, if_neg n8, if_neg n9, if_neg n10, if_neg n11, if_neg n12, if_neg n13, if_neg n14, if_neg n15, if_neg n16]
    · unfold f_M_count
      rw [if_neg n0, if_neg n1, if_neg n2, if_neg n3, if_neg n4, if_neg n5, if_neg n6, if_neg n7, if_neg n8, if_neg n9, if_neg n10, if_neg n11, if_neg n12, if_neg n13, if_neg n14, if_neg n15, if_neg n16]

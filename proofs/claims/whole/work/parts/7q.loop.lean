/-! the law's loop: any calls -/
theorem stp2 {α : Type} {fE fM : zSt → Option (α × zSt)} {S : zSt} (h : cOk fE fM S) {c : α → α → Prop} [∀ a b, Decidable (c a b)] (hc : ∀ a, c a a) {R : zSt → Option Unit} (hr : ∀ S2, Inv S2 → zN S2 ≤ zN S + 5 → R S2 = some ()) : zb2 (fE S) (fun r S1 => zb2 (fM S1) (fun r2 S2 => if c r r2 then R S2 else none)) = some () := by
  obtain ⟨v, S1, S2, h1, h2, h3, h4, h5⟩ := h
  rw [qb2 h1, qb2 h2, if_pos (hc v)]
  exact hr S2 h3 h5
theorem stp1 {α : Type} [DecidableEq α] {fE fM : zSt → Option α} {S : zSt} (h : ∃ v, fE S = some v ∧ fM S = some v) {R : Option Unit} (hr : R = some ()) : zb1 (fE S) (fun r => zb1 (fM S) (fun r2 => if r = r2 then R else none)) = some () := by
  obtain ⟨v, h1, h2⟩ := h
  rw [qb1 h1, qb1 h2, if_pos rfl]
  exact hr
theorem lg_self (v : Int64) : lg_cmp v v = 0 := by
  unfold lg_cmp
  simp
theorem la_loop (fu : Nat) (hfu : 10000 ≤ fu) (xs : Nat → Int32) (L : Nat) (hL : L ≤ 3072) : ∀ (n k : Nat) (S : zSt), k ≤ 513 → 514 ≤ n + k → Inv S → zN S ≤ 98 + 5 * k → f_La_18 fu xs L n (nI (6 * k)) S = some () := by
  intro n
  induction n with
  | zero => intro k S h1 h2; omega
  | succ n ih =>
    intro k S h1 h2 h hN
    have hzX : zX = 1000000 := rfl
    by_cases hlt : L < 6 * k + 6
    · rw [show f_La_18 fu xs L (n + 1) (nI (6 * k)) S = if nI L - 6 < nI (6 * k) then some () else _ from rfl]
      rw [if_pos]
      rw [q_lt, q_nI (by omega)]
      have e : (nI L - 6).toInt = (L : Int) - 6 := by
        by_cases h6 : 6 ≤ L
        · rw [show nI L - 6 = nI (L - 6) from n_sub (a := L) (b := 6) h6, q_nI (by omega)]
          omega
        · have key : ∀ l : Nat, l < 6 → (nI l - 6).toInt = (l : Int) - 6 := by decide +kernel
          exact key L (by omega)
      rw [e]
      omega
    · have hk : 6 * k + 6 ≤ L := by omega
      have hrec : ∀ S2, Inv S2 → zN S2 ≤ zN S + 5 → f_La_18 fu xs L n (nI (6 * k) + 6) S2 = some () := fun S2 hI hN2 => by
        rw [show nI (6 * k) + 6 = nI (6 * (k + 1)) from n_add (6 * k) 6]
        exact ih (k + 1) S2 (by omega) (by omega) hI (by omega)
      have hself := hrec S h (Nat.le_add_right _ _)
      have G : ∀ (j : Nat), j < 6 → 0 ≤ nI (6 * k) + nI j ∧ (nI (6 * k) + nI j).toNatClampNeg < L := fun j hj => by
        rw [n_add]
        exact ⟨n_0 (by omega), by rw [q_cl (by omega)]; omega⟩
      have g0 : ∀ A : Option Unit, zgd (0 ≤ nI (6 * k) ∧ (nI (6 * k)).toNatClampNeg < L) A = A := fun A => n_gd (by omega) (by omega)
      have g1 : ∀ A : Option Unit, zgd (0 ≤ nI (6 * k) + (1 : Int32) ∧ (nI (6 * k) + (1 : Int32)).toNatClampNeg < L) A = A := fun A => qgd (G 1 (by omega))
      have g2 : ∀ A : Option Unit, zgd (0 ≤ nI (6 * k) + (2 : Int32) ∧ (nI (6 * k) + (2 : Int32)).toNatClampNeg < L) A = A := fun A => qgd (G 2 (by omega))
      have g3 : ∀ A : Option Unit, zgd (0 ≤ nI (6 * k) + (3 : Int32) ∧ (nI (6 * k) + (3 : Int32)).toNatClampNeg < L) A = A := fun A => qgd (G 3 (by omega))
      have g4 : ∀ A : Option Unit, zgd (0 ≤ nI (6 * k) + (4 : Int32) ∧ (nI (6 * k) + (4 : Int32)).toNatClampNeg < L) A = A := fun A => qgd (G 4 (by omega))
      have g5 : ∀ A : Option Unit, zgd (0 ≤ nI (6 * k) + (5 : Int32) ∧ (nI (6 * k) + (5 : Int32)).toNatClampNeg < L) A = A := fun A => qgd (G 5 (by omega))
      have hcmp : ¬ nI L - 6 < nI (6 * k) := by
        rw [show nI L - 6 = nI (L - 6) from n_sub (a := L) (b := 6) (by omega)]
        exact fun h => absurd ((n_lt (by omega) (by omega)).mp h) (by omega)
      obtain ⟨K, eK⟩ : ∃ K, K = f_La_18 fu xs L n := ⟨_, rfl⟩
      rw [← eK] at hrec hself
      unfold f_La_18
      rw [← eK]
      simp only [g0, g1, g2, g3, g4, g5]
      rw [if_neg hcmp]
      generalize (xs (nI (6 * k)).toNatClampNeg) &&& (63 : Int32) = w
      generalize xs (nI (6 * k) + (1 : Int32)).toNatClampNeg = x1
      generalize xs (nI (6 * k) + (2 : Int32)).toNatClampNeg = x2
      generalize xs (nI (6 * k) + (3 : Int32)).toNatClampNeg = x3
      generalize xs (nI (6 * k) + (4 : Int32)).toNatClampNeg = x4
      generalize xs (nI (6 * k) + (5 : Int32)).toNatClampNeg = x5
      by_cases h0 : w = (0 : Int32)
      · rw [if_pos h0]; exact stp2 (call_spring h x1 x2) (fun _ => rfl) hrec
      rw [if_neg h0]
      by_cases h1 : w = (1 : Int32)
      · rw [if_pos h1]; exact stp2 (call_channel h x1 x2 x3) (fun _ => rfl) hrec
      rw [if_neg h1]
      by_cases h2 : w = (2 : Int32)
      · rw [if_pos h2]; exact stp2 (call_of fu (by omega) h x1 x2) (fun _ => rfl) hrec
      rw [if_neg h2]
      by_cases h3 : w = (3 : Int32)
      · rw [if_pos h3]; exact stp2 (call_between fu (by omega) h x1 x2 x3) (fun _ => rfl) hrec
      rw [if_neg h3]
      by_cases h4 : w = (4 : Int32)
      · rw [if_pos h4]; exact stp2 (call_terms h x1 x2) (fun _ => rfl) hrec
      rw [if_neg h4]
      by_cases h5 : w = (5 : Int32)
      · rw [if_pos h5]; exact stp2 (call_feed fu (by omega) h x1 x2 x3 x4 x5) (fun _ => rfl) hrec
      rw [if_neg h5]
      by_cases h6 : w = (6 : Int32)
      · rw [if_pos h6]; exact stp2 (call_end h x1) (fun _ => rfl) hrec
      rw [if_neg h6]
      by_cases h7 : w = (7 : Int32)
      · rw [if_pos h7]; exact stp2 (call_row fu (by omega) h ) (fun _ => rfl) hrec
      rw [if_neg h7]
      by_cases h8 : w = (8 : Int32)
      · rw [if_pos h8]; exact stp1 (call_bubbles h ) hself
      rw [if_neg h8]
      by_cases h9 : w = (9 : Int32)
      · rw [if_pos h9]; exact stp2 (call_law fu (by omega) h (by omega)) (fun _ => rfl) hrec
      rw [if_neg h9]
      by_cases h10 : w = (10 : Int32)
      · rw [if_pos h10]; exact stp2 (call_orders fu (by omega) h ) (fun _ => rfl) hrec
      rw [if_neg h10]
      by_cases h11 : w = (11 : Int32)
      · rw [if_pos h11]; exact stp1 (call_fault h ) hself
      rw [if_neg h11]
      by_cases h12 : w = (12 : Int32)
      · rw [if_pos h12]; exact stp1 (call_stopped h ) hself
      rw [if_neg h12]
      by_cases h13 : w = (13 : Int32)
      · rw [if_pos h13]; exact stp2 (call_force h x1) (fun _ => rfl) hrec
      rw [if_neg h13]
      by_cases h14 : w = (14 : Int32)
      · rw [if_pos h14]; exact stp2 (call_swim fu (by omega) h x1) (fun _ => rfl) hrec
      rw [if_neg h14]
      by_cases h15 : w = (15 : Int32)
      · rw [if_pos h15]; exact stp2 (call_gate fu (by omega) h x1 x2) (fun _ => rfl) hrec
      rw [if_neg h15]
      by_cases h16 : w = (16 : Int32)
      · rw [if_pos h16]; exact stp2 (call_stir fu (by omega) h x1 x2) (fun _ => rfl) hrec
      rw [if_neg h16]
      by_cases h17 : w = (17 : Int32)
      · rw [if_pos h17]; exact stp2 (call_pass fu (by omega) h ) (fun _ => rfl) hrec
      rw [if_neg h17]
      by_cases h18 : w = (18 : Int32)
      · rw [if_pos h18]; exact stp2 (call_undo fu (by omega) h ) (fun _ => rfl) hrec
      rw [if_neg h18]
      by_cases h19 : w = (19 : Int32)
      · rw [if_pos h19]; exact stp2 (call_soon fu (by omega) h x1 x2) (fun _ => rfl) hrec
      rw [if_neg h19]
      by_cases h20 : w = (20 : Int32)
      · rw [if_pos h20]; exact stp2 (call_way fu (by omega) h x1 x2 x3) (fun _ => rfl) hrec
      rw [if_neg h20]
      by_cases h21 : w = (21 : Int32)
      · rw [if_pos h21]; exact stp2 (call_never fu (by omega) h x1) (fun _ => rfl) hrec
      rw [if_neg h21]
      by_cases h22 : w = (22 : Int32)
      · rw [if_pos h22]; exact stp2 (call_centre fu (by omega) h x1) (fun _ => rfl) hrec
      rw [if_neg h22]
      by_cases h23 : w = (23 : Int32)
      · rw [if_pos h23]; exact stp2 (call_round fu (by omega) h x1 x2) (fun _ => rfl) hrec
      rw [if_neg h23]
      by_cases h24 : w = (24 : Int32)
      · rw [if_pos h24]; exact stp2 (call_bound fu (by omega) h x1 x2 x3) (fun _ => rfl) hrec
      rw [if_neg h24]
      by_cases h25 : w = (25 : Int32)
      · rw [if_pos h25]; exact stp2 (call_share fu (by omega) h x1 x2) (fun _ => rfl) hrec
      rw [if_neg h25]
      by_cases h26 : w = (26 : Int32)
      · rw [if_pos h26]; exact stp2 (call_sea fu (by omega) h x1 x2) (fun _ => rfl) hrec
      rw [if_neg h26]
      by_cases h27 : w = (27 : Int32)
      · rw [if_pos h27]; exact stp2 (call_heard h x1 x2) (fun _ => rfl) hrec
      rw [if_neg h27]
      by_cases h28 : w = (28 : Int32)
      · rw [if_pos h28]; exact stp2 (call_forget h ) (fun _ => rfl) hrec
      rw [if_neg h28]
      by_cases h29 : w = (29 : Int32)
      · rw [if_pos h29]; exact stp2 (call_canBe fu (by omega) h ) (fun _ => rfl) hrec
      rw [if_neg h29]
      by_cases h30 : w = (30 : Int32)
      · rw [if_pos h30]; exact stp2 (call_since fu (by omega) h x1) (fun _ => rfl) hrec
      rw [if_neg h30]
      by_cases h31 : w = (31 : Int32)
      · rw [if_pos h31]; exact stp2 (call_listen fu (by omega) h x1) (fun _ => rfl) hrec
      rw [if_neg h31]
      by_cases h32 : w = (32 : Int32)
      · rw [if_pos h32]; exact stp2 (c := fun a b => lg_cmp a b = 0) (call_few fu (by omega) h x1 x2) lg_self hrec
      rw [if_neg h32]
      by_cases h33 : w = (33 : Int32)
      · rw [if_pos h33]; exact stp2 (call_compare fu (by omega) h x1 x2 x3) (fun _ => rfl) hrec
      rw [if_neg h33]
      by_cases h34 : w = (34 : Int32)
      · rw [if_pos h34]; exact stp2 (call_years fu (by omega) h x1 x2) (fun _ => rfl) hrec
      rw [if_neg h34]
      by_cases h35 : w = (35 : Int32)
      · rw [if_pos h35]; exact stp1 (call_drawn h x1 x2) hself
      rw [if_neg h35]
      by_cases h36 : w = (36 : Int32)
      · rw [if_pos h36]; exact stp2 (call_image fu (by omega) h x1) (fun _ => rfl) hrec
      rw [if_neg h36]
      by_cases h37 : w = (37 : Int32)
      · rw [if_pos h37]; exact stp2 (call_back fu (by omega) h x1) (fun _ => rfl) hrec
      rw [if_neg h37]
      by_cases h38 : w = (38 : Int32)
      · rw [if_pos h38]; exact stp1 (call_count fu (by omega) h x1) hself
      rw [if_neg h38]
      by_cases h39 : w = (39 : Int32)
      · rw [if_pos h39]; exact stp1 (call_status h ) hself
      rw [if_neg h39]
      exact hself
/-- the functions alone: any calls from the first state on -/
theorem pure_all (xs : Nat → Int32) (L : Nat) (hL : L ≤ 3072) : ∃ (fu : Nat) (S1 S2 : zSt), f_E_init 0 (znew zS00 0) = some S1 ∧ zN S1 = 72 ∧ f_M_init 72 (znew S1 0) = some S2 ∧ zSR S2 ∧ f_La_18 fu xs L 600 0 S2 = some () := by
  obtain ⟨S1, S2, h1, h2, h3, h4, h5⟩ := first_inv
  have hsr : zSR S2 := by
    obtain ⟨P, es, -, -, -, -, -, -, -, -, hs⟩ := h4
    exact hs.2.2.1
  exact ⟨10000, S1, S2, h1, h2, h3, hsr, la_loop 10000 (Nat.le_refl _) xs L hL 600 0 S2 (by omega) (by omega) h4 (by omega)⟩

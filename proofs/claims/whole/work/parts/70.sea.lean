/-! sea: what is least by so many gates -/
theorem pThr_out {P : zP} (hP : pOK P) (law : List lC) {a b : Nat} (h : pN P ≤ a ∨ pN P ≤ b) : pThr P law a b = 1000000 := by
  obtain ⟨p1, p2, p3, p4, p5, p6, p7, p8, p9⟩ := hP
  have hf : pFar P a b = 0 := by
    rcases h with h | h
    · exact (p8 a b h).1
    · rw [p5 a b]; exact (p8 b a h).1
  unfold pThr
  rw [if_pos (Or.inr (Or.inl hf))]
theorem pThr_self (P : zP) (law : List lC) (a : Nat) : pThr P law a a = 1000000 := by
  unfold pThr
  rw [if_pos (Or.inl rfl)]
theorem pThr_1 {P : zP} (hP : pOK P) (law : List lC) (a b : Nat) : 1 ≤ pThr P law a b ∧ pThr P law a b ≤ 1000000 := by
  by_cases h : pN P ≤ a ∨ pN P ≤ b
  · rw [pThr_out hP law h]; omega
  · have h9 := hP.1
    have := pThr_rg hP law (a := a) (b := b) (by omega) (by omega)
    omega
def by1 (P : zP) (X V : Nat → Nat) (s c : Nat) : Nat := pThr P (pLaw P) s c + (if pSh P s c = true then X c else V c)
def sF (P : zP) (X T : Nat → Nat) : Prop := T 0 = 0 ∧ (∀ s, T s ≤ 1000000) ∧ (∀ s c, s < 9 → c < 9 → T s ≤ by1 P X T s c) ∧ ∀ s, s < 9 → s ≠ 0 → T s < 1000000 → ∃ c, c < 9 ∧ T s = by1 P X T s c
theorem by1_mono {P : zP} {X V W : Nat → Nat} {s c : Nat} (h : V c ≤ W c) : by1 P X V s c ≤ by1 P X W s c := by
  unfold by1
  split
  · exact Nat.le_refl _
  · omega
theorem by1_pos {P : zP} (hP : pOK P) (X V : Nat → Nat) (s c : Nat) : 1 ≤ by1 P X V s c := by
  have := (pThr_1 hP (pLaw P) s c).1
  unfold by1; omega
def mnF (f : Nat → Nat) : Nat → Nat
  | 0 => 1000000
  | n + 1 => min (mnF f n) (f n)
theorem mnF_le (f : Nat → Nat) : ∀ n, mnF f n ≤ 1000000
  | 0 => Nat.le_refl _
  | n + 1 => Nat.le_trans (Nat.min_le_left _ _) (mnF_le f n)
theorem mnF_c (f : Nat → Nat) : ∀ n c, c < n → mnF f n ≤ f c
  | 0, c, h => absurd h (by omega)
  | n + 1, c, h => by
    show min (mnF f n) (f n) ≤ f c
    by_cases e : c = n
    · rw [e]; exact Nat.min_le_right _ _
    · exact Nat.le_trans (Nat.min_le_left _ _) (mnF_c f n c (by omega))
theorem mnF_or (f : Nat → Nat) : ∀ n, mnF f n = 1000000 ∨ ∃ c, c < n ∧ mnF f n = f c
  | 0 => Or.inl rfl
  | n + 1 => by
    have e0 : mnF f (n + 1) = min (mnF f n) (f n) := rfl
    rw [e0]
    by_cases h : mnF f n ≤ f n
    · rw [Nat.min_eq_left h]
      rcases mnF_or f n with h1 | ⟨c, hc, h1⟩
      · exact Or.inl h1
      · exact Or.inr ⟨c, by omega, h1⟩
    · rw [Nat.min_eq_right (by omega)]
      exact Or.inr ⟨n, by omega, rfl⟩
theorem mnF_mono {f g : Nat → Nat} : ∀ n, (∀ c, c < n → f c ≤ g c) → mnF f n ≤ mnF g n
  | 0, _ => Nat.le_refl _
  | n + 1, h => by
    have h1 := mnF_mono (f := f) (g := g) n (fun c hc => h c (by omega))
    have h2 := h n (by omega)
    show min (mnF f n) (f n) ≤ min (mnF g n) (g n)
    omega
def sJ (P : zP) (X V : Nat → Nat) : Nat → Nat := fun s => if s = 0 then 0 else mnF (by1 P X V s) 9
theorem sJ_mono {P : zP} {X V W : Nat → Nat} (h : ∀ s, s < 9 → V s ≤ W s) (s : Nat) : sJ P X V s ≤ sJ P X W s := by
  unfold sJ
  split
  · exact Nat.le_refl _
  · exact mnF_mono 9 (fun c hc => by1_mono (h c hc))
theorem sm_lt {f g : Nat → Nat} : ∀ n, (∀ i, i < n → f i ≤ g i) → (∃ i, i < n ∧ f i < g i) → sm f n < sm g n
  | 0, _, ⟨i, hi, _⟩ => absurd hi (by omega)
  | n + 1, h, ⟨i, hi, hlt⟩ => by
    have hle : ∀ m, m ≤ n → sm f m ≤ sm g m := by
      intro m
      induction m with
      | zero => intro _; exact Nat.le_refl _
      | succ m ih =>
        intro hm
        have := ih (by omega)
        have h2 := h m (by omega)
        show sm f m + f m ≤ sm g m + g m
        omega
    have hn := h n (by omega)
    show sm f n + f n < sm g n + g n
    by_cases e : i = n
    · rw [e] at hlt
      have := hle n (Nat.le_refl _)
      omega
    · have := sm_lt n (fun j hj => h j (by omega)) ⟨i, by omega, hlt⟩
      omega
theorem sJ_ex (P : zP) (X : Nat → Nat) : ∀ b V, sm V 9 ≤ b → (∀ s, s < 9 → sJ P X V s ≤ V s) → ∃ T, ∀ s, s < 9 → sJ P X T s = T s := by
  intro b
  induction b with
  | zero =>
    intro V hb hV
    by_cases h : ∀ s, s < 9 → sJ P X V s = V s
    · exact ⟨V, h⟩
    · have h2 : ∃ s, s < 9 ∧ sJ P X V s < V s := Classical.byContradiction fun hn => h (fun s hs => Nat.le_antisymm (hV s hs) (Nat.le_of_not_lt (fun hlt => hn ⟨s, hs, hlt⟩)))
      have := sm_lt 9 hV h2
      omega
  | succ b ih =>
    intro V hb hV
    by_cases h : ∀ s, s < 9 → sJ P X V s = V s
    · exact ⟨V, h⟩
    · have h2 : ∃ s, s < 9 ∧ sJ P X V s < V s := Classical.byContradiction fun hn => h (fun s hs => Nat.le_antisymm (hV s hs) (Nat.le_of_not_lt (fun hlt => hn ⟨s, hs, hlt⟩)))
      have := sm_lt 9 hV h2
      exact ih (sJ P X V) (by omega) (fun s _ => sJ_mono hV s)
theorem sF_ex (P : zP) (X : Nat → Nat) : ∃ T, sF P X T := by
  obtain ⟨T, hT⟩ := sJ_ex P X (sm (fun s => if s = 0 then 0 else 1000000) 9) (fun s => if s = 0 then 0 else 1000000) (Nat.le_refl _) (fun s _ => by
    unfold sJ
    by_cases e : s = 0
    · rw [if_pos e]; exact Nat.zero_le _
    · rw [if_neg e, if_neg e]; exact mnF_le _ 9)
  have hb : ∀ s c, c < 9 → by1 P X (sJ P X T) s c = by1 P X T s c := fun s c hc => by
    unfold by1
    rw [hT c hc]
  refine ⟨sJ P X T, rfl, fun s => ?_, fun s c hs hc => ?_, fun s hs h0 hlt => ?_⟩
  · unfold sJ
    split
    · omega
    · exact mnF_le _ 9
  · rw [hb s c hc]
    unfold sJ
    split
    · omega
    · exact mnF_c _ 9 c hc
  · have e : sJ P X T s = mnF (by1 P X T s) 9 := by unfold sJ; rw [if_neg h0]
    rw [e] at hlt ⊢
    rcases mnF_or (by1 P X T s) 9 with h1 | ⟨c, hc, h1⟩
    · omega
    · exact ⟨c, hc, by rw [hb s c hc]; exact h1⟩
noncomputable def sT (P : zP) : Nat → Nat → Nat
  | 0 => Classical.choose (sF_ex P (fun _ => 1000000))
  | k + 1 => Classical.choose (sF_ex P (sT P k))
def xU (T : Nat → Nat → Nat) (k c : Nat) : Nat := if k = 0 then 1000000 else T (k - 1) c
theorem sT_ok (P : zP) : ∀ k, sF P (xU (sT P) k) (sT P k)
  | 0 => Classical.choose_spec (sF_ex P (fun _ => 1000000))
  | k + 1 => Classical.choose_spec (sF_ex P (sT P k))
def rkT (T : Nat → Nat) (n x : Nat) : Nat := rkP (fun c _ => T c) n 0 x
section SEA
variable {P : zP} {X T : Nat → Nat}
theorem sF_out (hP : pOK P) (hT : sF P X T) {s : Nat} (hs : s < 9) (h : pN P ≤ s) (h0 : s ≠ 0) : T s = 1000000 := by
  refine Nat.le_antisymm (hT.2.1 s) (Nat.le_of_not_lt fun hlt => ?_)
  obtain ⟨c, hc, e⟩ := hT.2.2.2 s hs h0 hlt
  unfold by1 at e
  rw [pThr_out hP _ (Or.inl h)] at e
  omega
theorem sF_pos (hP : pOK P) (hT : sF P X T) {s : Nat} (hs : s < 9) (h0 : s ≠ 0) : 1 ≤ T s := by
  by_cases hlt : T s < 1000000
  · obtain ⟨c, hc, e⟩ := hT.2.2.2 s hs h0 hlt
    rw [e]; exact by1_pos hP X T s c
  · omega
theorem rk_0 (hP : pOK P) (hT : sF P X T) (hn : 0 < pN P) {x : Nat} (hx : x < pN P) (h : rkT T (pN P) x = 0) : x = 0 := by
  have h9 := hP.1
  refine Classical.byContradiction fun h0 => ?_
  have h1 := sF_pos hP hT (by omega : x < 9) h0
  have := rkP_lt (D := fun c _ => T c) (n := pN P) (to := 0) (a := x) (c := 0) hn (by show T 0 < T x; rw [hT.1]; omega)
  unfold rkT at h
  omega
def gM (P : zP) (X T V : Nat → Nat) (r s c : Nat) : Prop := (∀ x, x < pN P → T x ≤ V x ∧ V x ≤ 1000000) ∧ (∀ x, x < pN P → rkT T (pN P) x ≤ r → V x = T x) ∧ (∀ x, x < pN P → x < s → rkT T (pN P) x ≤ r + 1 → V x = T x) ∧ (s < pN P → ∀ y, y < pN P → y < c → (pSh P s y = true ∨ rkT T (pN P) y ≤ r) → V s ≤ by1 P X T s y)
def upV (V : Nat → Nat) (s v : Nat) : Nat → Nat := fun x => if x = s then v else V x
theorem gM_step (hP : pOK P) (hT : sF P X T) {V : Nat → Nat} {r s c : Nat} (h : gM P X T V r s c) (hs : s < pN P) (hc : c < pN P) : gM P X T (upV V s (min (V s) (by1 P X V s c))) r s (c + 1) := by
  have h9 := hP.1
  obtain ⟨h1, h2, h3, h4⟩ := h
  have hge : T s ≤ by1 P X V s c := Nat.le_trans (hT.2.2.1 s c (by omega) (by omega)) (by1_mono (h1 c hc).1)
  have hs1 := h1 s hs
  refine ⟨fun x hx => ?_, fun x hx hr => ?_, fun x hx hxs hr => ?_, fun _ y hy hyc hor => ?_⟩
  · unfold upV
    by_cases e : x = s
    · rw [if_pos e, e]; omega
    · rw [if_neg e]; exact h1 x hx
  · unfold upV
    by_cases e : x = s
    · rw [if_pos e, e]
      have := h2 s hs (by rw [← e]; exact hr)
      omega
    · rw [if_neg e]; exact h2 x hx hr
  · unfold upV
    rw [if_neg (by omega)]
    exact h3 x hx hxs hr
  · have e0 : upV V s (min (V s) (by1 P X V s c)) s = min (V s) (by1 P X V s c) := by unfold upV; rw [if_pos rfl]
    rw [e0]
    by_cases e : y = c
    · have : by1 P X V s c = by1 P X T s y := by
        rw [e]
        unfold by1
        by_cases hs' : pSh P s c = true
        · rw [if_pos hs', if_pos hs']
        · rw [if_neg hs', if_neg hs']
          rcases hor with ho | ho
          · rw [e] at ho; exact absurd ho hs'
          · rw [e] at ho; rw [h2 c hc ho]
      omega
    · have := h4 hs y hy (by omega) hor
      omega
theorem gM_skip {V : Nat → Nat} {r s c c' : Nat} (h : gM P X T V r s c) (hc : pN P ≤ c) : gM P X T V r s c' := ⟨h.1, h.2.1, h.2.2.1, fun hs y hy _ ho => h.2.2.2 hs y hy (by omega) ho⟩
theorem gM_row (hP : pOK P) (hT : sF P X T) {V : Nat → Nat} {r s c : Nat} (h : gM P X T V r s c) (hc : pN P ≤ c) : gM P X T V r (s + 1) 0 := by
  have h9 := hP.1
  obtain ⟨h1, h2, h3, h4⟩ := h
  refine ⟨h1, h2, fun x hx hxs hr => ?_, fun _ y _ hy => absurd hy (by omega)⟩
  by_cases e : x = s
  · have hx1 := h1 x hx
    by_cases h0 : x = 0
    · have r0 : rkT T (pN P) x ≤ r := by
        have : rkT T (pN P) x = 0 := by
          unfold rkT rkP
          rw [List.countP_eq_zero]
          intro y _ hy
          have hy2 : T y < T x := of_decide_eq_true hy
          rw [h0, hT.1] at hy2
          omega
        omega
      exact h2 x hx r0
    · by_cases hlt : T x < 1000000
      · obtain ⟨y, hy, ey⟩ := hT.2.2.2 x (by omega) h0 hlt
        have hyn : y < pN P := Nat.lt_of_not_le fun hge => by
          unfold by1 at ey
          rw [pThr_out hP _ (Or.inr hge)] at ey
          omega
        have key : pSh P x y = true ∨ rkT T (pN P) y ≤ r := by
          by_cases hsh : pSh P x y = true
          · exact Or.inl hsh
          · refine Or.inr ?_
            have p1 := (pThr_1 hP (pLaw P) x y).1
            unfold by1 at ey
            rw [if_neg hsh] at ey
            have := rkP_lt (D := fun c _ => T c) (n := pN P) (to := 0) (a := x) (c := y) hyn (by show T y < T x; omega)
            unfold rkT at hr ⊢
            omega
        have := h4 (by omega) y hyn (by omega) (by rw [← e]; exact key)
        rw [← e] at this
        omega
      · omega
  · exact h3 x hx (by omega) hr
theorem gM_round {V : Nat → Nat} {r s c : Nat} (h : gM P X T V r s c) (hs : pN P ≤ s) : gM P X T V (r + 1) 0 0 := ⟨h.1, fun x hx hr => h.2.2.1 x hx (by omega) hr, fun x _ hx => absurd hx (by omega), fun _ y _ hy => absurd hy (by omega)⟩
theorem gM_init (hP : pOK P) (hT : sF P X T) (hn : 0 < pN P) : gM P X T (fun x => if x = 0 then 0 else 1000000) 0 0 0 := by
  refine ⟨fun x hx => ?_, fun x hx hr => ?_, fun x _ hx => absurd hx (by omega), fun _ y _ hy => absurd hy (by omega)⟩
  · have := hT.2.1 x
    show T x ≤ (if x = 0 then 0 else 1000000) ∧ (if x = 0 then 0 else 1000000) ≤ 1000000
    by_cases e : x = 0
    · rw [if_pos e, e, hT.1]; omega
    · rw [if_neg e]; omega
  · have := rk_0 hP hT hn hx (by omega)
    rw [this, hT.1]; rfl
theorem gM_from1 (hP : pOK P) (hT : sF P X T) (hn : 0 < pN P) {V : Nat → Nat} {r : Nat} (h : gM P X T V r 0 0) : gM P X T V r 1 0 := by
  refine ⟨h.1, h.2.1, fun x hx hx1 hr => ?_, fun _ y _ hy => absurd hy (by omega)⟩
  have : x = 0 := by omega
  refine h.2.1 x hx ?_
  have : rkT T (pN P) x = 0 := by
    unfold rkT rkP
    rw [List.countP_eq_zero]
    intro y _ hy
    have hy2 : T y < T x := of_decide_eq_true hy
    rw [this, hT.1] at hy2
    omega
  omega
theorem gM_end {V : Nat → Nat} {r s c : Nat} (h : gM P X T V r s c) (hr : pN P ≤ r + 1) {x : Nat} (hx : x < pN P) : V x = T x := by
  have := rkP_n (D := fun c _ => T c) (n := pN P) (to := 0) hx
  exact h.2.1 x hx (by unfold rkT; omega)
end SEA

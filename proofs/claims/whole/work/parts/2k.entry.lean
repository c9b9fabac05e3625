/-! the law from its entry, over the state: what is left is a matter of f_La_18 alone -/
def zS00 : zSt := (fun _ _ => 0, fun _ _ => 0, fun _ _ => none, 0, fun _ => 0)
def zSkel_law : String := "EelClerkLaw"
theorem zW00 (G : zG) : zW G false zS00 G.1 := ⟨rfl, Nat.zero_le _, fun _ _ => rfl, fun i hi => absurd hi (Nat.not_lt_zero i), fun h => by cases h⟩
set_option maxRecDepth 100000 in
set_option maxHeartbeats 4000000 in
theorem law_start {p : Program} {l : Launch} {e : Env} {s : State} {m : MethodId} {below : List Frame} {meth : Method} {c : Code} {b L : Nat} {xs : Nat → Int32} {Q : State → Prop}
    (hx : p.tables.exec = Jvm.exec) (hb : c.code = code) (hml : c.maxLocals = 4) (hown : s.vm.findClass "EelClerkLaw" = some m.cls) (hts : ∀ w ∈ lw_tbl, w.before #[Value.ref b] s = true) (hX : va_X b L xs s s.heap) (hbl : b < s.heap.size) (hlocks : meth.locks = false) (hgv : (Jvm.Cond.and given_1 narrow_1).before #[Value.ref b] s = true)
    (hQ : ∀ (H : Heap) (locs : List Loc) (cells slots : Nat) (la : Array Slot) (pc : Nat), cells ≤ 600000 → slots ≤ 7302250 → (∀ q ∈ locs, s.heap.size ≤ q.base) → decode code pc = .ok (.ireturn, 1) → W p l e room_1 s m #[Value.ref b] below meth c H locs cells slots Q (F0 m pc la [.int 1]))
    {fu : Nat} {S1 S2 : zSt} (h1 : f_E_init 0 (znew zS00 0) = some S1) (hN1 : zN S1 = 72) (h2 : f_M_init 72 (znew S1 0) = some S2) (hSR : zSR S2) (hf : f_La_18 fu xs L 600 0 S2 = some ()) :
    W p l e room_1 s m #[Value.ref b] below meth c s.heap [] 0 0 Q (entryFrame m ([Value.ref b] : List Value).toArray 4) := by
  obtain ⟨G, hG, hGb, hKK⟩ := zG_start hts hgv
  have hzb : zb G = s.heap.size := by unfold zb; rw [hG]
  have C : zC p s m #[Value.ref b] meth c G code 4 "EelClerkLaw" := ⟨hx, hb, hml, hown, fun w h => hts w (zGW_lw h), hlocks, hKK⟩
  have hXG : va_X (G.2.1 60) L xs s G.1 := by rw [hGb, hG]; exact hX
  have hXb : G.2.1 60 < zb G := by rw [hGb, hzb]; exact hbl
  have hfin : ∀ cells slots : Nat, cells ≤ 600000 → slots ≤ 7302250 → ∀ (S : zSt) (pc : Nat) (ls : List (Nat × zV)), decode code pc = .ok (.ireturn, 1) → zJ p l e room_1 s m #[Value.ref b] below meth c G true 4 cells slots Q S pc ls [zi 1] :=
    fun cells slots hc hs S pc ls hd H locs la hW hq hl => hQ H locs cells slots la pc hc hs (fun q h => by rw [← hzb]; exact hq q h) hd
  have key : zJ p l e room_1 s m #[Value.ref b] below meth c G false 4 0 0 Q zS00 0 [(0, zr (some (zX + 60)))] [] := by
    refine z_new C 0 (by decide) (show zK 0 = 0 by decide) (show 0 < zX by decide) cl_La_7 inst_0 ini_0 (Nat.le_of_ble_eq_true rfl) (Nat.le_of_ble_eq_true rfl) d_La_law_0 ?_
    refine z_dup C rfl d_La_law_3 ?_
    refine z_callI C (m_E_init l (show zK 0 = 0 by decide) h1) mf_E_init (Or.inl lk_La_9) in_E_init rfl (Nat.lt_succ_self 0) ⟨Nat.le_of_ble_eq_true rfl, Nat.le_of_ble_eq_true rfl, Nat.le_of_ble_eq_true rfl, Nat.le_of_ble_eq_true rfl⟩ rfl _ [zr (some 0)] rfl (Nat.le_of_ble_eq_true rfl) d_La_law_4 ?_
    refine z_astore_n C [(1, zr (some 0)), (0, zr (some (zX + 60)))] d_La_law_7 rfl (by decide) rfl ?_
    refine z_new C 11 (by decide) (by rw [hN1]; decide) (by rw [hN1]; decide) cl_La_10 inst_11 ini_11 (Nat.le_of_ble_eq_true rfl) (Nat.le_of_ble_eq_true rfl) d_La_law_8 ?_
    rw [hN1]
    refine z_dup C rfl d_La_law_11 ?_
    refine z_callI C (m_M_init l (show zK 72 = 11 by decide) h2) mf_M_init (Or.inl lk_La_12) in_M_init rfl (by rw [znew_N, hN1]; decide) ⟨Nat.le_of_ble_eq_true rfl, Nat.le_of_ble_eq_true rfl, Nat.le_of_ble_eq_true rfl, Nat.le_of_ble_eq_true rfl⟩ rfl _ [zr (some 72)] rfl (Nat.le_of_ble_eq_true rfl) d_La_law_12 ?_
    refine z_strong hSR ?_
    refine z_astore_n C [(2, zr (some 72)), (1, zr (some 0)), (0, zr (some (zX + 60)))] d_La_law_15 rfl (by decide) rfl ?_
    refine z_iconst C 0 (by decide) d_La_law_16 ?_
    refine z_istore_n C [(3, zi 0), (2, zr (some 72)), (1, zr (some 0)), (0, zr (some (zX + 60)))] d_La_law_17 rfl (by decide) rfl ?_
    refine zq_lsub [3, 2, 1, 0] [(0, zr (some (zX + 60))), (1, zr (some 0)), (2, zr (some 72)), (3, zi 0)] rfl ?_
    refine z_widen (98 + 5 * 0) (32000 + 503 * 0) (Nat.le_of_ble_eq_true rfl) (Nat.le_of_ble_eq_true rfl) ?_
    exact c_La_18 C hXG hXb hfin 600 0 S2 0 (Nat.le_refl _) hf
  have hl := lv_entry ([.ref b]) (n := 4) (Nat.le_of_ble_eq_true rfl)
  rw [lg_entry_eq]
  generalize (lg_sl ([.ref b]) ++ List.replicate (4 - (lg_sl ([.ref b])).length) Slot.unset).toArray = la at hl ⊢
  have hl : lv_has la 4 (zls G [(0, zr (some (zX + 60)))]) := by
    have e1 : zls G [(0, zr (some (zX + 60)))] = [(0, .ref b)] := by
      show [(0, Value.ref (zad G (zX + 60)))] = _
      rw [zx_ad, hGb]
    rw [e1]
    exact hl
  have k2 := key s.heap [] la (by have := zW00 G; rw [hG] at this; exact this) (fun q h => by cases h) hl
  exact k2
